/-! ===== the calls that change, on both sides ===== -/
def tailC (act : jMem → Option (Int × jMem)) (m : jMem) : Option ((Int ⊕ String) × jMem) := (f_History_mark m).bind fun m2 => (act m2).bind fun qx3 => (f_Reg_settle qx3.2 qx3.1).bind fun qx4 => sel qx4.1 (fun x4 => some (.inl x4, qx4.2)) (fun e6 => some (.inr e6, qx4.2))
def okF (F : jMem → jMem) : Prop := ∀ m, SQ m (F m) ∧ (F m) 155 = m 155
theorem okF_z : okF Fz := fun m => ⟨(MQr.F m 0).2.2, (MQr.F m 0).2.1⟩
theorem okF_i : okF (fun m => m) := fun m => ⟨SQ.refl m, rfl⟩
section Calls
variable {m : jMem} {F : jMem → jMem} {act mod : jMem → Option (Int × jMem)} {A : Option (Int × jMem)} {od ps : Nat → Nat} {c : Int}
theorem IV.r0 (I : IV m) (H : RP 1 m (m 148) od ps) (R : RH 1 m (m 148)) (Y : m 1 2 = m 148 2) (V : GP (m 148)) (W : GH (m 148)) {m1 : jMem} (B : BE 1 1 m m1) (T : TY 1 m1) : R0 m1 (m 148) od ps := ⟨H.tr B V, R.tr B W, B.1.trans Y, V, W, T⟩
theorem IV.rr (I : IV m) (H : RP 1 m (m 148) od ps) (R : RH 1 m (m 148)) (Y : m 1 2 = m 148 2) (V : GP (m 148)) (W : GH (m 148)) : R0 m (m 148) od ps := I.r0 H R Y V W (BE.of fun _ _ _ => rfl) I.2.2.1.1
theorem Q_inl (I : IV m) (H : RP 1 m (m 148) od ps) (R : RH 1 m (m 148)) (Y : m 1 2 = m 148 2) (V : GP (m 148)) (W : GH (m 148)) (hF : okF F) {x : Int × (Nat → Int)} (hAS : AS act (m 148) od ps (some (.inl x))) (hMS : MS F mod (m 148) c (some (.inl x))) (hA : ∀ v m3, tailC act m = some (.inl v, m3) → A = some (0, mset m3 155 0 v)) : Qok A mod := by
  have hv : 0 ≤ x.1 := (hAS m (I.rr H R Y V W)).1
  obtain ⟨m3, e3, h3, P3⟩ := mutR I (act := act) (v := x.1) (g' := x.2) hv fun m1 B T => by
    obtain ⟨-, g1, m2, od', ps', e, f, Q⟩ := hAS m1 (I.r0 H R Y V W B T)
    exact ⟨m2, e, fun q hq => f q (by omega), Q.rs g1, Q.T⟩
  have hA' := hA x.1 m3 e3
  have P4 : Pst (F (mset m3 155 0 x.1)) (m 148) x.2 := P3.sq ((SQ.out m3 0 x.1).trans (hF _).1)
  have g4 : (mset m3 155 0 x.1) 148 = m 148 := (mset_ne (by omega)).trans h3
  have g5 : (F (mset m3 155 0 x.1)) 148 = m 148 := ((hF _).1.1 148 (by omega)).trans g4
  obtain ⟨m5, e5, h5, k5, z5, fin⟩ := mutM P4 g5
  obtain ⟨m6, e6, h6, q6⟩ := hMS _ g4 m5 e5 h5
  refine ⟨0, _, x.1, m6, hA', e6, ?_, fun _ => ?_, fin m6 q6 h6⟩
  · rw [q6 147 (by omega), z5]
  · rw [q6 155 (by omega), k5, (hF _).2, ms_f]
theorem Q_inr (I : IV m) (H : RP 1 m (m 148) od ps) (R : RH 1 m (m 148)) (Y : m 1 2 = m 148 2) (V : GP (m 148)) (W : GH (m 148)) (hF : okF F) (hc : c ≠ 0) {x : Int × Int} (hAS : AS act (m 148) od ps (some (.inr x))) (hMS : MS F mod (m 148) c (some (.inr x))) (hA : ∀ m3, tailC act m = some (.inr "java/lang/UnsupportedOperationException", m3) → A = some (c, m3)) : Qok A mod := by
  obtain ⟨m3, e3, h3, P3⟩ := rejR I (act := act) (r := x.1) (d := x.2) fun m1 B T => (hAS m1 (I.r0 H R Y V W B T)).2
  have hr : x.1 ≠ 12 := (hAS m (I.rr H R Y V W)).1.1
  obtain ⟨m4, e4, z4, I4⟩ := rejM (c := c) (P3.sq (hF m3).1) hr
  refine ⟨c, m3, 0, m4, hA m3 e3, ?_, z4, fun h => absurd h hc, I4⟩
  have := hMS m3 h3
  exact Eq.trans this e4
theorem Q_dir (I : IV m) (H : RP 1 m (m 148) od ps) (R : RH 1 m (m 148)) (Y : m 1 2 = m 148 2) (V : GP (m 148)) (W : GH (m 148)) (hF : okF F) (hc : c ≠ 0) (h : ∃ o, AS act (m 148) od ps (some o) ∧ MS F mod (m 148) c (some o)) (hA : ∀ v m3, tailC act m = some (.inl v, m3) → A = some (0, mset m3 155 0 v)) (hA2 : ∀ m3, tailC act m = some (.inr "java/lang/UnsupportedOperationException", m3) → A = some (c, m3)) : Qok A mod := by
  obtain ⟨o, h1, h2⟩ := h
  cases o with
  | inl x => exact Q_inl I H R Y V W hF h1 h2 hA
  | inr x => exact Q_inr I H R Y V W hF hc h1 h2 hA2
theorem q_addFounder (I : IV m) : Qok (f_Law_addFounder m) f_Mod_addFounder := by
  obtain ⟨od, ps, H, R, Y, V, W, L⟩ := I.g
  exact Q_dir I H R Y V W okF_i (show (1 : Int) ≠ 0 by omega) (o_found V W L) (fun v m3 h => LaddFounder_i h) (fun m3 h => LaddFounder_e1 h)
theorem q_addChild (I : IV m) (a : Int) : Qok (f_Law_addChild m a) (fun m1 => f_Mod_addChild m1 a) := by
  obtain ⟨od, ps, H, R, Y, V, W, L⟩ := I.g
  by_cases h : 0 ≤ a ∧ a < m 148 0
  · obtain ⟨i, rfl, hi⟩ := pin V h
    have hr : f_Reg_addChild m (i : Int) = tailC (fun m1 => f_Actions_newChild m1 (i : Int)) m := by
      unfold f_Reg_addChild
      rw [RqP_in V H hi, Option.bind_some, oel_n]
      rfl
    exact Q_dir I H R Y V W okF_z (show (2 : Int) ≠ 0 by omega) (o_child V W L hi) (fun v m3 h => LaddChild_i (hr.trans h)) (fun m3 h => LaddChild_e2 (hr.trans h))
  · refine Qc (v := 0) I (show (1 : Int) ≠ 0 by omega) (LaddChild_e1 ?_) ?_ (MQr.F _ 1)
    · unfold f_Reg_addChild
      rw [RqP_out V H h, Option.bind_some, oel_s]
    · show f_Mod_addChild _ _ = _
      unfold f_Mod_addChild
      rw [M_per_out V rfl h, Option.bind_some, if_pos rfl, M_fails (by omega), Option.bind_some]
      dsimp only
      rw [if_neg (by omega)]
theorem q_bury (I : IV m) (a : Int) : Qok (f_Law_bury m a) (fun m1 => f_Mod_bury m1 a) := by
  obtain ⟨od, ps, H, R, Y, V, W, L⟩ := I.g
  by_cases h : 0 ≤ a ∧ a < m 148 0
  · obtain ⟨i, rfl, hi⟩ := pin V h
    have hr : f_Reg_bury m (i : Int) = tailC (fun m1 => f_Actions_burial m1 (i : Int)) m := by
      unfold f_Reg_bury
      rw [RqP_in V H hi, Option.bind_some, oel_n]
      rfl
    exact Q_dir I H R Y V W okF_z (show (2 : Int) ≠ 0 by omega) (o_bury (I.rr H R Y V W) L hi) (fun v m3 h => Lbury_i (hr.trans h)) (fun m3 h => Lbury_e2 (hr.trans h))
  · refine Qc (v := 0) I (show (1 : Int) ≠ 0 by omega) (Lbury_e1 ?_) ?_ (MQr.F _ 1)
    · unfold f_Reg_bury
      rw [RqP_out V H h, Option.bind_some, oel_s]
    · show f_Mod_bury _ _ = _
      unfold f_Mod_bury
      rw [M_per_out V rfl h, Option.bind_some, if_pos rfl, M_fails (by omega), Option.bind_some]
      dsimp only
      rw [if_neg (by omega)]
theorem q_practise (I : IV m) (a : Int) : Qok (f_Law_practise m a) (fun m1 => f_Mod_practise m1 a) := by
  obtain ⟨od, ps, H, R, Y, V, W, L⟩ := I.g
  by_cases h : 0 ≤ a ∧ a < m 148 1
  · obtain ⟨k, rfl, hkl⟩ := hin W h
    have hr : f_Reg_practise m (k : Int) = tailC (fun m1 => f_Actions_practice m1 (k : Int)) m := by
      unfold f_Reg_practise
      rw [RqH_in W R hkl, Option.bind_some, oel_n]
      rfl
    exact Q_dir I H R Y V W okF_z (show (2 : Int) ≠ 0 by omega) (o_prac V W L hkl) (fun v m3 h => Lpractise_i (hr.trans h)) (fun m3 h => Lpractise_e2 (hr.trans h))
  · refine Qc (v := 0) I (show (1 : Int) ≠ 0 by omega) (Lpractise_e1 ?_) ?_ (MQr.F _ 1)
    · unfold f_Reg_practise
      rw [RqH_out R h, Option.bind_some, oel_s]
    · show f_Mod_practise _ _ = _
      unfold f_Mod_practise
      rw [M_hab_out W rfl h, Option.bind_some, if_pos rfl, M_fails (by omega), Option.bind_some]
      dsimp only
      rw [if_neg (by omega)]

theorem q_neglect (I : IV m) (a : Int) : Qok (f_Law_neglect m a) (fun m1 => f_Mod_neglect m1 a) := by
  obtain ⟨od, ps, H, R, Y, V, W, L⟩ := I.g
  by_cases h : 0 ≤ a ∧ a < m 148 1
  · obtain ⟨k, rfl, hkl⟩ := hin W h
    have hr : f_Reg_neglect m (k : Int) = tailC (fun m1 => f_Actions_neglecting m1 (k : Int)) m := by
      unfold f_Reg_neglect
      rw [RqH_in W R hkl, Option.bind_some, oel_n]
      rfl
    exact Q_dir I H R Y V W okF_z (show (2 : Int) ≠ 0 by omega) (o_negl V W L hkl) (fun v m3 h => Lneglect_i (hr.trans h)) (fun m3 h => Lneglect_e2 (hr.trans h))
  · refine Qc (v := 0) I (show (1 : Int) ≠ 0 by omega) (Lneglect_e1 ?_) ?_ (MQr.F _ 1)
    · unfold f_Reg_neglect
      rw [RqH_out R h, Option.bind_some, oel_s]
    · show f_Mod_neglect _ _ = _
      unfold f_Mod_neglect
      rw [M_hab_out W rfl h, Option.bind_some, if_pos rfl, M_fails (by omega), Option.bind_some]
      dsimp only
      rw [if_neg (by omega)]

theorem q_entail (I : IV m) (a : Int) : Qok (f_Law_entail m a) (fun m1 => f_Mod_entail m1 a) := by
  obtain ⟨od, ps, H, R, Y, V, W, L⟩ := I.g
  by_cases h : 0 ≤ a ∧ a < m 148 1
  · obtain ⟨k, rfl, hkl⟩ := hin W h
    have hr : f_Reg_entail m (k : Int) = tailC (fun m1 => f_Actions_entailing m1 (k : Int)) m := by
      unfold f_Reg_entail
      rw [RqH_in W R hkl, Option.bind_some, oel_n]
      rfl
    exact Q_dir I H R Y V W okF_z (show (2 : Int) ≠ 0 by omega) (o_enta V W L H.o hkl) (fun v m3 h => Lentail_i (hr.trans h)) (fun m3 h => Lentail_e2 (hr.trans h))
  · refine Qc (v := 0) I (show (1 : Int) ≠ 0 by omega) (Lentail_e1 ?_) ?_ (MQr.F _ 1)
    · unfold f_Reg_entail
      rw [RqH_out R h, Option.bind_some, oel_s]
    · show f_Mod_entail _ _ = _
      unfold f_Mod_entail
      rw [M_hab_out W rfl h, Option.bind_some, if_pos rfl, M_fails (by omega), Option.bind_some]
      dsimp only
      rw [if_neg (by omega)]

theorem q_breakEntail (I : IV m) (a : Int) : Qok (f_Law_breakEntail m a) (fun m1 => f_Mod_breakEntail m1 a) := by
  obtain ⟨od, ps, H, R, Y, V, W, L⟩ := I.g
  by_cases h : 0 ≤ a ∧ a < m 148 1
  · obtain ⟨k, rfl, hkl⟩ := hin W h
    have hr : f_Reg_breakEntail m (k : Int) = tailC (fun m1 => f_Actions_breaking m1 (k : Int)) m := by
      unfold f_Reg_breakEntail
      rw [RqH_in W R hkl, Option.bind_some, oel_n]
      rfl
    exact Q_dir I H R Y V W okF_z (show (2 : Int) ≠ 0 by omega) (o_brea V W L hkl) (fun v m3 h => LbreakEntail_i (hr.trans h)) (fun m3 h => LbreakEntail_e2 (hr.trans h))
  · refine Qc (v := 0) I (show (1 : Int) ≠ 0 by omega) (LbreakEntail_e1 ?_) ?_ (MQr.F _ 1)
    · unfold f_Reg_breakEntail
      rw [RqH_out R h, Option.bind_some, oel_s]
    · show f_Mod_breakEntail _ _ = _
      unfold f_Mod_breakEntail
      rw [M_hab_out W rfl h, Option.bind_some, if_pos rfl, M_fails (by omega), Option.bind_some]
      dsimp only
      rw [if_neg (by omega)]

theorem q_give (I : IV m) (a b : Int) : Qok (f_Law_give m a b) (fun m1 => f_Mod_give m1 a b) := by
  obtain ⟨od, ps, H, R, Y, V, W, L⟩ := I.g
  by_cases h : 0 ≤ a ∧ a < m 148 1
  · obtain ⟨k, rfl, hkl⟩ := hin W h
    by_cases h2 : 0 ≤ b ∧ b < m 148 0
    · obtain ⟨p, rfl, hp3⟩ := pin V h2
      have hr : f_Reg_give m (k : Int) (p : Int) = tailC (fun m1 => f_Actions_gift m1 (k : Int) (p : Int)) m := by
        unfold f_Reg_give
        rw [RqH_in W R hkl, Option.bind_some, oel_n, RqP_in V H hp3, Option.bind_some, oel_n]
        rfl
      exact Q_dir I H R Y V W okF_z (show (2 : Int) ≠ 0 by omega) (o_give V W L hkl hp3) (fun v m3 h => Lgive_i (hr.trans h)) (fun m3 h => Lgive_e2 (hr.trans h))
    · refine Qc (v := 0) I (show (1 : Int) ≠ 0 by omega) (Lgive_e1 ?_) ?_ (MQr.F _ 1)
      · unfold f_Reg_give
        rw [RqH_in W R hkl, Option.bind_some, oel_n, RqP_out V H h2, Option.bind_some, oel_s]
      · show f_Mod_give _ _ _ = _
        unfold f_Mod_give
        rw [M_hab_in W rfl hkl, Option.bind_some, if_neg (by omega), M_per_out V rfl h2, Option.bind_some, if_pos rfl, M_fails (by omega), Option.bind_some]
        dsimp only
        rw [if_neg (by omega)]
  · refine Qc (v := 0) I (show (1 : Int) ≠ 0 by omega) (Lgive_e1 ?_) ?_ (MQr.F _ 1)
    · unfold f_Reg_give
      rw [RqH_out R h, Option.bind_some, oel_s]
    · show f_Mod_give _ _ _ = _
      unfold f_Mod_give
      rw [M_hab_out W rfl h, Option.bind_some, if_pos rfl, M_fails (by omega), Option.bind_some]
      dsimp only
      rw [if_neg (by omega)]
theorem q_passYears (I : IV m) (a : Int) : Qok (f_Law_passYears m a) (fun m1 => f_Mod_passYears m1 a) := by
  obtain ⟨od, ps, H, R, Y, V, W, L⟩ := I.g
  by_cases h : 1 ≤ a ∧ a ≤ 9
  · obtain ⟨n, hn⟩ := Int.eq_ofNat_of_zero_le (show 0 ≤ a by omega)
    subst hn
    have hr : f_Reg_passYears m (n : Int) = tailC (fun m1 => f_Actions_passing m1 (n : Int)) m := by
      unfold f_Reg_passYears f_Reg_isYears
      rw [if_neg (by omega), if_neg (by omega), Option.bind_some, if_neg (by omega)]
      rfl
    obtain ⟨x, h1, h2⟩ := o_pass (I.rr H R Y V W) L (a := n) ⟨by omega, by omega⟩ 1
    exact Q_inl I H R Y V W okF_z h1 h2 (fun v m3 h => LpassYears_i (hr.trans h))
  · refine Qc (v := 0) I (show (1 : Int) ≠ 0 by omega) (LpassYears_e1 ?_) ?_ (MQr.F _ 1)
    · unfold f_Reg_passYears f_Reg_isYears
      by_cases h1 : a < 1
      · rw [if_pos h1, Option.bind_some, if_pos rfl]
      · rw [if_neg h1, if_pos (by omega), Option.bind_some, if_pos rfl]
    · show f_Mod_passYears _ _ = _
      have e : f_Mod_in m a 1 9 = some 0 := by
        unfold f_Mod_in
        by_cases h1 : a < 1
        · rw [if_pos h1]
        · rw [if_neg h1, if_pos (by omega)]
      unfold f_Mod_passYears
      rw [e, Option.bind_some, if_pos rfl, M_fails (by omega), Option.bind_some]
      dsimp only
      rw [if_neg (by omega)]
theorem q_addHabit (I : IV m) (a b s : Int) : Qok (f_Law_addHabit m a b s) (fun m1 => f_Mod_addHabit m1 a b s) := by
  obtain ⟨od, ps, H, R, Y, V, W, L⟩ := I.g
  by_cases h : 0 ≤ a ∧ a < m 148 0
  · obtain ⟨i, rfl, hi⟩ := pin V h
    rcases kof_cases b with ⟨e, hb⟩ | ⟨e, hb⟩
    · refine Qc (v := 0) I (show (2 : Int) ≠ 0 by omega) (LaddHabit_e2 ?_) ?_ (MQr.F _ 2)
      · unfold f_Reg_addHabit
        rw [RqP_in V H hi, Option.bind_some, oel_n, RqK_no m hb, Option.bind_some, oel_s]
      · show f_Mod_addHabit _ _ _ _ = _
        unfold f_Mod_addHabit
        rw [M_k0, Option.bind_some, M_per_in V rfl hi, Option.bind_some, if_neg (by omega), if_pos (by omega), M_fails (by omega), Option.bind_some]
        dsimp only
        rw [if_neg (by omega)]
    · by_cases hs3 : 1 ≤ s ∧ s ≤ 9
      · have hr : f_Reg_addHabit m (i : Int) b s = tailC (fun m1 => f_Actions_newHabit m1 (i : Int) b s) m := by
          unfold f_Reg_addHabit f_Reg_isStrength
          rw [RqP_in V H hi, Option.bind_some, oel_n, RqK_yes m e, Option.bind_some, oel_n, if_neg (by omega), if_neg (by omega), Option.bind_some, if_neg (by omega)]
          rfl
        exact Q_dir I H R Y V W okF_z (show (3 : Int) ≠ 0 by omega) (o_habit V W L hi e hb hs3) (fun v m3 h => LaddHabit_i (hr.trans h)) (fun m3 h => LaddHabit_e3 (hr.trans h))
      · have e9 : f_Reg_isStrength m s = some 0 := by
          unfold f_Reg_isStrength
          by_cases h1 : s < 1
          · rw [if_pos h1]
          · rw [if_neg h1, if_pos (by omega)]
        have e8 : f_Mod_in m s 1 9 = some 0 := e9
        refine Qc (v := 0) I (show (2 : Int) ≠ 0 by omega) (LaddHabit_e2 ?_) ?_ (MQr.F _ 2)
        · unfold f_Reg_addHabit
          rw [RqP_in V H hi, Option.bind_some, oel_n, RqK_yes m e, Option.bind_some, oel_n, e9, Option.bind_some, if_pos rfl]
        · show f_Mod_addHabit _ _ _ _ = _
          unfold f_Mod_addHabit
          rw [M_k0, Option.bind_some, M_per_in V rfl hi, Option.bind_some, if_neg (by omega), if_neg (by omega), e8, Option.bind_some, if_pos rfl, M_fails (by omega), Option.bind_some]
          dsimp only
          rw [if_neg (by omega)]
  · refine Qc (v := 0) I (show (1 : Int) ≠ 0 by omega) (LaddHabit_e1 ?_) ?_ (MQr.F _ 1)
    · unfold f_Reg_addHabit
      rw [RqP_out V H h, Option.bind_some, oel_s]
    · show f_Mod_addHabit _ _ _ _ = _
      unfold f_Mod_addHabit
      rw [M_k0, Option.bind_some, M_per_out V rfl h, Option.bind_some, if_pos rfl, M_fails (by omega), Option.bind_some]
      dsimp only
      rw [if_neg (by omega)]
end Calls

/-! ===== questions about habits, and the numbers ===== -/
section Queries2
variable {m : jMem}
theorem q_kindOf (I : IV m) (a : Int) : Qok (f_Law_kindOf m a) (fun m1 => f_Mod_kindOf m1 a) := by
  obtain ⟨od, ps, H, R, Y, V, W, L⟩ := I.g
  by_cases h : 0 ≤ a ∧ a < m 148 1
  · obtain ⟨k, rfl, hkl⟩ := hin W h
    have hn := W.n
    have B := W.hb hkl
    refine Q0 (v := ltr (hk (m 148) k)) I (LkindOf_i ?_) ?_ (MQr.F _ 0)
    · unfold f_Reg_kindOf
      rw [RqH_in W R hkl, Option.bind_some, oel_n, H_kind W R hkl, Option.bind_some, och_i (ltr_ch _)]
    · show f_Mod_kindOf _ _ = _
      unfold f_Mod_kindOf
      rw [M_non_in W r1 hkl, Option.bind_some]
      dsimp only
      rw [if_pos rfl, M_hk r2 (by omega), Option.bind_some]
      have e : f_Mod_letterOf (Fm (mset m 155 0 (ltr (hk (m 148) k))) 0) (hk (m 148) k) = some (ltr (hk (m 148) k)) := by
        unfold f_Mod_letterOf ltr
        split
        · rfl
        · split <;> rfl
      rw [e, Option.bind_some, och_i (ltr_ch _)]
  · refine Qc (v := 32) I (show (1 : Int) ≠ 0 by omega) (LkindOf_e1 ?_) ?_ (MQr.F _ 1)
    · unfold f_Reg_kindOf
      rw [RqH_out R h]
      rfl
    · show f_Mod_kindOf _ _ = _
      unfold f_Mod_kindOf
      rw [M_non_out W rfl h, Option.bind_some]
      dsimp only
      rw [if_neg (by omega)]
theorem q_strengthOf (I : IV m) (a : Int) : Qok (f_Law_strengthOf m a) (fun m1 => f_Mod_strengthOf m1 a) := by
  obtain ⟨od, ps, H, R, Y, V, W, L⟩ := I.g
  by_cases h : 0 ≤ a ∧ a < m 148 1
  · obtain ⟨k, rfl, hkl⟩ := hin W h
    have hn := W.n
    have B := W.hb hkl
    refine Q0 (v := hs (m 148) k) I (LstrengthOf_i ?_) ?_ (MQr.F _ 0)
    · unfold f_Reg_strengthOf
      rw [RqH_in W R hkl, Option.bind_some, oel_n, H_str W R hkl]
      rfl
    · show f_Mod_strengthOf _ _ = _
      unfold f_Mod_strengthOf
      rw [M_non_in W r1 hkl, Option.bind_some]
      dsimp only
      rw [if_pos rfl, M_hs r2 (by omega)]
      rfl
  · refine Qc (v := 0) I (show (1 : Int) ≠ 0 by omega) (LstrengthOf_e1 ?_) ?_ (MQr.F _ 1)
    · unfold f_Reg_strengthOf
      rw [RqH_out R h]
      rfl
    · show f_Mod_strengthOf _ _ = _
      unfold f_Mod_strengthOf
      rw [M_non_out W rfl h, Option.bind_some]
      dsimp only
      rw [if_neg (by omega)]
theorem q_isExtinct (I : IV m) (a : Int) : QokB (f_Law_isExtinct m a) (fun m1 => f_Mod_isExtinct m1 a) := by
  obtain ⟨od, ps, H, R, Y, V, W, L⟩ := I.g
  by_cases h : 0 ≤ a ∧ a < m 148 1
  · obtain ⟨k, rfl, hkl⟩ := hin W h
    have hn := W.n
    have B := W.hb hkl
    have hv : (if 0 ≤ hh (m 148) k then (0 : Int) else 1) = 0 ∨ (if 0 ≤ hh (m 148) k then (0 : Int) else 1) = 1 := by split <;> omega
    refine Q0B (v := if 0 ≤ hh (m 148) k then (0 : Int) else 1) I hv (LisExtinct_i ?_ hv) ?_ (MQr.F _ 0)
    · unfold f_Reg_isExtinct
      rw [RqH_in W R hkl, Option.bind_some, oel_n, H_held W R hkl, Option.bind_some]
      by_cases e : 0 ≤ hh (m 148) k
      · rw [if_pos e, if_neg (by omega), if_pos e]
      · rw [if_neg e, if_pos rfl, if_neg e]
    · show f_Mod_isExtinct _ _ = _
      unfold f_Mod_isExtinct
      rw [M_non_in W r1 hkl, Option.bind_some]
      dsimp only
      rw [if_pos rfl, M_gone W r2 hkl, Option.bind_some]
      by_cases e : 0 ≤ hh (m 148) k
      · rw [if_pos e]
        rfl
      · rw [if_neg e]
        rfl
  · refine QcB (v := 0) I (Or.inl rfl) (show (1 : Int) ≠ 0 by omega) (LisExtinct_e1 ?_) ?_ (MQr.F _ 1)
    · unfold f_Reg_isExtinct
      rw [RqH_out R h]
      rfl
    · show f_Mod_isExtinct _ _ = _
      unfold f_Mod_isExtinct
      rw [M_non_out W rfl h, Option.bind_some]
      dsimp only
      rw [if_neg (by omega)]
theorem q_isEntailed (I : IV m) (a : Int) : QokB (f_Law_isEntailed m a) (fun m1 => f_Mod_isEntailed m1 a) := by
  obtain ⟨od, ps, H, R, Y, V, W, L⟩ := I.g
  by_cases h : 0 ≤ a ∧ a < m 148 1
  · obtain ⟨k, rfl, hkl⟩ := hin W h
    have hn := W.n
    have B := W.hb hkl
    have hv : (he (m 148) k) = 0 ∨ (he (m 148) k) = 1 := B.e
    refine Q0B (v := he (m 148) k) I hv (LisEntailed_i ?_ hv) ?_ (MQr.F _ 0)
    · unfold f_Reg_isEntailed
      rw [RqH_in W R hkl, Option.bind_some, oel_n, H_ent W R hkl, Option.bind_some, obt_i hv]
    · show f_Mod_isEntailed _ _ = _
      unfold f_Mod_isEntailed
      rw [M_non_in W r1 hkl, Option.bind_some]
      dsimp only
      rw [if_pos rfl, M_he r2 (by omega), Option.bind_some]
      rcases hv with e | e <;> rw [e] <;> rfl
  · refine QcB (v := 0) I (Or.inl rfl) (show (1 : Int) ≠ 0 by omega) (LisEntailed_e1 ?_) ?_ (MQr.F _ 1)
    · unfold f_Reg_isEntailed
      rw [RqH_out R h]
      rfl
    · show f_Mod_isEntailed _ _ = _
      unfold f_Mod_isEntailed
      rw [M_non_out W rfl h, Option.bind_some]
      dsimp only
      rw [if_neg (by omega)]
theorem q_isPractised (I : IV m) (a : Int) : QokB (f_Law_isPractised m a) (fun m1 => f_Mod_isPractised m1 a) := by
  obtain ⟨od, ps, H, R, Y, V, W, L⟩ := I.g
  by_cases h : 0 ≤ a ∧ a < m 148 1
  · obtain ⟨k, rfl, hkl⟩ := hin W h
    have hn := W.n
    have B := W.hb hkl
    have hv : (hpr (m 148) k) = 0 ∨ (hpr (m 148) k) = 1 := B.p
    refine Q0B (v := hpr (m 148) k) I hv (LisPractised_i ?_ hv) ?_ (MQr.F _ 0)
    · unfold f_Reg_isPractised
      rw [RqH_in W R hkl, Option.bind_some, oel_n, H_prac W R hkl, Option.bind_some, obt_i hv]
    · show f_Mod_isPractised _ _ = _
      unfold f_Mod_isPractised
      rw [M_non_in W r1 hkl, Option.bind_some]
      dsimp only
      rw [if_pos rfl, M_hp r2 (by omega), Option.bind_some]
      rcases hv with e | e <;> rw [e] <;> rfl
  · refine QcB (v := 0) I (Or.inl rfl) (show (1 : Int) ≠ 0 by omega) (LisPractised_e1 ?_) ?_ (MQr.F _ 1)
    · unfold f_Reg_isPractised
      rw [RqH_out R h]
      rfl
    · show f_Mod_isPractised _ _ = _
      unfold f_Mod_isPractised
      rw [M_non_out W rfl h, Option.bind_some]
      dsimp only
      rw [if_neg (by omega)]
theorem q_holderOf (I : IV m) (a : Int) : Qok (f_Law_holderOf m a) (fun m1 => f_Mod_holderOf m1 a) := by
  obtain ⟨od, ps, H, R, Y, V, W, L⟩ := I.g
  by_cases h : 0 ≤ a ∧ a < m 148 1
  · obtain ⟨k, rfl, hkl⟩ := hin W h
    have hn := W.n
    have B := W.hb hkl
    have hr : f_Reg_holderOf m (k : Int) = (f_Reg_requireFound m (hh (m 148) k)).bind fun sx3 => sel sx3 (fun x3 => some (.inl x3)) (fun e4 => some (.inr e4)) := by
      unfold f_Reg_holderOf
      rw [RqH_in W R hkl, Option.bind_some, oel_n, H_hold W R hkl, Option.bind_some]
    by_cases h0 : 0 ≤ hh (m 148) k
    · refine Q0 (v := hh (m 148) k) I (LholderOf_i (hr.trans (by rw [RqF_yes m h0]; rfl))) ?_ (MQr.F _ 0)
      show f_Mod_holderOf _ _ = _
      unfold f_Mod_holderOf
      rw [M_hab_in W r1 hkl, Option.bind_some, if_neg (by omega), M_gone W r1 hkl, Option.bind_some, if_pos h0, if_pos rfl, M_fails0, Option.bind_some]
      dsimp only
      rw [if_pos rfl, M_hh r2 (by omega)]
      rfl
    · have e : hh (m 148) k = -1 := by
        rcases B.h with e | e <;> omega
      refine Qc (v := 0) I (show (2 : Int) ≠ 0 by omega) (LholderOf_e2 (hr.trans (by rw [e, RqF_no]; rfl))) ?_ (MQr.F _ 2)
      show f_Mod_holderOf _ _ = _
      unfold f_Mod_holderOf
      rw [M_hab_in W rfl hkl, Option.bind_some, if_neg (by omega), M_gone W rfl hkl, Option.bind_some, if_neg h0, if_neg (by omega), M_fails (by omega), Option.bind_some]
      dsimp only
      rw [if_neg (by omega)]
  · refine Qc (v := 0) I (show (1 : Int) ≠ 0 by omega) (LholderOf_e1 ?_) ?_ (MQr.F _ 1)
    · unfold f_Reg_holderOf
      rw [RqH_out R h]
      rfl
    · show f_Mod_holderOf _ _ = _
      unfold f_Mod_holderOf
      rw [M_hab_out W rfl h, Option.bind_some, if_pos rfl, M_fails (by omega), Option.bind_some]
      dsimp only
      rw [if_neg (by omega)]
theorem q_yearsLeft (I : IV m) (a : Int) : Qok (f_Law_yearsLeft m a) (fun m1 => f_Mod_yearsLeft m1 a) := by
  obtain ⟨od, ps, H, R, Y, V, W, L⟩ := I.g
  by_cases h : 0 ≤ a ∧ a < m 148 1
  · obtain ⟨k, rfl, hkl⟩ := hin W h
    have hn := W.n
    have B := W.hb hkl
    have hs3 := B.s
    have hp3 := B.p
    have hr : f_Reg_yearsLeft m (k : Int) = (f_Reg_requireFound m (if 0 ≤ hh (m 148) k then hs (m 148) k + hpr (m 148) k else -1)).bind fun sx3 => sel sx3 (fun x3 => some (.inl x3)) (fun e4 => some (.inr e4)) := by
      unfold f_Reg_yearsLeft
      rw [RqH_in W R hkl, Option.bind_some, oel_n, H_rem W R hkl, Option.bind_some]
    by_cases h0 : 0 ≤ hh (m 148) k
    · rw [if_pos h0] at hr
      refine Q0 (v := hs (m 148) k + hpr (m 148) k) I (LyearsLeft_i (hr.trans (by rw [RqF_yes m (by omega)]; rfl))) ?_ (MQr.F _ 0)
      show f_Mod_yearsLeft _ _ = _
      unfold f_Mod_yearsLeft
      rw [M_hab_in W r1 hkl, Option.bind_some, if_neg (by omega), M_gone W r1 hkl, Option.bind_some, if_pos h0, if_pos rfl, M_fails0, Option.bind_some]
      dsimp only
      rw [if_pos rfl, M_hs r2 (by omega), Option.bind_some, M_hp r2 (by omega), Option.bind_some, jw_id ⟨by omega, by omega⟩]
    · rw [if_neg h0] at hr
      refine Qc (v := 0) I (show (2 : Int) ≠ 0 by omega) (LyearsLeft_e2 (hr.trans (by rw [RqF_no]; rfl))) ?_ (MQr.F _ 2)
      show f_Mod_yearsLeft _ _ = _
      unfold f_Mod_yearsLeft
      rw [M_hab_in W rfl hkl, Option.bind_some, if_neg (by omega), M_gone W rfl hkl, Option.bind_some, if_neg h0, if_neg (by omega), M_fails (by omega), Option.bind_some]
      dsimp only
      rw [if_neg (by omega)]
  · refine Qc (v := 0) I (show (1 : Int) ≠ 0 by omega) (LyearsLeft_e1 ?_) ?_ (MQr.F _ 1)
    · unfold f_Reg_yearsLeft
      rw [RqH_out R h]
      rfl
    · show f_Mod_yearsLeft _ _ = _
      unfold f_Mod_yearsLeft
      rw [M_hab_out W rfl h, Option.bind_some, if_pos rfl, M_fails (by omega), Option.bind_some]
      dsimp only
      rw [if_neg (by omega)]
/-- a letter's kind -/
def kof (x : Int) : Int := if x = 100 then 0 else if x = 115 then 1 else if x = 104 then 2 else -1
theorem M_k0 (m : jMem) (x : Int) : f_Mod_kindOf0 m x = some (kof x) := by
  unfold f_Mod_kindOf0 kof
  split
  · rfl
  · split
    · rfl
    · split <;> rfl
theorem kof_cases (x : Int) : (kof x = -1 ∧ x ≠ 100 ∧ x ≠ 115 ∧ x ≠ 104) ∨ ((kof x = 0 ∨ kof x = 1 ∨ kof x = 2) ∧ x = ltr (kof x)) := by
  unfold kof ltr
  by_cases h1 : x = 100
  · right; simp [h1]
  · by_cases h2 : x = 115
    · right; simp [h2]
    · by_cases h3 : x = 104
      · right; simp [h3]
      · left; simp [h1, h2, h3]
theorem RqK_yes (m : jMem) {x : Int} (h : kof x = 0 ∨ kof x = 1 ∨ kof x = 2) : f_Reg_requireKind m x = some none := by
  unfold f_Reg_requireKind f_Reg_isKind
  unfold kof at h
  by_cases h1 : x = 100
  · rw [if_pos h1]; rfl
  · by_cases h2 : x = 115
    · rw [if_neg h1, if_pos h2]; rfl
    · by_cases h3 : x = 104
      · rw [if_neg h1, if_neg h2, if_pos h3]; rfl
      · rw [if_neg h1, if_neg h2, if_neg h3] at h
        omega
theorem RqK_no (m : jMem) {x : Int} (h : x ≠ 100 ∧ x ≠ 115 ∧ x ≠ 104) : f_Reg_requireKind m x = some (some "java/lang/IllegalArgumentException") := by
  unfold f_Reg_requireKind f_Reg_isKind
  rw [if_neg h.1, if_neg h.2.1, if_neg h.2.2]
  rfl
theorem q_habitOf (I : IV m) (a b : Int) : Qok (f_Law_habitOf m a b) (fun m1 => f_Mod_habitOf m1 a b) := by
  obtain ⟨od, ps, H, R, Y, V, W, L⟩ := I.g
  by_cases h : 0 ≤ a ∧ a < m 148 0
  · obtain ⟨i, rfl, hi⟩ := pin V h
    have hn := V.n
    rcases kof_cases b with ⟨e, hb⟩ | ⟨e, hb⟩
    · refine Qc (v := 0) I (show (2 : Int) ≠ 0 by omega) (LhabitOf_e2 ?_) ?_ (MQr.F _ 2)
      · unfold f_Reg_habitOf
        rw [RqP_in V H hi, Option.bind_some, oel_n, RqK_no m hb]
        rfl
      · show f_Mod_habitOf _ _ _ = _
        unfold f_Mod_habitOf
        rw [M_k0, Option.bind_some, M_per_in V rfl hi, Option.bind_some, if_neg (by omega), if_pos (by omega), M_fails (by omega), Option.bind_some]
        dsimp only
        rw [if_neg (by omega)]
    · have hr : f_Reg_habitOf m (i : Int) b = (f_Reg_requireFound m (hf (m 148) (i : Int) (kof b))).bind fun sx4 => sel sx4 (fun x4 => some (.inl x4)) (fun e5 => some (.inr e5)) := by
        unfold f_Reg_habitOf
        rw [RqP_in V H hi, Option.bind_some, oel_n, RqK_yes m e, Option.bind_some, oel_n]
        conv => lhs; rw [hb]
        rw [H_find W R (by omega) e, Option.bind_some]
      rcases hf_spec (m 148) (i : Int) (kof b) with ⟨e2, -⟩ | ⟨l, e2, -⟩
      · rw [e2] at hr
        refine Qc (v := 0) I (show (3 : Int) ≠ 0 by omega) (LhabitOf_e3 (hr.trans (by rw [RqF_no]; rfl))) ?_ (MQr.F _ 3)
        show f_Mod_habitOf _ _ _ = _
        unfold f_Mod_habitOf
        rw [M_k0, Option.bind_some, M_per_in V rfl hi, Option.bind_some, if_neg (by omega), if_neg (by omega), M_held W rfl, Option.bind_some, e2, if_pos (by omega), M_fails (by omega), Option.bind_some]
        dsimp only
        rw [if_neg (by omega)]
      · rw [e2] at hr
        refine Q0 (v := (l : Int)) I (LhabitOf_i (hr.trans (by rw [RqF_yes m (by omega)]; rfl))) ?_ (MQr.F _ 0)
        show f_Mod_habitOf _ _ _ = _
        unfold f_Mod_habitOf
        rw [M_k0, Option.bind_some, M_per_in V r1 hi, Option.bind_some, if_neg (by omega), if_neg (by omega), M_held W r1, Option.bind_some, e2, if_neg (by omega), M_fails0, Option.bind_some]
        dsimp only
        rw [if_pos rfl, M_held W r2, e2]
        rfl
  · refine Qc (v := 0) I (show (1 : Int) ≠ 0 by omega) (LhabitOf_e1 ?_) ?_ (MQr.F _ 1)
    · unfold f_Reg_habitOf
      rw [RqP_out V H h]
      rfl
    · show f_Mod_habitOf _ _ _ = _
      unfold f_Mod_habitOf
      rw [M_k0, Option.bind_some, M_per_out V rfl h, Option.bind_some, if_pos rfl, M_fails (by omega), Option.bind_some]
      dsimp only
      rw [if_neg (by omega)]
theorem q_habitByStrength (I : IV m) (a : Int) : Qok (f_Law_habitByStrength m a) (fun m1 => f_Mod_habitByStrength m1 a) := by
  obtain ⟨od, ps, H, R, Y, V, W, L⟩ := I.g
  have hr : f_Reg_habitByStrength m a = (f_Reg_requireFound m (rkF (hld (m 148)) (hrk (m 148)) a (hN (m 148)) 0)).bind fun sx2 => sel sx2 (fun x2 => some (.inl x2)) (fun e3 => some (.inr e3)) := by
    unfold f_Reg_habitByStrength
    rw [H_rkd W R a, Option.bind_some]
  have ho := rkF_okx (hld (m 148)) (hrk (m 148)) a (hN (m 148)) (hN (m 148)) 0 (by omega)
  rcases (show okx _ (rkF (hld (m 148)) (hrk (m 148)) a (hN (m 148)) 0) from ho).cases with e | ⟨y, e, hy⟩
  · refine Qc (m2 := mset m 147 8 1) (v := 0) I (show (1 : Int) ≠ 0 by omega) (LhabitByStrength_e1 (hr.trans (by rw [e, RqF_no]; rfl))) ?_ (MQr.e _ 1)
    show f_Mod_habitByStrength _ _ = _
    rw [M_hbs W rfl a, e]
    rfl
  · refine Q0 (m2 := mset (mset m 155 0 (y : Int)) 147 8 0) (v := (y : Int)) I (LhabitByStrength_i (hr.trans (by rw [e, RqF_yes m (by omega)]; rfl))) ?_ (MQr.e _ 0)
    show f_Mod_habitByStrength _ _ = _
    rw [M_hbs W r1 a, e]
    exact if_neg (by omega)
theorem q_personByStrength (I : IV m) (a : Int) : Qok (f_Law_personByStrength m a) (fun m1 => f_Mod_personByStrength m1 a) := by
  obtain ⟨od, ps, H, R, Y, V, W, L⟩ := I.g
  have hr : f_Reg_personByStrength m a = (f_Reg_requireFound m (rkF (gal (m 148)) (prk (m 148)) a (gn (m 148)) 0)).bind fun sx2 => sel sx2 (fun x2 => some (.inl x2)) (fun e3 => some (.inr e3)) := by
    unfold f_Reg_personByStrength
    rw [P_rkd V H W R a, Option.bind_some]
  have ho := rkF_okx (gal (m 148)) (prk (m 148)) a (gn (m 148)) (gn (m 148)) 0 (by omega)
  rcases (show okx _ (rkF (gal (m 148)) (prk (m 148)) a (gn (m 148)) 0) from ho).cases with e | ⟨y, e, hy⟩
  · refine Qc (m2 := mset m 147 8 1) (v := 0) I (show (1 : Int) ≠ 0 by omega) (LpersonByStrength_e1 (hr.trans (by rw [e, RqF_no]; rfl))) ?_ (MQr.e _ 1)
    show f_Mod_personByStrength _ _ = _
    rw [M_pbs V W rfl a, e]
    rfl
  · refine Q0 (m2 := mset (mset m 155 0 (y : Int)) 147 8 0) (v := (y : Int)) I (LpersonByStrength_i (hr.trans (by rw [e, RqF_yes m (by omega)]; rfl))) ?_ (MQr.e _ 0)
    show f_Mod_personByStrength _ _ = _
    rw [M_pbs V W r1 a, e]
    exact if_neg (by omega)
theorem n_peopleCount (I : IV m) : ∃ v m2, f_Reg_peopleCount m = some v ∧ f_Mod_peopleCount m = some (v, m2) ∧ SQ m m2 := by
  obtain ⟨od, ps, H, R, Y, V, W, L⟩ := I.g
  refine ⟨m 148 0, _, congrArg some (H.n), ?_, SQ.m8 m 0⟩
  · show oix (0 : Int) 138 (some ((mset m 147 8 0) 148 0, mset m 147 8 0)) = _
    rw [oix0, mset_ne (by omega)]
theorem n_livingCount (I : IV m) : ∃ v m2, f_Reg_livingCount m = some v ∧ f_Mod_livingCount m = some (v, m2) ∧ SQ m m2 := by
  obtain ⟨od, ps, H, R, Y, V, W, L⟩ := I.g
  refine ⟨((cntF idn (gal (m 148)) (gn (m 148)) 0 : Nat) : Int), _, ?_, ?_, SQ.m8 m 0⟩
  · unfold f_Reg_livingCount
    rw [P_living V H]
    rfl
  · unfold f_Mod_livingCount
    rw [M_living V (mset_ne (by omega))]
    rfl
theorem n_habitCount (I : IV m) : ∃ v m2, f_Reg_habitCount m = some v ∧ f_Mod_habitCount m = some (v, m2) ∧ SQ m m2 := by
  obtain ⟨od, ps, H, R, Y, V, W, L⟩ := I.g
  refine ⟨m 148 1, _, congrArg some (R.n), ?_, SQ.m8 m 0⟩
  · show oix (1 : Int) 138 (some ((mset m 147 8 0) 148 1, mset m 147 8 0)) = _
    rw [oix1, mset_ne (by omega)]
theorem n_year (I : IV m) : ∃ v m2, f_Reg_year m = some v ∧ f_Mod_year m = some (v, m2) ∧ SQ m m2 := by
  obtain ⟨od, ps, H, R, Y, V, W, L⟩ := I.g
  refine ⟨m 148 2, _, congrArg some (Y), ?_, SQ.m8 m 0⟩
  · show oix (2 : Int) 138 (some ((mset m 147 8 0) 148 2, mset m 147 8 0)) = _
    rw [mset_ne (by omega)]
    rfl
theorem n_lapsedCount (I : IV m) : ∃ v m2, f_Reg_lapsedCount m = some v ∧ f_Mod_lapsedCount m = some (v, m2) ∧ SQ m m2 := by
  obtain ⟨od, ps, H, R, Y, V, W, L⟩ := I.g
  refine ⟨m 148 3, _, congrArg some (R.1.2.1), ?_, SQ.m8 m 0⟩
  · show oix (3 : Int) 138 (some ((mset m 147 8 0) 148 3, mset m 147 8 0)) = _
    rw [mset_ne (by omega)]
    rfl
theorem n_mergedCount (I : IV m) : ∃ v m2, f_Reg_mergedCount m = some v ∧ f_Mod_mergedCount m = some (v, m2) ∧ SQ m m2 := by
  obtain ⟨od, ps, H, R, Y, V, W, L⟩ := I.g
  refine ⟨m 148 4, _, congrArg some (R.1.2.2.1), ?_, SQ.m8 m 0⟩
  · show oix (4 : Int) 138 (some ((mset m 147 8 0) 148 4, mset m 147 8 0)) = _
    rw [mset_ne (by omega)]
    rfl
theorem n_brokenCount (I : IV m) : ∃ v m2, f_Reg_brokenCount m = some v ∧ f_Mod_brokenCount m = some (v, m2) ∧ SQ m m2 := by
  obtain ⟨od, ps, H, R, Y, V, W, L⟩ := I.g
  refine ⟨m 148 5, _, congrArg some (R.1.2.2.2), ?_, SQ.m8 m 0⟩
  · show oix (5 : Int) 138 (some ((mset m 147 8 0) 148 5, mset m 147 8 0)) = _
    rw [mset_ne (by omega)]
    rfl
theorem n_totalStrength (I : IV m) : ∃ v m2, f_Reg_totalStrength m = some v ∧ f_Mod_totalStrength m = some (v, m2) ∧ SQ m m2 := by
  obtain ⟨od, ps, H, R, Y, V, W, L⟩ := I.g
  refine ⟨((sumN (hsN (m 148)) (hN (m 148)) : Nat) : Int), _, ?_, ?_, SQ.m8 m 0⟩
  · unfold f_Reg_totalStrength
    rw [H_all W R]
    rfl
  · unfold f_Mod_totalStrength
    rw [M_tot W (mset_ne (by omega))]
    rfl
theorem n_totalStrengthByPeople (I : IV m) : ∃ v m2, f_Reg_totalStrengthByPeople m = some v ∧ f_Mod_totalStrengthByPeople m = some (v, m2) ∧ SQ m m2 := by
  obtain ⟨od, ps, H, R, Y, V, W, L⟩ := I.g
  refine ⟨((sumN (hsN (m 148)) (hN (m 148)) : Nat) : Int), _, ?_, ?_, SQ.m8 m 0⟩
  · unfold f_Reg_totalStrengthByPeople
    rw [P_sbp V H W R]
    rfl
  · unfold f_Mod_totalStrengthByPeople
    rw [M_tot W (mset_ne (by omega))]
    rfl
theorem n_undoCount (I : IV m) : ∃ v m2, f_Reg_undoCount m = some v ∧ f_Mod_undoCount m = some (v, m2) ∧ SQ m m2 := by
  obtain ⟨-, ⟨c, nx, a1, a2, a3, a4, a5, a6⟩, -⟩ := I
  refine ⟨(c : Int), _, congrArg some a3, ?_, SQ.m8 m 0⟩
  show some ((mset m 147 8 0) 147 5, mset m 147 8 0) = _
  rw [ms_g (by omega), a4]
theorem cnt_not (P : Nat → Bool) (n : Nat) : cntF idn P n 0 + cntF idn (fun k => !P k) n 0 = n := by
  rw [cntF_0, cntF_0, ← sumN_add]
  have h : sumN (fun i => (if P (idn i) = true then 1 else 0) + (if (!P (idn i)) = true then 1 else 0)) n = sumN (fun _ => 1) n := sumN_congr n fun i _ => by
    cases P (idn i) <;> rfl
  rw [h, sumN_const, Nat.mul_one]
/-- always consistent, on both sides -/
theorem t_isConsistent (I : IV m) : ∃ m1 m2, f_Reg_isConsistent m = some (1, m1) ∧ f_Mod_isConsistent m1 = some (1, m2) ∧ IV m2 := by
  obtain ⟨od, ps, H, R, Y, V, W, L⟩ := I.g
  obtain ⟨m1, e, k⟩ := P_dists V H
  have B := BE.of (b := 1) (m := m) (m' := m1) fun q a b => k q (by omega) (by omega) (by omega)
  have H1 := H.tr B V
  have R1 := R.tr B W
  have hw := W.n
  have hg : m1 148 = m 148 := k 148 (by omega) (by omega) (by omega)
  have hg2 : (mset m1 147 8 0) 148 = m 148 := (mset_ne (by omega)).trans hg
  refine ⟨m1, mset m1 147 8 0, ?_, ?_, (I.sq (SQ.bfs k)).sq (SQ.m8 m1 0)⟩
  · unfold f_Reg_isConsistent
    rw [P_heirs V H, Option.bind_some, if_neg (by omega), e, Option.bind_some]
    dsimp only
    rw [if_neg (by omega), H_all W R1, Option.bind_some, P_sbp V H1 W R1, Option.bind_some, if_pos rfl, P_hl V H1 W R1 L, Option.bind_some, if_neg (by omega), P_ks W R1, Option.bind_some, if_neg (by omega)]
  · have h2 := W.2.2.2
    have h3 := cnt_not (hld (m 148)) (hN (m 148))
    show (f_Mod_lasting (mset m1 147 8 0)).bind (fun x1 => if (jw ((jw (((mset m1 147 8 0) 148 3) + ((mset m1 147 8 0) 148 4))) + ((mset m1 147 8 0) 148 5))) = (jw (((mset m1 147 8 0) 148 1) - x1)) then some (1, mset m1 147 8 0) else some (0, mset m1 147 8 0)) = _
    rw [M_las W hg2, Option.bind_some, hg2, jw_id (z := m 148 3 + m 148 4) ⟨by omega, by omega⟩, jw_id ⟨by omega, by omega⟩, jw_id ⟨by omega, by omega⟩, if_pos (by omega)]
/-! the refusals, the syntax error, the output -/
theorem q_syntaxErrorOffset (I : IV m) : Qok (f_Law_syntaxErrorOffset m) f_Mod_syntaxErrorOffset := by
  have J := I
  obtain ⟨-, -, -, -, ⟨j1, j2, j3, j4, j5⟩, -⟩ := J
  by_cases h : 0 ≤ m 0 8
  · refine Q0 (v := m 0 8) I (LsyntaxErrorOffset_i ?_) ?_ (MQr.F _ 0)
    · unfold f_Reg_syntaxErrorOffset
      rw [RqF_yes m h]
      rfl
    · unfold f_Mod_syntaxErrorOffset
      rw [ms_o (by omega), if_neg (by omega), M_fails0]
      show some ((Fm (mset m 155 0 (m 0 8)) 0) 147 14, _) = _
      rw [Fm_j (by omega) (by omega), ms_o (by omega), j3]
  · have e : m 0 8 = -1 := by omega
    refine Qc (v := 0) I (show (1 : Int) ≠ 0 by omega) (LsyntaxErrorOffset_e1 ?_) ?_ (MQr.F _ 1)
    · unfold f_Reg_syntaxErrorOffset
      rw [e, RqF_no]
      rfl
    · unfold f_Mod_syntaxErrorOffset
      rw [if_pos (by omega), M_fails (by omega), Option.bind_some]
      dsimp only
      rw [if_neg (by omega)]
theorem q_rejectionReason (I : IV m) : Qok (f_Law_rejectionReason m) f_Mod_rejectionReason := by
  have J := I
  obtain ⟨-, -, -, -, ⟨j1, j2, j3, j4, j5⟩, -⟩ := J
  by_cases h : m 0 9 = 0
  · refine Qc (v := 0) I (show (1 : Int) ≠ 0 by omega) (LrejectionReason_e1 ?_) ?_ (MQr.F _ 1)
    · unfold f_Reg_rejectionReason f_Reg_requireRejection
      rw [if_pos h]
      rfl
    · unfold f_Mod_rejectionReason
      rw [if_pos (by omega), M_fails (by omega), Option.bind_some]
      dsimp only
      rw [if_neg (by omega)]
  · refine Q0 (v := m 0 9) I (LrejectionReason_i ?_) ?_ (MQr.F _ 0)
    · unfold f_Reg_rejectionReason f_Reg_requireRejection
      rw [if_neg h]
      rfl
    · unfold f_Mod_rejectionReason
      rw [ms_o (by omega), if_neg (by omega), M_fails0]
      show some ((Fm (mset m 155 0 (m 0 9)) 0) 147 9, _) = _
      rw [Fm_j (by omega) (by omega), ms_o (by omega), j1]
theorem q_rejectionDetail (I : IV m) : Qok (f_Law_rejectionDetail m) f_Mod_rejectionDetail := by
  have J := I
  obtain ⟨-, -, -, -, ⟨j1, j2, j3, j4, j5⟩, -⟩ := J
  by_cases h : m 0 9 = 0
  · refine Qc (v := 0) I (show (1 : Int) ≠ 0 by omega) (LrejectionDetail_e1 ?_) ?_ (MQr.F _ 1)
    · unfold f_Reg_rejectionDetail f_Reg_requireRejection
      rw [if_pos h]
      rfl
    · unfold f_Mod_rejectionDetail
      rw [if_pos (by omega), M_fails (by omega), Option.bind_some]
      dsimp only
      rw [if_neg (by omega)]
  · refine Q0 (v := m 0 10) I (LrejectionDetail_i ?_) ?_ (MQr.F _ 0)
    · unfold f_Reg_rejectionDetail f_Reg_requireRejection
      rw [if_neg h]
      rfl
    · unfold f_Mod_rejectionDetail
      rw [ms_o (by omega), if_neg (by omega), M_fails0]
      show some ((Fm (mset m 155 0 (m 0 10)) 0) 147 10, _) = _
      rw [Fm_j (by omega) (by omega), ms_o (by omega), j2]
theorem q_causeReason (I : IV m) : Qok (f_Law_causeReason m) f_Mod_causeReason := by
  have J := I
  obtain ⟨-, -, -, -, ⟨j1, j2, j3, j4, j5⟩, -⟩ := J
  rcases j5 with ⟨h1, h2, h3⟩ | ⟨h1, h2⟩
  · refine Q0 (v := m 0 11) I (LcauseReason_i ?_) ?_ (MQr.F _ 0)
    · unfold f_Reg_causeReason
      rw [if_pos h1]
    · unfold f_Mod_causeReason
      rw [ms_o (by omega), if_neg h3, M_fails0]
      show some ((Fm (mset m 155 0 (m 0 11)) 0) 147 11, _) = _
      rw [Fm_j (by omega) (by omega), ms_o (by omega), h2]
  · refine Qc (v := 0) I (show (1 : Int) ≠ 0 by omega) (LcauseReason_e1 ?_) ?_ (MQr.F _ 1)
    · unfold f_Reg_causeReason
      rw [if_neg h1]
    · unfold f_Mod_causeReason
      rw [if_pos h2, M_fails (by omega), Option.bind_some]
      dsimp only
      rw [if_neg (by omega)]
theorem q_outputAt (I : IV m) (a : Int) : Qok (f_Law_outputAt m a) (fun m1 => f_Mod_outputAt m1 a) := by
  have J := I
  obtain ⟨-, -, -, -, -, ⟨c, o1, o2, o3, o4⟩, -⟩ := J
  have hm : ∀ m1 : jMem, m1 147 16 = (c : Int) → f_Mod_in m1 a 0 (jw (m1 147 16 - 1)) = some (if 0 ≤ a ∧ a < (c : Int) then 1 else 0) := fun m1 h => by
    unfold f_Mod_in
    rw [h, jw_id ⟨by omega, by omega⟩]
    by_cases h1 : a < 0
    · rw [if_pos h1, if_neg (by omega)]
    · rw [if_neg h1]
      by_cases h2 : a < (c : Int)
      · rw [if_neg (by omega), if_pos ⟨by omega, h2⟩]
      · rw [if_pos (by omega), if_neg (by omega)]
  have hh : f_Output_has m a = some (if 0 ≤ a ∧ a < (c : Int) then 1 else 0) := by
    unfold f_Output_has
    rw [o2]
    by_cases h1 : a < 0
    · rw [if_pos h1, if_neg (by omega)]
    · rw [if_neg h1]
      by_cases h2 : a < (c : Int)
      · rw [if_pos h2, if_pos ⟨by omega, h2⟩]
      · rw [if_neg h2, if_neg (by omega)]
  by_cases h : 0 ≤ a ∧ a < (c : Int)
  · obtain ⟨i, hi⟩ := Int.eq_ofNat_of_zero_le h.1
    subst hi
    obtain ⟨p1, p2, p3⟩ := o4 i (by omega)
    rw [if_pos h] at hh
    refine Q0 (v := m 146 i) I (LoutputAt_i ?_) ?_ (MQr.F _ 0)
    · unfold f_Reg_outputAt
      rw [hh, Option.bind_some, if_neg (by omega)]
      unfold f_Output_sign
      rw [hh, Option.bind_some, if_neg (by omega), oix_n (by omega), Int.toNat_natCast, och_i ⟨p2, p3⟩, Option.bind_some, och_i ⟨p2, p3⟩]
    · show f_Mod_outputAt _ _ = _
      unfold f_Mod_outputAt
      rw [hm _ ((ms_o (by omega)).trans o3), if_pos h, Option.bind_some, if_neg (by omega), M_fails0]
      show oix (i : Int) 60 (och ((Fm (mset m 155 0 (m 146 i)) 0) 153 i) (some ((Fm (mset m 155 0 (m 146 i)) 0) 153 i, Fm (mset m 155 0 (m 146 i)) 0))) = _
      rw [oix_n (by omega), Fm_row (by omega), mset_ne (by omega), ← p1, och_i ⟨p2, p3⟩]
  · rw [if_neg h] at hh
    refine Qc (v := 32) I (show (1 : Int) ≠ 0 by omega) (LoutputAt_e1 ?_) ?_ (MQr.F _ 1)
    · unfold f_Reg_outputAt
      rw [hh, Option.bind_some, if_pos rfl]
    · show f_Mod_outputAt _ _ = _
      unfold f_Mod_outputAt
      rw [hm m o3, if_neg h, Option.bind_some, if_pos rfl, M_fails (by omega), Option.bind_some]
      dsimp only
      rw [if_neg (by omega)]
end Queries2

/-! ===== questions: both sides agree ===== -/
theorem r1 {m : jMem} {v : Int} : (mset m 155 0 v) 148 = m 148 := mset_ne (by omega)
theorem r2 {m : jMem} {v c : Int} : (Fm (mset m 155 0 v) c) 148 = m 148 := (Fm_row (by omega)).trans r1
theorem r3 {m : jMem} {c : Int} : (Fm m c) 148 = m 148 := Fm_row (by omega)
theorem P_chc {m : jMem} {g : Nat → Int} {od ps : Nat → Nat} (V : GP g) (H : RP 1 m g od ps) (p : Int) : f_People_countChildren m p = some ((0 + cntF idn (fun y => decide (gp g y = p)) (gn g) 0 : Nat) : Int) := by
  have hn := V.n
  have h := P_chcL V H p (gn g) 0 99999 0 (by omega) (by omega) (by omega)
  exact h
section Queries
variable {m : jMem}
theorem q_generation (I : IV m) (a : Int) : Qok (f_Law_generation m a) (fun m1 => f_Mod_generation m1 a) := by
  obtain ⟨od, ps, H, R, Y, V, W, L⟩ := I.g
  by_cases h : 0 ≤ a ∧ a < m 148 0
  · obtain ⟨i, rfl, hi⟩ := pin V h
    have hn := V.n
    refine Q0 (v := ((dp (gp (m 148)) i : Nat) : Int)) I (Lgeneration_i ?_) ?_ (MQr.F _ 0)
    · unfold f_Reg_generation
      rw [RqP_in V H hi, Option.bind_some, oel_n, P_dep V H hi]
      rfl
    · show f_Mod_generation _ _ = _
      unfold f_Mod_generation
      rw [M_nob_in V r1 hi, Option.bind_some]
      dsimp only
      rw [if_pos rfl, M_dep V r2 hi, Option.bind_some]
  · refine Qc (v := 0) I (show (1 : Int) ≠ 0 by omega) (Lgeneration_e1 ?_) ?_ (MQr.F _ 1)
    · unfold f_Reg_generation
      rw [RqP_out V H h]
      rfl
    · show f_Mod_generation _ _ = _
      unfold f_Mod_generation
      rw [M_nob_out V rfl h, Option.bind_some]
      dsimp only
      rw [if_neg (by omega)]
theorem q_childCount (I : IV m) (a : Int) : Qok (f_Law_childCount m a) (fun m1 => f_Mod_childCount m1 a) := by
  obtain ⟨od, ps, H, R, Y, V, W, L⟩ := I.g
  by_cases h : 0 ≤ a ∧ a < m 148 0
  · obtain ⟨i, rfl, hi⟩ := pin V h
    have hn := V.n
    refine Q0 (v := ((0 + cntF idn (fun y => decide (gp (m 148) y = (i : Int))) (gn (m 148)) 0 : Nat) : Int)) I (LchildCount_i ?_) ?_ (MQr.F _ 0)
    · unfold f_Reg_childCount
      rw [RqP_in V H hi, Option.bind_some, oel_n, P_chc V H (i : Int)]
      rfl
    · show f_Mod_childCount _ _ = _
      unfold f_Mod_childCount
      rw [M_nob_in V r1 hi, Option.bind_some]
      dsimp only
      rw [if_pos rfl]
      exact M_chcL V r2 (i : Int) (gn (m 148)) 0 99999 0 (by omega) (by omega) (by omega)
  · refine Qc (v := 0) I (show (1 : Int) ≠ 0 by omega) (LchildCount_e1 ?_) ?_ (MQr.F _ 1)
    · unfold f_Reg_childCount
      rw [RqP_out V H h]
      rfl
    · show f_Mod_childCount _ _ = _
      unfold f_Mod_childCount
      rw [M_nob_out V rfl h, Option.bind_some]
      dsimp only
      rw [if_neg (by omega)]
theorem q_livingDescendants (I : IV m) (a : Int) : Qok (f_Law_livingDescendants m a) (fun m1 => f_Mod_livingDescendants m1 a) := by
  obtain ⟨od, ps, H, R, Y, V, W, L⟩ := I.g
  by_cases h : 0 ≤ a ∧ a < m 148 0
  · obtain ⟨i, rfl, hi⟩ := pin V h
    have hn := V.n
    refine Q0 (v := ((cntF od (gal (m 148)) (en (gp (m 148)) (gn (m 148)) od ps i - (ps i + 1)) (ps i + 1) : Nat) : Int)) I (LlivingDescendants_i ?_) ?_ (MQr.F _ 0)
    · unfold f_Reg_livingDescendants
      rw [RqP_in V H hi, Option.bind_some, oel_n, P_cnt V H hi]
      rfl
    · show f_Mod_livingDescendants _ _ = _
      unfold f_Mod_livingDescendants
      rw [M_nob_in V r1 hi, Option.bind_some]
      dsimp only
      rw [if_pos rfl, cnt_below V.f H.o _ hi]
      have e := M_descL V r2 (x := i) (m := (Fm (mset m 155 0 ((cntF od (gal (m 148)) (en (gp (m 148)) (gn (m 148)) od ps i - (ps i + 1)) (ps i + 1) : Nat) : Int)) 0)) (gn (m 148)) 0 99999 0 (by omega) (by omega) (by omega)
      rw [Nat.zero_add, cnt_below V.f H.o _ hi] at e
      exact e
  · refine Qc (v := 0) I (show (1 : Int) ≠ 0 by omega) (LlivingDescendants_e1 ?_) ?_ (MQr.F _ 1)
    · unfold f_Reg_livingDescendants
      rw [RqP_out V H h]
      rfl
    · show f_Mod_livingDescendants _ _ = _
      unfold f_Mod_livingDescendants
      rw [M_nob_out V rfl h, Option.bind_some]
      dsimp only
      rw [if_neg (by omega)]
theorem q_successionPosition (I : IV m) (a : Int) : Qok (f_Law_successionPosition m a) (fun m1 => f_Mod_successionPosition m1 a) := by
  obtain ⟨od, ps, H, R, Y, V, W, L⟩ := I.g
  by_cases h : 0 ≤ a ∧ a < m 148 0
  · obtain ⟨i, rfl, hi⟩ := pin V h
    have hn := V.n
    refine Q0 (v := ((ps i : Int) - ps (rt (gp (m 148)) i))) I (LsuccessionPosition_i ?_) ?_ (MQr.F _ 0)
    · unfold f_Reg_successionPosition
      rw [RqP_in V H hi, Option.bind_some, oel_n, P_fam V H hi]
      rfl
    · show f_Mod_successionPosition _ _ = _
      unfold f_Mod_successionPosition
      rw [M_nob_in V r1 hi, Option.bind_some]
      dsimp only
      rw [if_pos rfl]
      exact M_pos V r2 H.o hi
  · refine Qc (v := 0) I (show (1 : Int) ≠ 0 by omega) (LsuccessionPosition_e1 ?_) ?_ (MQr.F _ 1)
    · unfold f_Reg_successionPosition
      rw [RqP_out V H h]
      rfl
    · show f_Mod_successionPosition _ _ = _
      unfold f_Mod_successionPosition
      rw [M_nob_out V rfl h, Option.bind_some]
      dsimp only
      rw [if_neg (by omega)]
theorem q_habitStrength (I : IV m) (a : Int) : Qok (f_Law_habitStrength m a) (fun m1 => f_Mod_habitStrength m1 a) := by
  obtain ⟨od, ps, H, R, Y, V, W, L⟩ := I.g
  by_cases h : 0 ≤ a ∧ a < m 148 0
  · obtain ⟨i, rfl, hi⟩ := pin V h
    have hn := V.n
    refine Q0 (v := ((hsm (m 148) (i : Int) : Nat) : Int)) I (LhabitStrength_i ?_) ?_ (MQr.F _ 0)
    · unfold f_Reg_habitStrength
      rw [RqP_in V H hi, Option.bind_some, oel_n, H_sum W R]
      rfl
    · show f_Mod_habitStrength _ _ = _
      unfold f_Mod_habitStrength
      rw [M_nob_in V r1 hi, Option.bind_some]
      dsimp only
      rw [if_pos rfl, M_sum W r2, Option.bind_some]
  · refine Qc (v := 0) I (show (1 : Int) ≠ 0 by omega) (LhabitStrength_e1 ?_) ?_ (MQr.F _ 1)
    · unfold f_Reg_habitStrength
      rw [RqP_out V H h]
      rfl
    · show f_Mod_habitStrength _ _ = _
      unfold f_Mod_habitStrength
      rw [M_nob_out V rfl h, Option.bind_some]
      dsimp only
      rw [if_neg (by omega)]
theorem gav {g : Nat → Int} (V : GP g) {i : Nat} (hi : i < gn g) : ga g i = 0 ∨ ga g i = 1 := V.2.2.2 i hi
theorem q_isAlive (I : IV m) (a : Int) : QokB (f_Law_isAlive m a) (fun m1 => f_Mod_isAlive m1 a) := by
  obtain ⟨od, ps, H, R, Y, V, W, L⟩ := I.g
  by_cases h : 0 ≤ a ∧ a < m 148 0
  · obtain ⟨i, rfl, hi⟩ := pin V h
    have hv := gav V hi
    refine Q0B (v := ga (m 148) i) I hv (LisAlive_i ?_ hv) ?_ (MQr.F _ 0)
    · unfold f_Reg_isAlive
      rw [RqP_in V H hi, Option.bind_some, oel_n, P_liv V H hi, Option.bind_some, obt_i hv]
    · show f_Mod_isAlive _ _ = _
      unfold f_Mod_isAlive
      rw [M_nob_in V r1 hi, Option.bind_some]
      dsimp only
      rw [if_pos rfl, M_liv V r2 hi, Option.bind_some]
      rcases hv with e | e <;> rw [e] <;> rfl
  · refine QcB (v := 0) I (Or.inl rfl) (show (1 : Int) ≠ 0 by omega) (LisAlive_e1 ?_) ?_ (MQr.F _ 1)
    · unfold f_Reg_isAlive
      rw [RqP_out V H h]
      rfl
    · show f_Mod_isAlive _ _ = _
      unfold f_Mod_isAlive
      rw [M_nob_out V rfl h, Option.bind_some]
      dsimp only
      rw [if_neg (by omega)]
theorem q_isFounder (I : IV m) (a : Int) : QokB (f_Law_isFounder m a) (fun m1 => f_Mod_isFounder m1 a) := by
  obtain ⟨od, ps, H, R, Y, V, W, L⟩ := I.g
  by_cases h : 0 ≤ a ∧ a < m 148 0
  · obtain ⟨i, rfl, hi⟩ := pin V h
    have hn := V.n
    have hv : (if gp (m 148) i < 0 then (1 : Int) else 0) = 0 ∨ (if gp (m 148) i < 0 then (1 : Int) else 0) = 1 := by split <;> omega
    have hf3 := V.f i hi
    refine Q0B (v := if gp (m 148) i < 0 then 1 else 0) I hv (LisFounder_i ?_ hv) ?_ (MQr.F _ 0)
    · unfold f_Reg_isFounder
      rw [RqP_in V H hi, Option.bind_some, oel_n, P_par V H hi, Option.bind_some]
      by_cases e : gp (m 148) i < 0
      · rw [if_pos e, if_pos (by omega)]
      · rw [if_neg e, if_neg (by omega)]
    · show f_Mod_isFounder _ _ = _
      unfold f_Mod_isFounder
      rw [M_nob_in V r1 hi, Option.bind_some]
      dsimp only
      rw [if_pos rfl, M_par r2 (by omega), Option.bind_some]
      by_cases e : gp (m 148) i < 0
      · rw [if_pos e, if_pos e]
      · rw [if_neg e, if_neg e]
  · refine QcB (v := 0) I (Or.inl rfl) (show (1 : Int) ≠ 0 by omega) (LisFounder_e1 ?_) ?_ (MQr.F _ 1)
    · unfold f_Reg_isFounder
      rw [RqP_out V H h]
      rfl
    · show f_Mod_isFounder _ _ = _
      unfold f_Mod_isFounder
      rw [M_nob_out V rfl h, Option.bind_some]
      dsimp only
      rw [if_neg (by omega)]
theorem q_parentOf (I : IV m) (a : Int) : Qok (f_Law_parentOf m a) (fun m1 => f_Mod_parentOf m1 a) := by
  obtain ⟨od, ps, H, R, Y, V, W, L⟩ := I.g
  by_cases h : 0 ≤ a ∧ a < m 148 0
  · obtain ⟨i, rfl, hi⟩ := pin V h
    have hn := V.n
    have ho : okx (gn (m 148)) (gp (m 148) i) := okx_par V.f hi
    have hr : f_Reg_parentOf m (i : Int) = (f_Reg_requireFound m (gp (m 148) i)).bind fun sx3 => sel sx3 (fun x3 => some (.inl x3)) (fun e4 => some (.inr e4)) := by
      unfold f_Reg_parentOf
      rw [RqP_in V H hi, Option.bind_some, oel_n, P_par V H hi, Option.bind_some]
    rcases ho.cases with e | ⟨y, e, hy⟩
    · rw [e] at hr
      refine Qc (v := 0) I (show (2 : Int) ≠ 0 by omega) (LparentOf_e2 (hr.trans (by rw [RqF_no]; rfl))) ?_ (MQr.F _ 2)
      show f_Mod_parentOf _ _ = _
      unfold f_Mod_parentOf
      rw [M_per_in V rfl hi, Option.bind_some, if_neg (by omega), M_par rfl (by omega), Option.bind_some, e, if_pos (by omega), M_fails (by omega), Option.bind_some]
      dsimp only
      rw [if_neg (by omega)]
    · rw [e] at hr
      refine Q0 (v := (y : Int)) I (LparentOf_i (hr.trans (by rw [RqF_yes m (by omega)]; rfl))) ?_ (MQr.F _ 0)
      show f_Mod_parentOf _ _ = _
      unfold f_Mod_parentOf
      rw [M_per_in V r1 hi, Option.bind_some, if_neg (by omega), M_par r1 (by omega), Option.bind_some, e, if_neg (by omega), M_fails0, Option.bind_some]
      dsimp only
      rw [if_pos rfl, M_par r2 (by omega), e]
      rfl
  · refine Qc (v := 0) I (show (1 : Int) ≠ 0 by omega) (LparentOf_e1 ?_) ?_ (MQr.F _ 1)
    · unfold f_Reg_parentOf
      rw [RqP_out V H h]
      rfl
    · show f_Mod_parentOf _ _ = _
      unfold f_Mod_parentOf
      rw [M_per_out V rfl h, Option.bind_some, if_pos rfl, M_fails (by omega), Option.bind_some]
      dsimp only
      rw [if_neg (by omega)]
theorem hr_okx {g : Nat → Int} {od ps : Nat → Nat} (V : GP g) (H : OD (gp g) (gn g) od ps) {i : Nat} (hi : i < gn g) : okx (gn g) (hr (gp g) (gn g) od ps (gal g) i) := by
  rcases hr_spec (al := gal g) V.f H hi with ⟨e, -⟩ | ⟨y, e, h, -⟩
  · exact Or.inl e
  · have := h.1
    exact Or.inr ⟨by omega, by omega⟩
theorem M_hl_no {g : Nat → Int} {od ps : Nat → Nat} (V : GP g) (hg : m 148 = g) (H : OD (gp g) (gn g) od ps) {i : Nat} (hi : i < gn g) (e : hr (gp g) (gn g) od ps (gal g) i = -1) : f_Mod_isHeirless m (i : Int) = some (1, Fm m 2) := by
  unfold f_Mod_isHeirless
  rw [M_per_in V hg hi, Option.bind_some, if_neg (by omega), M_heir V hg H hi, Option.bind_some, e, if_pos (by omega)]
  rfl
theorem M_hl_yes {g : Nat → Int} {od ps : Nat → Nat} (V : GP g) (hg : m 148 = g) (H : OD (gp g) (gn g) od ps) {i y : Nat} (hi : i < gn g) (e : hr (gp g) (gn g) od ps (gal g) i = (y : Int)) : f_Mod_isHeirless m (i : Int) = some (0, Fm m 0) := by
  unfold f_Mod_isHeirless
  rw [M_per_in V hg hi, Option.bind_some, if_neg (by omega), M_heir V hg H hi, Option.bind_some, e, if_neg (by omega)]
  rfl
theorem M_hl_out {g : Nat → Int} (V : GP g) (hg : m 148 = g) {a : Int} (h : ¬ (0 ≤ a ∧ a < g 0)) : f_Mod_isHeirless m a = some (1, Fm m 1) := by
  unfold f_Mod_isHeirless
  rw [M_per_out V hg h]
  rfl
theorem q_heirOf (I : IV m) (a : Int) : Qok (f_Law_heirOf m a) (fun m1 => f_Mod_heirOf m1 a) := by
  obtain ⟨od, ps, H, R, Y, V, W, L⟩ := I.g
  by_cases h : 0 ≤ a ∧ a < m 148 0
  · obtain ⟨i, rfl, hi⟩ := pin V h
    have hn := V.n
    have ho : okx (gn (m 148)) (hr (gp (m 148)) (gn (m 148)) od ps (gal (m 148)) i) := hr_okx V H.o hi
    have hr : f_Reg_heirOf m (i : Int) = (f_Reg_requireFound m (hr (gp (m 148)) (gn (m 148)) od ps (gal (m 148)) i)).bind fun sx3 => sel sx3 (fun x3 => some (.inl x3)) (fun e4 => some (.inr e4)) := by
      unfold f_Reg_heirOf
      rw [RqP_in V H hi, Option.bind_some, oel_n, P_heir V H hi, Option.bind_some]
    rcases ho.cases with e | ⟨y, e, hy⟩
    · rw [e] at hr
      refine Qc (v := 0) I (show (2 : Int) ≠ 0 by omega) (LheirOf_e2 (hr.trans (by rw [RqF_no]; rfl))) ?_ (MQr.F _ 2)
      show f_Mod_heirOf _ _ = _
      unfold f_Mod_heirOf
      rw [M_hl_no V rfl H.o hi e, Option.bind_some]
      dsimp only
      rw [if_neg (by omega)]
    · rw [e] at hr
      refine Q0 (v := (y : Int)) I (LheirOf_i (hr.trans (by rw [RqF_yes m (by omega)]; rfl))) ?_ (MQr.F _ 0)
      show f_Mod_heirOf _ _ = _
      unfold f_Mod_heirOf
      rw [M_hl_yes V r1 H.o hi e, Option.bind_some]
      dsimp only
      rw [if_pos rfl, M_heir V r2 H.o hi, e]
      rfl
  · refine Qc (v := 0) I (show (1 : Int) ≠ 0 by omega) (LheirOf_e1 ?_) ?_ (MQr.F _ 1)
    · unfold f_Reg_heirOf
      rw [RqP_out V H h]
      rfl
    · show f_Mod_heirOf _ _ = _
      unfold f_Mod_heirOf
      rw [M_hl_out V rfl h, Option.bind_some]
      dsimp only
      rw [if_neg (by omega)]
theorem q_heirByComparison (I : IV m) (a : Int) : Qok (f_Law_heirByComparison m a) (fun m1 => f_Mod_heirByComparison m1 a) := by
  obtain ⟨od, ps, H, R, Y, V, W, L⟩ := I.g
  by_cases h : 0 ≤ a ∧ a < m 148 0
  · obtain ⟨i, rfl, hi⟩ := pin V h
    have hn := V.n
    have ho : okx (gn (m 148)) (hr (gp (m 148)) (gn (m 148)) od ps (gal (m 148)) i) := hr_okx V H.o hi
    have hr : f_Reg_heirByComparison m (i : Int) = (f_Reg_requireFound m (hr (gp (m 148)) (gn (m 148)) od ps (gal (m 148)) i)).bind fun sx3 => sel sx3 (fun x3 => some (.inl x3)) (fun e4 => some (.inr e4)) := by
      unfold f_Reg_heirByComparison
      rw [RqP_in V H hi, Option.bind_some, oel_n, P_all V H hi, Option.bind_some]
    rcases ho.cases with e | ⟨y, e, hy⟩
    · rw [e] at hr
      refine Qc (v := 0) I (show (2 : Int) ≠ 0 by omega) (LheirByComparison_e2 (hr.trans (by rw [RqF_no]; rfl))) ?_ (MQr.F _ 2)
      show f_Mod_heirByComparison _ _ = _
      unfold f_Mod_heirByComparison
      rw [M_hl_no V rfl H.o hi e, Option.bind_some]
      dsimp only
      rw [if_neg (by omega)]
    · rw [e] at hr
      refine Q0 (v := (y : Int)) I (LheirByComparison_i (hr.trans (by rw [RqF_yes m (by omega)]; rfl))) ?_ (MQr.F _ 0)
      show f_Mod_heirByComparison _ _ = _
      unfold f_Mod_heirByComparison
      rw [M_hl_yes V r1 H.o hi e, Option.bind_some]
      dsimp only
      rw [if_pos rfl, M_heir V r2 H.o hi, e]
      rfl
  · refine Qc (v := 0) I (show (1 : Int) ≠ 0 by omega) (LheirByComparison_e1 ?_) ?_ (MQr.F _ 1)
    · unfold f_Reg_heirByComparison
      rw [RqP_out V H h]
      rfl
    · show f_Mod_heirByComparison _ _ = _
      unfold f_Mod_heirByComparison
      rw [M_hl_out V rfl h, Option.bind_some]
      dsimp only
      rw [if_neg (by omega)]
theorem q_directHeirOf (I : IV m) (a : Int) : Qok (f_Law_directHeirOf m a) (fun m1 => f_Mod_directHeirOf m1 a) := by
  obtain ⟨od, ps, H, R, Y, V, W, L⟩ := I.g
  by_cases h : 0 ≤ a ∧ a < m 148 0
  · obtain ⟨i, rfl, hi⟩ := pin V h
    have hn := V.n
    have ho : okx (gn (m 148)) (fb (gp (m 148)) (gn (m 148)) od ps (okb (m 148) (i : Int)) i) := fb_lt V.f H.o _ hi
    have hr : f_Reg_directHeirOf m (i : Int) = (f_Reg_requireFound m (fb (gp (m 148)) (gn (m 148)) od ps (okb (m 148) (i : Int)) i)).bind fun sx3 => sel sx3 (fun x3 => some (.inl x3)) (fun e4 => some (.inr e4)) := by
      unfold f_Reg_directHeirOf
      rw [RqP_in V H hi, Option.bind_some, oel_n, P_direct V H hi, fb_own V H.o hi (-1) (Or.inl rfl), Option.bind_some]
    rcases ho.cases with e | ⟨y, e, hy⟩
    · rw [e] at hr
      refine Qc (v := 0) I (show (2 : Int) ≠ 0 by omega) (LdirectHeirOf_e2 (hr.trans (by rw [RqF_no]; rfl))) ?_ (MQr.F _ 2)
      show f_Mod_directHeirOf _ _ = _
      unfold f_Mod_directHeirOf
      rw [M_per_in V rfl hi, Option.bind_some, if_neg (by omega), M_first V rfl H.o hi, Option.bind_some, e, if_pos (by omega), M_fails (by omega), Option.bind_some]
      dsimp only
      rw [if_neg (by omega)]
    · rw [e] at hr
      refine Q0 (v := (y : Int)) I (LdirectHeirOf_i (hr.trans (by rw [RqF_yes m (by omega)]; rfl))) ?_ (MQr.F _ 0)
      show f_Mod_directHeirOf _ _ = _
      unfold f_Mod_directHeirOf
      rw [M_per_in V r1 hi, Option.bind_some, if_neg (by omega), M_first V r1 H.o hi, Option.bind_some, e, if_neg (by omega), M_fails0, Option.bind_some]
      dsimp only
      rw [if_pos rfl, M_first V r2 H.o hi, e]
      rfl
  · refine Qc (v := 0) I (show (1 : Int) ≠ 0 by omega) (LdirectHeirOf_e1 ?_) ?_ (MQr.F _ 1)
    · unfold f_Reg_directHeirOf
      rw [RqP_out V H h]
      rfl
    · show f_Mod_directHeirOf _ _ = _
      unfold f_Mod_directHeirOf
      rw [M_per_out V rfl h, Option.bind_some, if_pos rfl, M_fails (by omega), Option.bind_some]
      dsimp only
      rw [if_neg (by omega)]
theorem M_caL {g : Nat → Int} (V : GP g) (hg : m 148 = g) {p : Nat} (a2 : Int) : ∀ (d : Nat) (x : Int) (k : Nat) (a4 : Int) (N : Nat), okx (gn g) x → (0 ≤ x → gn g - x.toNat ≤ d) → d < N → a2 = a4 + k → 0 ≤ a4 → a2 < 2147483648 → f_Mod_childAtL N m (p : Int) a2 x a4 = if caF (gp g) (gn g) p k x < 0 then some (0, Fm m 2) else some (caF (gp g) (gn g) p k x, Fm m 0)
  | _, _, _, _, 0, _, _, h, _, _, _ => by omega
  | d, x, k, a4, N + 1, hx, hd, hN, ha, h4, h2 => by
    have hn := V.n
    unfold f_Mod_childAtL
    rcases hx.cases with rfl | ⟨y, rfl, hy⟩
    · rw [caF_neg _ _ _ (show (-1 : Int) < 0 by omega)]
      by_cases h : a4 < a2
      · rw [if_pos h]
        rfl
      · rw [if_neg h]
        rfl
    · cases k with
      | zero =>
        show _ = if (y : Int) < 0 then _ else _
        rw [if_neg (show ¬ a4 < a2 by omega), if_neg (show ¬ (y : Int) < 0 by omega), if_neg (by omega)]
        rfl
      | succ k =>
        have e : caF (gp g) (gn g) p (k + 1) (y : Int) = caF (gp g) (gn g) p k (cb (gp g) (gn g) (p : Int) y) := by
          show (if (y : Int) < 0 then _ else _) = _
          rw [if_neg (by omega), Int.toNat_natCast]
        rw [e, if_pos (show a4 < a2 by omega), if_neg (show ¬ (y : Int) < 0 by omega), M_cb V hg _ hy, Option.bind_some, jw_id (z := a4 + 1) ⟨by omega, by omega⟩]
        have hd2 := hd (by omega)
        rw [Int.toNat_natCast] at hd2
        cases d with
        | zero => omega
        | succ d =>
          rcases cb_spec (gp g) (gn g) (p : Int) y with ⟨e2, -⟩ | ⟨c, e2, h5, h6, -⟩
          · rw [e2]
            exact M_caL V hg a2 d (-1) k (a4 + 1) N (Or.inl rfl) (by omega) (by omega) (by omega) (by omega) h2
          · rw [e2]
            exact M_caL V hg a2 d (c : Int) k (a4 + 1) N (Or.inr ⟨by omega, by omega⟩) (by omega) (by omega) (by omega) (by omega) h2
theorem M_ca {g : Nat → Int} (V : GP g) (hg : m 148 = g) {p : Nat} (hp : p < gn g) {a2 : Int} (h2 : a2 < 2147483648) : f_Mod_childAt m (p : Int) a2 = if chA g p a2 < 0 then some (0, Fm (Fm m 0) 2) else some (chA g p a2, Fm (Fm m 0) 0) := by
  have hn := V.n
  unfold f_Mod_childAt
  rw [M_nob_in V hg hp, Option.bind_some]
  dsimp only
  rw [if_pos rfl]
  have hg2 : (Fm m 0) 148 = g := (Fm_row (by omega)).trans hg
  by_cases h : a2 < 0
  · rw [if_pos h, chA_neg a2 h, if_pos (by omega)]
    unfold f_Mod_childAtL
    rw [if_neg (by omega)]
    rfl
  · obtain ⟨k, hk⟩ := Int.eq_ofNat_of_zero_le (show 0 ≤ a2 by omega)
    rw [if_neg h, M_cb V hg2 _ hp, Option.bind_some, hk, chA_eq V hp k]
    refine M_caL V hg2 (k : Int) (gn g) _ k 0 99999 ?_ (fun _ => by omega) (by omega) (by omega) (by omega) (by omega)
    rcases cb_spec (gp g) (gn g) (p : Int) p with ⟨e2, -⟩ | ⟨c, e2, h5, h6, -⟩
    · exact Or.inl e2
    · exact Or.inr ⟨by omega, by omega⟩
theorem MQr.FF (m : jMem) (c d : Int) : MQr m (Fm (Fm m d) c) c := ⟨Fm_8, (Fm_row (by omega)).trans (Fm_row (by omega)), (MQr.F m d).2.2.trans (MQr.F _ c).2.2⟩
theorem q_childAt (I : IV m) (a : Int) {a2 : Int} (h2 : a2 < 2147483648) : Qok (f_Law_childAt m a a2) (fun m1 => f_Mod_childAt m1 a a2) := by
  obtain ⟨od, ps, H, R, Y, V, W, L⟩ := I.g
  by_cases h : 0 ≤ a ∧ a < m 148 0
  · obtain ⟨i, rfl, hi⟩ := pin V h
    have hn := V.n
    have ho : okx (gn (m 148)) (chA (m 148) i a2) := chA_lt V i (gn (m 148)) 0 a2 (by omega)
    have hr : f_Reg_childAt m (i : Int) a2 = (f_Reg_requireFound m (chA (m 148) i a2)).bind fun sx3 => sel sx3 (fun x3 => some (.inl x3)) (fun e4 => some (.inr e4)) := by
      unfold f_Reg_childAt
      rw [RqP_in V H hi, Option.bind_some, oel_n, P_child V H, Option.bind_some]
    rcases ho.cases with e | ⟨y, e, hy⟩
    · rw [e] at hr
      refine Qc (v := 0) I (show (2 : Int) ≠ 0 by omega) (LchildAt_e2 (hr.trans (by rw [RqF_no]; rfl))) ?_ (MQr.FF _ 2 0)
      show f_Mod_childAt _ _ _ = _
      rw [M_ca V rfl hi h2, e]
      exact if_pos (by omega)
    · rw [e] at hr
      refine Q0 (v := (y : Int)) I (LchildAt_i (hr.trans (by rw [RqF_yes m (by omega)]; rfl))) ?_ (MQr.FF _ 0 0)
      show f_Mod_childAt _ _ _ = _
      rw [M_ca V r1 hi h2, e]
      exact if_neg (by omega)
  · refine Qc (v := 0) I (show (1 : Int) ≠ 0 by omega) (LchildAt_e1 ?_) ?_ (MQr.F _ 1)
    · unfold f_Reg_childAt
      rw [RqP_out V H h]
      rfl
    · show f_Mod_childAt _ _ _ = _
      unfold f_Mod_childAt
      rw [M_nob_out V rfl h, Option.bind_some]
      dsimp only
      rw [if_neg (by omega)]
/-! two people -/
theorem M_ppl_in {g : Nat → Int} (V : GP g) (hg : m 148 = g) {i j : Nat} (hi : i < gn g) (hj : j < gn g) : f_Mod_arePeople m (i : Int) (j : Int) = some 1 := by
  unfold f_Mod_arePeople
  rw [M_per_in V hg hi, Option.bind_some, if_neg (by omega), M_per_in V hg hj]
  rfl
theorem M_ppl_out {g : Nat → Int} (V : GP g) (hg : m 148 = g) {a b : Int} (h : ¬ ((0 ≤ a ∧ a < g 0) ∧ (0 ≤ b ∧ b < g 0))) : f_Mod_arePeople m a b = some 0 := by
  unfold f_Mod_arePeople
  by_cases h1 : 0 ≤ a ∧ a < g 0
  · obtain ⟨i, rfl, hi⟩ := pin V h1
    rw [M_per_in V hg hi, Option.bind_some, if_neg (by omega), M_per_out V hg (fun h2 => h ⟨h1, h2⟩)]
    rfl
  · rw [M_per_out V hg h1]
    rfl
theorem q_isAncestor (I : IV m) (a b : Int) : QokB (f_Law_isAncestor m a b) (fun m1 => f_Mod_isAncestor m1 a b) := by
  obtain ⟨od, ps, H, R, Y, V, W, L⟩ := I.g
  by_cases h : (0 ≤ a ∧ a < m 148 0) ∧ (0 ≤ b ∧ b < m 148 0)
  · obtain ⟨i, rfl, hi⟩ := pin V h.1
    obtain ⟨j, rfl, hj⟩ := pin V h.2
    have hv : (if abF (gp (m 148)) i (j + 1) j = true ∧ i ≠ j then (1 : Int) else 0) = 0 ∨ (if abF (gp (m 148)) i (j + 1) j = true ∧ i ≠ j then (1 : Int) else 0) = 1 := by split <;> omega
    refine Q0B (v := if abF (gp (m 148)) i (j + 1) j = true ∧ i ≠ j then 1 else 0) I hv (LisAncestor_i ?_ hv) ?_ (MQr.F _ 0)
    · unfold f_Reg_isAncestor
      rw [RqP_in V H hi, Option.bind_some, oel_n, RqP_in V H hj, Option.bind_some, oel_n]
      by_cases e : i = j
      · rw [if_pos (by omega), if_neg (fun h3 => h3.2 e)]
      · rw [if_neg (by omega), P_ns V H hi hj, Option.bind_some]
        by_cases h3 : AB (gp (m 148)) i j
        · rw [lc_self h3, if_pos rfl, if_pos ⟨h3, e⟩]
        · have hlc : ¬ lc (gp (m 148)) i j = (i : Int) := by
            intro h4
            rcases lc_spec V.f (b := j) i hi with ⟨e2, -⟩ | ⟨c, e2, -, a2, -⟩
            · omega
            · have : c = i := by omega
              rw [this] at a2
              exact h3 a2
          rw [if_neg hlc, if_neg (fun h4 => h3 h4.1)]
    · show f_Mod_isAncestor _ _ _ = _
      unfold f_Mod_isAncestor
      rw [M_ppl_in V r1 hi hj, Option.bind_some, if_neg (by omega), M_fails0, Option.bind_some]
      dsimp only
      rw [if_pos rfl, M_above V r2 hj, Option.bind_some]
      by_cases h3 : abF (gp (m 148)) i (j + 1) j = true ∧ i ≠ j
      · rw [if_pos h3, if_neg (by omega)]
      · rw [if_neg h3, if_pos rfl]
  · refine QcB (v := 0) I (Or.inl rfl) (show (1 : Int) ≠ 0 by omega) (LisAncestor_e1 ?_) ?_ (MQr.F _ 1)
    · unfold f_Reg_isAncestor
      by_cases h1 : 0 ≤ a ∧ a < m 148 0
      · obtain ⟨i, rfl, hi⟩ := pin V h1
        rw [RqP_in V H hi, Option.bind_some, oel_n, RqP_out V H (fun h2 => h ⟨h1, h2⟩)]
        rfl
      · rw [RqP_out V H h1]
        rfl
    · show f_Mod_isAncestor _ _ _ = _
      unfold f_Mod_isAncestor
      rw [M_ppl_out V rfl h]
      rfl
theorem M_str_in {g : Nat → Int} (V : GP g) (hg : m 148 = g) {i j : Nat} (hi : i < gn g) (hj : j < gn g) : f_Mod_areStrangers m (i : Int) (j : Int) = if lc (gp g) i j < 0 then some (1, Fm m 2) else some (0, Fm m 0) := by
  unfold f_Mod_areStrangers
  rw [M_ppl_in V hg hi hj, Option.bind_some, if_neg (by omega), M_com V hg hi hj, Option.bind_some]
  by_cases h : lc (gp g) i j < 0
  · rw [if_pos h, if_pos h]
    rfl
  · rw [if_neg h, if_neg h]
    rfl
theorem M_str_out {g : Nat → Int} (V : GP g) (hg : m 148 = g) {a b : Int} (h : ¬ ((0 ≤ a ∧ a < g 0) ∧ (0 ≤ b ∧ b < g 0))) : f_Mod_areStrangers m a b = some (1, Fm m 1) := by
  unfold f_Mod_areStrangers
  rw [M_ppl_out V hg h]
  rfl
theorem apt_lc {par : Nat → Int} {n : Nat} (f : fvp par n) {i j : Nat} (hi : i < n) (hj : j < n) : (lc par i j = -1 ∧ apt par i j = -1) ∨ (0 ≤ lc par i j ∧ 0 ≤ apt par i j) := by
  unfold apt
  rcases lc_spec f (b := j) i hi with ⟨e, -⟩ | ⟨c, e, a1, a2, -⟩
  · exact Or.inl ⟨e, if_pos e⟩
  · have h3 := (AB_dp f i hi a1).1
    have h4 := (AB_dp f j hj a2).1
    refine Or.inr ⟨by omega, ?_⟩
    rw [e, if_neg (by omega), Int.toNat_natCast]
    omega
theorem q_commonAncestor (I : IV m) (a b : Int) : Qok (f_Law_commonAncestor m a b) (fun m1 => f_Mod_commonAncestor m1 a b) := by
  obtain ⟨od, ps, H, R, Y, V, W, L⟩ := I.g
  by_cases h : (0 ≤ a ∧ a < m 148 0) ∧ (0 ≤ b ∧ b < m 148 0)
  · obtain ⟨i, rfl, hi⟩ := pin V h.1
    obtain ⟨j, rfl, hj⟩ := pin V h.2
    have hr : f_Reg_commonAncestor m (i : Int) (j : Int) = (f_Reg_requireFound m (lc (gp (m 148)) i j)).bind fun sx4 => sel sx4 (fun x4 => some (.inl x4)) (fun e5 => some (.inr e5)) := by
      unfold f_Reg_commonAncestor
      rw [RqP_in V H hi, Option.bind_some, oel_n, RqP_in V H hj, Option.bind_some, oel_n, P_ns V H hi hj, Option.bind_some]
    rcases apt_lc V.f hi hj with ⟨e1, e2⟩ | ⟨e1, e2⟩
    · refine Qc (v := 0) I (show (2 : Int) ≠ 0 by omega) (LcommonAncestor_e2 (hr.trans (by rw [show lc (gp (m 148)) i j = -1 from by assumption, RqF_no]; rfl))) ?_ (MQr.F _ 2)
      show f_Mod_commonAncestor _ _ _ = _
      unfold f_Mod_commonAncestor
      rw [M_str_in V rfl hi hj, if_pos (by omega), Option.bind_some]
      dsimp only
      rw [if_neg (by omega)]
    · refine Q0 (v := lc (gp (m 148)) i j) I (LcommonAncestor_i (hr.trans (by rw [RqF_yes m (by assumption)]; rfl))) ?_ (MQr.F _ 0)
      show f_Mod_commonAncestor _ _ _ = _
      unfold f_Mod_commonAncestor
      rw [M_str_in V r1 hi hj, if_neg (by omega), Option.bind_some]
      dsimp only
      rw [if_pos rfl, M_com V r2 hi hj]
      rfl
  · refine Qc (v := 0) I (show (1 : Int) ≠ 0 by omega) (LcommonAncestor_e1 ?_) ?_ (MQr.F _ 1)
    · unfold f_Reg_commonAncestor
      by_cases h1 : 0 ≤ a ∧ a < m 148 0
      · obtain ⟨i, rfl, hi⟩ := pin V h1
        rw [RqP_in V H hi, Option.bind_some, oel_n, RqP_out V H (fun h2 => h ⟨h1, h2⟩)]
        rfl
      · rw [RqP_out V H h1]
        rfl
    · show f_Mod_commonAncestor _ _ _ = _
      unfold f_Mod_commonAncestor
      rw [M_str_out V rfl h, Option.bind_some]
      dsimp only
      rw [if_neg (by omega)]
theorem q_distance (I : IV m) (a b : Int) : Qok (f_Law_distance m a b) (fun m1 => f_Mod_distance m1 a b) := by
  obtain ⟨od, ps, H, R, Y, V, W, L⟩ := I.g
  by_cases h : (0 ≤ a ∧ a < m 148 0) ∧ (0 ≤ b ∧ b < m 148 0)
  · obtain ⟨i, rfl, hi⟩ := pin V h.1
    obtain ⟨j, rfl, hj⟩ := pin V h.2
    have hr : f_Reg_distance m (i : Int) (j : Int) = (f_Reg_requireFound m (apt (gp (m 148)) i j)).bind fun sx4 => sel sx4 (fun x4 => some (.inl x4)) (fun e5 => some (.inr e5)) := by
      unfold f_Reg_distance
      rw [RqP_in V H hi, Option.bind_some, oel_n, RqP_in V H hj, Option.bind_some, oel_n, P_steps V H hi hj, Option.bind_some]
    rcases apt_lc V.f hi hj with ⟨e1, e2⟩ | ⟨e1, e2⟩
    · refine Qc (v := 0) I (show (2 : Int) ≠ 0 by omega) (Ldistance_e2 (hr.trans (by rw [show apt (gp (m 148)) i j = -1 from by assumption, RqF_no]; rfl))) ?_ (MQr.F _ 2)
      show f_Mod_distance _ _ _ = _
      unfold f_Mod_distance
      rw [M_str_in V rfl hi hj, if_pos (by omega), Option.bind_some]
      dsimp only
      rw [if_neg (by omega)]
    · refine Q0 (v := apt (gp (m 148)) i j) I (Ldistance_i (hr.trans (by rw [RqF_yes m (by assumption)]; rfl))) ?_ (MQr.F _ 0)
      show f_Mod_distance _ _ _ = _
      unfold f_Mod_distance
      rw [M_str_in V r1 hi hj, if_neg (by omega), Option.bind_some]
      dsimp only
      rw [if_pos rfl, M_apart V r2 hi hj]
      rfl
  · refine Qc (v := 0) I (show (1 : Int) ≠ 0 by omega) (Ldistance_e1 ?_) ?_ (MQr.F _ 1)
    · unfold f_Reg_distance
      by_cases h1 : 0 ≤ a ∧ a < m 148 0
      · obtain ⟨i, rfl, hi⟩ := pin V h1
        rw [RqP_in V H hi, Option.bind_some, oel_n, RqP_out V H (fun h2 => h ⟨h1, h2⟩)]
        rfl
      · rw [RqP_out V H h1]
        rfl
    · show f_Mod_distance _ _ _ = _
      unfold f_Mod_distance
      rw [M_str_out V rfl h, Option.bind_some]
      dsimp only
      rw [if_neg (by omega)]
theorem SQ.bfs {m m' : jMem} (k : ∀ q, q ≠ 14 → q ≠ 15 → q ≠ 16 → m' q = m q) : SQ m m' := ⟨fun q hq => k q (by omega) (by omega) (by omega), by rw [k 139 (by omega) (by omega) (by omega)], fun j _ => by rw [k 147 (by omega) (by omega) (by omega)]⟩
theorem q_distanceBySearch (I : IV m) (a b : Int) : Qok (f_Law_distanceBySearch m a b) (fun m1 => f_Mod_distanceBySearch m1 a b) := by
  obtain ⟨od, ps, H, R, Y, V, W, L⟩ := I.g
  by_cases h : (0 ≤ a ∧ a < m 148 0) ∧ (0 ≤ b ∧ b < m 148 0)
  · obtain ⟨i, rfl, hi⟩ := pin V h.1
    obtain ⟨j, rfl, hj⟩ := pin V h.2
    have hn := V.n
    obtain ⟨m', e0, s1, s2⟩ := S_start V H hi
    have I' : IV m' := I.sq (SQ.bfs s2)
    have hg : m' 148 = m 148 := s2 148 (by omega) (by omega) (by omega)
    have hr : f_Reg_distanceBySearch m (i : Int) (j : Int) = (f_Reg_requireFound m' (apt (gp (m 148)) i j)).bind fun sx5 => sel sx5 (fun x5 => some (.inl x5, m')) (fun e6 => some (.inr e6, m')) := by
      unfold f_Reg_distanceBySearch
      rw [RqP_in V H hi, Option.bind_some, oel_n, RqP_in V H hj, Option.bind_some, oel_n, e0, Option.bind_some, S_to m' (by omega), Option.bind_some, s1 j hj]
    rcases apt_lc V.f hi hj with ⟨e1, e2⟩ | ⟨e1, e2⟩
    · refine Qc (v := 0) I' (show (2 : Int) ≠ 0 by omega) (LdistanceBySearch_e2 (hr.trans (by rw [e2, RqF_no]; rfl))) ?_ (MQr.F _ 2)
      show f_Mod_distanceBySearch _ _ _ = _
      unfold f_Mod_distanceBySearch
      rw [M_str_in V hg hi hj, if_pos (by omega), Option.bind_some]
      dsimp only
      rw [if_neg (by omega)]
    · refine Q0 (v := apt (gp (m 148)) i j) I' (LdistanceBySearch_i (hr.trans (by rw [RqF_yes m' e2]; rfl))) ?_ (MQr.F _ 0)
      show f_Mod_distanceBySearch _ _ _ = _
      unfold f_Mod_distanceBySearch
      rw [M_str_in V (r1.trans hg) hi hj, if_neg (by omega), Option.bind_some]
      dsimp only
      rw [if_pos rfl, M_apart V (r2.trans hg) hi hj]
      rfl
  · refine Qc (v := 0) I (show (1 : Int) ≠ 0 by omega) (LdistanceBySearch_e1 ?_) ?_ (MQr.F _ 1)
    · unfold f_Reg_distanceBySearch
      by_cases h1 : 0 ≤ a ∧ a < m 148 0
      · obtain ⟨i, rfl, hi⟩ := pin V h1
        rw [RqP_in V H hi, Option.bind_some, oel_n, RqP_out V H (fun h2 => h ⟨h1, h2⟩)]
        rfl
      · rw [RqP_out V H h1]
        rfl
    · show f_Mod_distanceBySearch _ _ _ = _
      unfold f_Mod_distanceBySearch
      rw [M_str_out V rfl h, Option.bind_some]
      dsimp only
      rw [if_neg (by omega)]
end Queries

/-! ===== the turns ===== -/
section TurnAll
variable {m : jMem} {cf : jCf} {i : Int} {dv : UInt64}
def ciN (cf : jCf) (i : Int) (d : Int) : Int := (cf.2.2.2 (jw (i + d)).toNat).toInt
theorem ci_E (h0 : 0 ≤ i) (hL : cf.2.2.1 ≤ 2048) (h4 : i + 4 ≤ (cf.2.2.1 : Int)) {d : Int} (d0 : 0 ≤ d) (d3 : d ≤ 3) {β : Type} (r : Option β) : oix (jw (i + d)) cf.2.2.1 r = r := by
  rw [jw_id ⟨by omega, by omega⟩]
  exact oix_i (by omega) (by omega)
theorem ci_b (x : Int32) : x.toInt < 2147483648 := (ji_r x).2
theorem tt_0 (I : IV m) (h0 : 0 ≤ i) (hL : cf.2.2.1 ≤ 2048) (h4 : i + 4 ≤ (cf.2.2.1 : Int)) : Tok (f_turn0 cf i m dv) := by
  unfold f_turn0
  exact T_int (q_addFounder I) dv
theorem tt_1 (I : IV m) (h0 : 0 ≤ i) (hL : cf.2.2.1 ≤ 2048) (h4 : i + 4 ≤ (cf.2.2.1 : Int)) : Tok (f_turn1 cf i m dv) := by
  have E1 : ∀ {β : Type} (r : Option β), oix (jw (i + 1)) cf.2.2.1 r = r := fun r => ci_E h0 hL h4 (by omega) (by omega) r
  unfold f_turn1
  simp only [E1]
  exact T_int (q_addChild I _) dv
theorem tt_2 (I : IV m) (h0 : 0 ≤ i) (hL : cf.2.2.1 ≤ 2048) (h4 : i + 4 ≤ (cf.2.2.1 : Int)) : Tok (f_turn2 cf i m dv) := by
  have E1 : ∀ {β : Type} (r : Option β), oix (jw (i + 1)) cf.2.2.1 r = r := fun r => ci_E h0 hL h4 (by omega) (by omega) r
  unfold f_turn2
  simp only [E1]
  exact T_int (q_bury I _) dv
theorem tt_3 (I : IV m) (h0 : 0 ≤ i) (hL : cf.2.2.1 ≤ 2048) (h4 : i + 4 ≤ (cf.2.2.1 : Int)) : Tok (f_turn3 cf i m dv) := by
  obtain ⟨v, m2, e1, e2, e3⟩ := n_peopleCount I
  unfold f_turn3
  exact T_num (B := f_Mod_peopleCount) I e1 e2 e3
theorem tt_4 (I : IV m) (h0 : 0 ≤ i) (hL : cf.2.2.1 ≤ 2048) (h4 : i + 4 ≤ (cf.2.2.1 : Int)) : Tok (f_turn4 cf i m dv) := by
  obtain ⟨v, m2, e1, e2, e3⟩ := n_livingCount I
  unfold f_turn4
  exact T_num (B := f_Mod_livingCount) I e1 e2 e3
theorem tt_5 (I : IV m) (h0 : 0 ≤ i) (hL : cf.2.2.1 ≤ 2048) (h4 : i + 4 ≤ (cf.2.2.1 : Int)) : Tok (f_turn5 cf i m dv) := by
  have E1 : ∀ {β : Type} (r : Option β), oix (jw (i + 1)) cf.2.2.1 r = r := fun r => ci_E h0 hL h4 (by omega) (by omega) r
  unfold f_turn5
  simp only [E1]
  exact T_bool (q_isAlive I _) dv
theorem tt_6 (I : IV m) (h0 : 0 ≤ i) (hL : cf.2.2.1 ≤ 2048) (h4 : i + 4 ≤ (cf.2.2.1 : Int)) : Tok (f_turn6 cf i m dv) := by
  have E1 : ∀ {β : Type} (r : Option β), oix (jw (i + 1)) cf.2.2.1 r = r := fun r => ci_E h0 hL h4 (by omega) (by omega) r
  unfold f_turn6
  simp only [E1]
  exact T_bool (q_isFounder I _) dv
theorem tt_7 (I : IV m) (h0 : 0 ≤ i) (hL : cf.2.2.1 ≤ 2048) (h4 : i + 4 ≤ (cf.2.2.1 : Int)) : Tok (f_turn7 cf i m dv) := by
  have E1 : ∀ {β : Type} (r : Option β), oix (jw (i + 1)) cf.2.2.1 r = r := fun r => ci_E h0 hL h4 (by omega) (by omega) r
  unfold f_turn7
  simp only [E1]
  exact T_int (q_parentOf I _) dv
theorem tt_8 (I : IV m) (h0 : 0 ≤ i) (hL : cf.2.2.1 ≤ 2048) (h4 : i + 4 ≤ (cf.2.2.1 : Int)) : Tok (f_turn8 cf i m dv) := by
  have E1 : ∀ {β : Type} (r : Option β), oix (jw (i + 1)) cf.2.2.1 r = r := fun r => ci_E h0 hL h4 (by omega) (by omega) r
  unfold f_turn8
  simp only [E1]
  exact T_int (q_childCount I _) dv
theorem tt_9 (I : IV m) (h0 : 0 ≤ i) (hL : cf.2.2.1 ≤ 2048) (h4 : i + 4 ≤ (cf.2.2.1 : Int)) : Tok (f_turn9 cf i m dv) := by
  have E1 : ∀ {β : Type} (r : Option β), oix (jw (i + 1)) cf.2.2.1 r = r := fun r => ci_E h0 hL h4 (by omega) (by omega) r
  have E2 : ∀ {β : Type} (r : Option β), oix (jw (i + 2)) cf.2.2.1 r = r := fun r => ci_E h0 hL h4 (by omega) (by omega) r
  unfold f_turn9
  simp only [E1, E2]
  exact T_int (q_childAt I _ (ci_b _)) dv
theorem tt_10 (I : IV m) (h0 : 0 ≤ i) (hL : cf.2.2.1 ≤ 2048) (h4 : i + 4 ≤ (cf.2.2.1 : Int)) : Tok (f_turn10 cf i m dv) := by
  have E1 : ∀ {β : Type} (r : Option β), oix (jw (i + 1)) cf.2.2.1 r = r := fun r => ci_E h0 hL h4 (by omega) (by omega) r
  unfold f_turn10
  simp only [E1]
  exact T_int (q_generation I _) dv
theorem tt_11 (I : IV m) (h0 : 0 ≤ i) (hL : cf.2.2.1 ≤ 2048) (h4 : i + 4 ≤ (cf.2.2.1 : Int)) : Tok (f_turn11 cf i m dv) := by
  have E1 : ∀ {β : Type} (r : Option β), oix (jw (i + 1)) cf.2.2.1 r = r := fun r => ci_E h0 hL h4 (by omega) (by omega) r
  unfold f_turn11
  simp only [E1]
  exact T_int (q_livingDescendants I _) dv
theorem tt_12 (I : IV m) (h0 : 0 ≤ i) (hL : cf.2.2.1 ≤ 2048) (h4 : i + 4 ≤ (cf.2.2.1 : Int)) : Tok (f_turn12 cf i m dv) := by
  have E1 : ∀ {β : Type} (r : Option β), oix (jw (i + 1)) cf.2.2.1 r = r := fun r => ci_E h0 hL h4 (by omega) (by omega) r
  have E2 : ∀ {β : Type} (r : Option β), oix (jw (i + 2)) cf.2.2.1 r = r := fun r => ci_E h0 hL h4 (by omega) (by omega) r
  unfold f_turn12
  simp only [E1, E2]
  exact T_bool (q_isAncestor I _ _) dv
theorem tt_13 (I : IV m) (h0 : 0 ≤ i) (hL : cf.2.2.1 ≤ 2048) (h4 : i + 4 ≤ (cf.2.2.1 : Int)) : Tok (f_turn13 cf i m dv) := by
  have E1 : ∀ {β : Type} (r : Option β), oix (jw (i + 1)) cf.2.2.1 r = r := fun r => ci_E h0 hL h4 (by omega) (by omega) r
  have E2 : ∀ {β : Type} (r : Option β), oix (jw (i + 2)) cf.2.2.1 r = r := fun r => ci_E h0 hL h4 (by omega) (by omega) r
  unfold f_turn13
  simp only [E1, E2]
  exact T_int (q_commonAncestor I _ _) dv
theorem tt_14 (I : IV m) (h0 : 0 ≤ i) (hL : cf.2.2.1 ≤ 2048) (h4 : i + 4 ≤ (cf.2.2.1 : Int)) : Tok (f_turn14 cf i m dv) := by
  have E1 : ∀ {β : Type} (r : Option β), oix (jw (i + 1)) cf.2.2.1 r = r := fun r => ci_E h0 hL h4 (by omega) (by omega) r
  have E2 : ∀ {β : Type} (r : Option β), oix (jw (i + 2)) cf.2.2.1 r = r := fun r => ci_E h0 hL h4 (by omega) (by omega) r
  unfold f_turn14
  simp only [E1, E2]
  exact T_int (q_distance I _ _) dv
theorem tt_15 (I : IV m) (h0 : 0 ≤ i) (hL : cf.2.2.1 ≤ 2048) (h4 : i + 4 ≤ (cf.2.2.1 : Int)) : Tok (f_turn15 cf i m dv) := by
  have E1 : ∀ {β : Type} (r : Option β), oix (jw (i + 1)) cf.2.2.1 r = r := fun r => ci_E h0 hL h4 (by omega) (by omega) r
  have E2 : ∀ {β : Type} (r : Option β), oix (jw (i + 2)) cf.2.2.1 r = r := fun r => ci_E h0 hL h4 (by omega) (by omega) r
  unfold f_turn15
  simp only [E1, E2]
  exact T_int (q_distanceBySearch I _ _) dv
theorem tt_16 (I : IV m) (h0 : 0 ≤ i) (hL : cf.2.2.1 ≤ 2048) (h4 : i + 4 ≤ (cf.2.2.1 : Int)) : Tok (f_turn16 cf i m dv) := by
  have E1 : ∀ {β : Type} (r : Option β), oix (jw (i + 1)) cf.2.2.1 r = r := fun r => ci_E h0 hL h4 (by omega) (by omega) r
  unfold f_turn16
  simp only [E1]
  exact T_int (q_heirOf I _) dv
theorem tt_17 (I : IV m) (h0 : 0 ≤ i) (hL : cf.2.2.1 ≤ 2048) (h4 : i + 4 ≤ (cf.2.2.1 : Int)) : Tok (f_turn17 cf i m dv) := by
  have E1 : ∀ {β : Type} (r : Option β), oix (jw (i + 1)) cf.2.2.1 r = r := fun r => ci_E h0 hL h4 (by omega) (by omega) r
  unfold f_turn17
  simp only [E1]
  exact T_int (q_heirByComparison I _) dv
theorem tt_18 (I : IV m) (h0 : 0 ≤ i) (hL : cf.2.2.1 ≤ 2048) (h4 : i + 4 ≤ (cf.2.2.1 : Int)) : Tok (f_turn18 cf i m dv) := by
  have E1 : ∀ {β : Type} (r : Option β), oix (jw (i + 1)) cf.2.2.1 r = r := fun r => ci_E h0 hL h4 (by omega) (by omega) r
  unfold f_turn18
  simp only [E1]
  exact T_int (q_directHeirOf I _) dv
theorem tt_19 (I : IV m) (h0 : 0 ≤ i) (hL : cf.2.2.1 ≤ 2048) (h4 : i + 4 ≤ (cf.2.2.1 : Int)) : Tok (f_turn19 cf i m dv) := by
  have E1 : ∀ {β : Type} (r : Option β), oix (jw (i + 1)) cf.2.2.1 r = r := fun r => ci_E h0 hL h4 (by omega) (by omega) r
  unfold f_turn19
  simp only [E1]
  exact T_int (q_successionPosition I _) dv
theorem tt_20 (I : IV m) (h0 : 0 ≤ i) (hL : cf.2.2.1 ≤ 2048) (h4 : i + 4 ≤ (cf.2.2.1 : Int)) : Tok (f_turn20 cf i m dv) := by
  have E1 : ∀ {β : Type} (r : Option β), oix (jw (i + 1)) cf.2.2.1 r = r := fun r => ci_E h0 hL h4 (by omega) (by omega) r
  have E2 : ∀ {β : Type} (r : Option β), oix (jw (i + 2)) cf.2.2.1 r = r := fun r => ci_E h0 hL h4 (by omega) (by omega) r
  have E3 : ∀ {β : Type} (r : Option β), oix (jw (i + 3)) cf.2.2.1 r = r := fun r => ci_E h0 hL h4 (by omega) (by omega) r
  unfold f_turn20
  simp only [E1, E2, E3]
  exact T_int (q_addHabit I _ _ _) dv
theorem tt_21 (I : IV m) (h0 : 0 ≤ i) (hL : cf.2.2.1 ≤ 2048) (h4 : i + 4 ≤ (cf.2.2.1 : Int)) : Tok (f_turn21 cf i m dv) := by
  have E1 : ∀ {β : Type} (r : Option β), oix (jw (i + 1)) cf.2.2.1 r = r := fun r => ci_E h0 hL h4 (by omega) (by omega) r
  unfold f_turn21
  simp only [E1]
  exact T_int (q_practise I _) dv
theorem tt_22 (I : IV m) (h0 : 0 ≤ i) (hL : cf.2.2.1 ≤ 2048) (h4 : i + 4 ≤ (cf.2.2.1 : Int)) : Tok (f_turn22 cf i m dv) := by
  have E1 : ∀ {β : Type} (r : Option β), oix (jw (i + 1)) cf.2.2.1 r = r := fun r => ci_E h0 hL h4 (by omega) (by omega) r
  unfold f_turn22
  simp only [E1]
  exact T_int (q_neglect I _) dv
theorem tt_23 (I : IV m) (h0 : 0 ≤ i) (hL : cf.2.2.1 ≤ 2048) (h4 : i + 4 ≤ (cf.2.2.1 : Int)) : Tok (f_turn23 cf i m dv) := by
  have E1 : ∀ {β : Type} (r : Option β), oix (jw (i + 1)) cf.2.2.1 r = r := fun r => ci_E h0 hL h4 (by omega) (by omega) r
  unfold f_turn23
  simp only [E1]
  exact T_int (q_entail I _) dv
theorem tt_24 (I : IV m) (h0 : 0 ≤ i) (hL : cf.2.2.1 ≤ 2048) (h4 : i + 4 ≤ (cf.2.2.1 : Int)) : Tok (f_turn24 cf i m dv) := by
  have E1 : ∀ {β : Type} (r : Option β), oix (jw (i + 1)) cf.2.2.1 r = r := fun r => ci_E h0 hL h4 (by omega) (by omega) r
  unfold f_turn24
  simp only [E1]
  exact T_int (q_breakEntail I _) dv
theorem tt_25 (I : IV m) (h0 : 0 ≤ i) (hL : cf.2.2.1 ≤ 2048) (h4 : i + 4 ≤ (cf.2.2.1 : Int)) : Tok (f_turn25 cf i m dv) := by
  have E1 : ∀ {β : Type} (r : Option β), oix (jw (i + 1)) cf.2.2.1 r = r := fun r => ci_E h0 hL h4 (by omega) (by omega) r
  have E2 : ∀ {β : Type} (r : Option β), oix (jw (i + 2)) cf.2.2.1 r = r := fun r => ci_E h0 hL h4 (by omega) (by omega) r
  unfold f_turn25
  simp only [E1, E2]
  exact T_int (q_give I _ _) dv
theorem tt_26 (I : IV m) (h0 : 0 ≤ i) (hL : cf.2.2.1 ≤ 2048) (h4 : i + 4 ≤ (cf.2.2.1 : Int)) : Tok (f_turn26 cf i m dv) := by
  obtain ⟨v, m2, e1, e2, e3⟩ := n_habitCount I
  unfold f_turn26
  exact T_num (B := f_Mod_habitCount) I e1 e2 e3
theorem tt_27 (I : IV m) (h0 : 0 ≤ i) (hL : cf.2.2.1 ≤ 2048) (h4 : i + 4 ≤ (cf.2.2.1 : Int)) : Tok (f_turn27 cf i m dv) := by
  have E1 : ∀ {β : Type} (r : Option β), oix (jw (i + 1)) cf.2.2.1 r = r := fun r => ci_E h0 hL h4 (by omega) (by omega) r
  unfold f_turn27
  simp only [E1]
  exact T_int (q_kindOf I _) dv
theorem tt_28 (I : IV m) (h0 : 0 ≤ i) (hL : cf.2.2.1 ≤ 2048) (h4 : i + 4 ≤ (cf.2.2.1 : Int)) : Tok (f_turn28 cf i m dv) := by
  have E1 : ∀ {β : Type} (r : Option β), oix (jw (i + 1)) cf.2.2.1 r = r := fun r => ci_E h0 hL h4 (by omega) (by omega) r
  unfold f_turn28
  simp only [E1]
  exact T_int (q_strengthOf I _) dv
theorem tt_29 (I : IV m) (h0 : 0 ≤ i) (hL : cf.2.2.1 ≤ 2048) (h4 : i + 4 ≤ (cf.2.2.1 : Int)) : Tok (f_turn29 cf i m dv) := by
  have E1 : ∀ {β : Type} (r : Option β), oix (jw (i + 1)) cf.2.2.1 r = r := fun r => ci_E h0 hL h4 (by omega) (by omega) r
  unfold f_turn29
  simp only [E1]
  exact T_int (q_holderOf I _) dv
theorem tt_30 (I : IV m) (h0 : 0 ≤ i) (hL : cf.2.2.1 ≤ 2048) (h4 : i + 4 ≤ (cf.2.2.1 : Int)) : Tok (f_turn30 cf i m dv) := by
  have E1 : ∀ {β : Type} (r : Option β), oix (jw (i + 1)) cf.2.2.1 r = r := fun r => ci_E h0 hL h4 (by omega) (by omega) r
  unfold f_turn30
  simp only [E1]
  exact T_bool (q_isExtinct I _) dv
theorem tt_31 (I : IV m) (h0 : 0 ≤ i) (hL : cf.2.2.1 ≤ 2048) (h4 : i + 4 ≤ (cf.2.2.1 : Int)) : Tok (f_turn31 cf i m dv) := by
  have E1 : ∀ {β : Type} (r : Option β), oix (jw (i + 1)) cf.2.2.1 r = r := fun r => ci_E h0 hL h4 (by omega) (by omega) r
  unfold f_turn31
  simp only [E1]
  exact T_bool (q_isEntailed I _) dv
theorem tt_32 (I : IV m) (h0 : 0 ≤ i) (hL : cf.2.2.1 ≤ 2048) (h4 : i + 4 ≤ (cf.2.2.1 : Int)) : Tok (f_turn32 cf i m dv) := by
  have E1 : ∀ {β : Type} (r : Option β), oix (jw (i + 1)) cf.2.2.1 r = r := fun r => ci_E h0 hL h4 (by omega) (by omega) r
  unfold f_turn32
  simp only [E1]
  exact T_bool (q_isPractised I _) dv
theorem tt_33 (I : IV m) (h0 : 0 ≤ i) (hL : cf.2.2.1 ≤ 2048) (h4 : i + 4 ≤ (cf.2.2.1 : Int)) : Tok (f_turn33 cf i m dv) := by
  have E1 : ∀ {β : Type} (r : Option β), oix (jw (i + 1)) cf.2.2.1 r = r := fun r => ci_E h0 hL h4 (by omega) (by omega) r
  have E2 : ∀ {β : Type} (r : Option β), oix (jw (i + 2)) cf.2.2.1 r = r := fun r => ci_E h0 hL h4 (by omega) (by omega) r
  unfold f_turn33
  simp only [E1, E2]
  exact T_int (q_habitOf I _ _) dv
theorem tt_34 (I : IV m) (h0 : 0 ≤ i) (hL : cf.2.2.1 ≤ 2048) (h4 : i + 4 ≤ (cf.2.2.1 : Int)) : Tok (f_turn34 cf i m dv) := by
  have E1 : ∀ {β : Type} (r : Option β), oix (jw (i + 1)) cf.2.2.1 r = r := fun r => ci_E h0 hL h4 (by omega) (by omega) r
  unfold f_turn34
  simp only [E1]
  exact T_int (q_habitStrength I _) dv
theorem tt_35 (I : IV m) (h0 : 0 ≤ i) (hL : cf.2.2.1 ≤ 2048) (h4 : i + 4 ≤ (cf.2.2.1 : Int)) : Tok (f_turn35 cf i m dv) := by
  have E1 : ∀ {β : Type} (r : Option β), oix (jw (i + 1)) cf.2.2.1 r = r := fun r => ci_E h0 hL h4 (by omega) (by omega) r
  unfold f_turn35
  simp only [E1]
  exact T_int (q_passYears I _) dv
theorem tt_36 (I : IV m) (h0 : 0 ≤ i) (hL : cf.2.2.1 ≤ 2048) (h4 : i + 4 ≤ (cf.2.2.1 : Int)) : Tok (f_turn36 cf i m dv) := by
  obtain ⟨v, m2, e1, e2, e3⟩ := n_year I
  unfold f_turn36
  exact T_num (B := f_Mod_year) I e1 e2 e3
theorem tt_37 (I : IV m) (h0 : 0 ≤ i) (hL : cf.2.2.1 ≤ 2048) (h4 : i + 4 ≤ (cf.2.2.1 : Int)) : Tok (f_turn37 cf i m dv) := by
  have E1 : ∀ {β : Type} (r : Option β), oix (jw (i + 1)) cf.2.2.1 r = r := fun r => ci_E h0 hL h4 (by omega) (by omega) r
  unfold f_turn37
  simp only [E1]
  exact T_int (q_yearsLeft I _) dv
theorem tt_38 (I : IV m) (h0 : 0 ≤ i) (hL : cf.2.2.1 ≤ 2048) (h4 : i + 4 ≤ (cf.2.2.1 : Int)) : Tok (f_turn38 cf i m dv) := by
  obtain ⟨v, m2, e1, e2, e3⟩ := n_lapsedCount I
  unfold f_turn38
  exact T_num (B := f_Mod_lapsedCount) I e1 e2 e3
theorem tt_39 (I : IV m) (h0 : 0 ≤ i) (hL : cf.2.2.1 ≤ 2048) (h4 : i + 4 ≤ (cf.2.2.1 : Int)) : Tok (f_turn39 cf i m dv) := by
  obtain ⟨v, m2, e1, e2, e3⟩ := n_mergedCount I
  unfold f_turn39
  exact T_num (B := f_Mod_mergedCount) I e1 e2 e3
theorem tt_40 (I : IV m) (h0 : 0 ≤ i) (hL : cf.2.2.1 ≤ 2048) (h4 : i + 4 ≤ (cf.2.2.1 : Int)) : Tok (f_turn40 cf i m dv) := by
  obtain ⟨v, m2, e1, e2, e3⟩ := n_brokenCount I
  unfold f_turn40
  exact T_num (B := f_Mod_brokenCount) I e1 e2 e3
theorem tt_41 (I : IV m) (h0 : 0 ≤ i) (hL : cf.2.2.1 ≤ 2048) (h4 : i + 4 ≤ (cf.2.2.1 : Int)) : Tok (f_turn41 cf i m dv) := by
  obtain ⟨v, m2, e1, e2, e3⟩ := n_totalStrength I
  unfold f_turn41
  exact T_num (B := f_Mod_totalStrength) I e1 e2 e3
theorem tt_42 (I : IV m) (h0 : 0 ≤ i) (hL : cf.2.2.1 ≤ 2048) (h4 : i + 4 ≤ (cf.2.2.1 : Int)) : Tok (f_turn42 cf i m dv) := by
  obtain ⟨v, m2, e1, e2, e3⟩ := n_totalStrengthByPeople I
  unfold f_turn42
  exact T_num (B := f_Mod_totalStrengthByPeople) I e1 e2 e3
theorem tt_43 (I : IV m) (h0 : 0 ≤ i) (hL : cf.2.2.1 ≤ 2048) (h4 : i + 4 ≤ (cf.2.2.1 : Int)) : Tok (f_turn43 cf i m dv) := by
  have E1 : ∀ {β : Type} (r : Option β), oix (jw (i + 1)) cf.2.2.1 r = r := fun r => ci_E h0 hL h4 (by omega) (by omega) r
  unfold f_turn43
  simp only [E1]
  exact T_int (q_habitByStrength I _) dv
theorem tt_44 (I : IV m) (h0 : 0 ≤ i) (hL : cf.2.2.1 ≤ 2048) (h4 : i + 4 ≤ (cf.2.2.1 : Int)) : Tok (f_turn44 cf i m dv) := by
  have E1 : ∀ {β : Type} (r : Option β), oix (jw (i + 1)) cf.2.2.1 r = r := fun r => ci_E h0 hL h4 (by omega) (by omega) r
  unfold f_turn44
  simp only [E1]
  exact T_int (q_personByStrength I _) dv
theorem tt_45 (I : IV m) (h0 : 0 ≤ i) (hL : cf.2.2.1 ≤ 2048) (h4 : i + 4 ≤ (cf.2.2.1 : Int)) : Tok (f_turn45 cf i m dv) := t_meanStrength I
theorem tt_46 (I : IV m) (h0 : 0 ≤ i) (hL : cf.2.2.1 ≤ 2048) (h4 : i + 4 ≤ (cf.2.2.1 : Int)) : Tok (f_turn46 cf i m dv) := t_livingShare I
theorem tt_47 (I : IV m) (h0 : 0 ≤ i) (hL : cf.2.2.1 ≤ 2048) (h4 : i + 4 ≤ (cf.2.2.1 : Int)) : Tok (f_turn47 cf i m dv) := by
  obtain ⟨m1, m2, e1, e2, I2⟩ := t_isConsistent I
  refine ⟨m2, dv, 0, ?_, I2⟩
  unfold f_turn47
  rw [e1, Option.bind_some]
  dsimp only
  rw [e2, Option.bind_some]
  dsimp only
  rw [if_pos rfl]
theorem tt_48 (I : IV m) (h0 : 0 ≤ i) (hL : cf.2.2.1 ≤ 2048) (h4 : i + 4 ≤ (cf.2.2.1 : Int)) : Tok (f_turn48 cf i m dv) := by
  have E1 : ∀ {β : Type} (r : Option β), oix (jw (i + 1)) cf.2.2.1 r = r := fun r => ci_E h0 hL h4 (by omega) (by omega) r
  unfold f_turn48
  simp only [E1]
  exact T_int (q_writePerson I _) dv
theorem tt_49 (I : IV m) (h0 : 0 ≤ i) (hL : cf.2.2.1 ≤ 2048) (h4 : i + 4 ≤ (cf.2.2.1 : Int)) : Tok (f_turn49 cf i m dv) := by
  have E1 : ∀ {β : Type} (r : Option β), oix (jw (i + 1)) cf.2.2.1 r = r := fun r => ci_E h0 hL h4 (by omega) (by omega) r
  unfold f_turn49
  simp only [E1]
  exact T_int (q_writeLine I _) dv
theorem tt_50 (I : IV m) (h0 : 0 ≤ i) (hL : cf.2.2.1 ≤ 2048) (h4 : i + 4 ≤ (cf.2.2.1 : Int)) : Tok (f_turn50 cf i m dv) := by
  have E1 : ∀ {β : Type} (r : Option β), oix (jw (i + 1)) cf.2.2.1 r = r := fun r => ci_E h0 hL h4 (by omega) (by omega) r
  unfold f_turn50
  simp only [E1]
  exact T_int (q_outputAt I _) dv
theorem tt_51 (I : IV m) (h0 : 0 ≤ i) (hL : cf.2.2.1 ≤ 2048) (h4 : i + 4 ≤ (cf.2.2.1 : Int)) : Tok (f_turn51 cf i m dv) := by
  have E1 : ∀ {β : Type} (r : Option β), oix (jw (i + 1)) cf.2.2.1 r = r := fun r => ci_E h0 hL h4 (by omega) (by omega) r
  unfold f_turn51
  simp only [E1]
  exact T_int (q_appendInput I _) dv
theorem tt_52 (I : IV m) (h0 : 0 ≤ i) (hL : cf.2.2.1 ≤ 2048) (h4 : i + 4 ≤ (cf.2.2.1 : Int)) : Tok (f_turn52 cf i m dv) := by
  unfold f_turn52
  exact T_int (q_execute I) dv
theorem tt_53 (I : IV m) (h0 : 0 ≤ i) (hL : cf.2.2.1 ≤ 2048) (h4 : i + 4 ≤ (cf.2.2.1 : Int)) : Tok (f_turn53 cf i m dv) := by
  unfold f_turn53
  exact T_int (q_syntaxErrorOffset I) dv
theorem tt_54 (I : IV m) (h0 : 0 ≤ i) (hL : cf.2.2.1 ≤ 2048) (h4 : i + 4 ≤ (cf.2.2.1 : Int)) : Tok (f_turn54 cf i m dv) := by
  unfold f_turn54
  exact T_int (q_rejectionReason I) dv
theorem tt_55 (I : IV m) (h0 : 0 ≤ i) (hL : cf.2.2.1 ≤ 2048) (h4 : i + 4 ≤ (cf.2.2.1 : Int)) : Tok (f_turn55 cf i m dv) := by
  unfold f_turn55
  exact T_int (q_rejectionDetail I) dv
theorem tt_56 (I : IV m) (h0 : 0 ≤ i) (hL : cf.2.2.1 ≤ 2048) (h4 : i + 4 ≤ (cf.2.2.1 : Int)) : Tok (f_turn56 cf i m dv) := by
  unfold f_turn56
  exact T_int (q_causeReason I) dv
theorem tt_57 (I : IV m) (h0 : 0 ≤ i) (hL : cf.2.2.1 ≤ 2048) (h4 : i + 4 ≤ (cf.2.2.1 : Int)) : Tok (f_turn57 cf i m dv) := by
  unfold f_turn57
  exact T_int (q_undo I) dv
theorem tt_58 (I : IV m) (h0 : 0 ≤ i) (hL : cf.2.2.1 ≤ 2048) (h4 : i + 4 ≤ (cf.2.2.1 : Int)) : Tok (f_turn58 cf i m dv) := by
  obtain ⟨v, m2, e1, e2, e3⟩ := n_undoCount I
  unfold f_turn58
  exact T_num (B := f_Mod_undoCount) I e1 e2 e3
theorem tt_59 (I : IV m) (h0 : 0 ≤ i) (hL : cf.2.2.1 ≤ 2048) (h4 : i + 4 ≤ (cf.2.2.1 : Int)) : Tok (f_turn59 cf i m dv) := by
  obtain ⟨v, m1, m2, e1, e2, I2⟩ := t_saveSnapshot I
  refine ⟨m2, dv, 0, ?_, I2⟩
  unfold f_turn59
  rw [e1, Option.bind_some]
  dsimp only
  rw [e2, Option.bind_some]
  dsimp only
  rw [if_pos rfl]
theorem tt_60 (I : IV m) (h0 : 0 ≤ i) (hL : cf.2.2.1 ≤ 2048) (h4 : i + 4 ≤ (cf.2.2.1 : Int)) : Tok (f_turn60 cf i m dv) := by
  unfold f_turn60
  exact T_int (q_restoreSnapshot I) dv
theorem tt_D (I : IV m) : Tok (f_turnD cf i m dv) := ⟨m, dv, 0, rfl, I⟩
/-- every turn -/
theorem tt_all (I : IV m) (h0 : 0 ≤ i) (hL : cf.2.2.1 ≤ 2048) (h4 : i + 4 ≤ (cf.2.2.1 : Int)) (s : Int) : Tok (f_turn cf s i m dv) := by
  unfold f_turn
  by_cases a0 : s = 0
  · rw [if_pos a0]
    exact tt_0 I h0 hL h4
  rw [if_neg a0]
  by_cases a1 : s = 1
  · rw [if_pos a1]
    exact tt_1 I h0 hL h4
  rw [if_neg a1]
  by_cases a2 : s = 2
  · rw [if_pos a2]
    exact tt_2 I h0 hL h4
  rw [if_neg a2]
  by_cases a3 : s = 3
  · rw [if_pos a3]
    exact tt_3 I h0 hL h4
  rw [if_neg a3]
  by_cases a4 : s = 4
  · rw [if_pos a4]
    exact tt_4 I h0 hL h4
  rw [if_neg a4]
  by_cases a5 : s = 5
  · rw [if_pos a5]
    exact tt_5 I h0 hL h4
  rw [if_neg a5]
  by_cases a6 : s = 6
  · rw [if_pos a6]
    exact tt_6 I h0 hL h4
  rw [if_neg a6]
  by_cases a7 : s = 7
  · rw [if_pos a7]
    exact tt_7 I h0 hL h4
  rw [if_neg a7]
  by_cases a8 : s = 8
  · rw [if_pos a8]
    exact tt_8 I h0 hL h4
  rw [if_neg a8]
  by_cases a9 : s = 9
  · rw [if_pos a9]
    exact tt_9 I h0 hL h4
  rw [if_neg a9]
  by_cases a10 : s = 10
  · rw [if_pos a10]
    exact tt_10 I h0 hL h4
  rw [if_neg a10]
  by_cases a11 : s = 11
  · rw [if_pos a11]
    exact tt_11 I h0 hL h4
  rw [if_neg a11]
  by_cases a12 : s = 12
  · rw [if_pos a12]
    exact tt_12 I h0 hL h4
  rw [if_neg a12]
  by_cases a13 : s = 13
  · rw [if_pos a13]
    exact tt_13 I h0 hL h4
  rw [if_neg a13]
  by_cases a14 : s = 14
  · rw [if_pos a14]
    exact tt_14 I h0 hL h4
  rw [if_neg a14]
  by_cases a15 : s = 15
  · rw [if_pos a15]
    exact tt_15 I h0 hL h4
  rw [if_neg a15]
  by_cases a16 : s = 16
  · rw [if_pos a16]
    exact tt_16 I h0 hL h4
  rw [if_neg a16]
  by_cases a17 : s = 17
  · rw [if_pos a17]
    exact tt_17 I h0 hL h4
  rw [if_neg a17]
  by_cases a18 : s = 18
  · rw [if_pos a18]
    exact tt_18 I h0 hL h4
  rw [if_neg a18]
  by_cases a19 : s = 19
  · rw [if_pos a19]
    exact tt_19 I h0 hL h4
  rw [if_neg a19]
  by_cases a20 : s = 20
  · rw [if_pos a20]
    exact tt_20 I h0 hL h4
  rw [if_neg a20]
  by_cases a21 : s = 21
  · rw [if_pos a21]
    exact tt_21 I h0 hL h4
  rw [if_neg a21]
  by_cases a22 : s = 22
  · rw [if_pos a22]
    exact tt_22 I h0 hL h4
  rw [if_neg a22]
  by_cases a23 : s = 23
  · rw [if_pos a23]
    exact tt_23 I h0 hL h4
  rw [if_neg a23]
  by_cases a24 : s = 24
  · rw [if_pos a24]
    exact tt_24 I h0 hL h4
  rw [if_neg a24]
  by_cases a25 : s = 25
  · rw [if_pos a25]
    exact tt_25 I h0 hL h4
  rw [if_neg a25]
  by_cases a26 : s = 26
  · rw [if_pos a26]
    exact tt_26 I h0 hL h4
  rw [if_neg a26]
  by_cases a27 : s = 27
  · rw [if_pos a27]
    exact tt_27 I h0 hL h4
  rw [if_neg a27]
  by_cases a28 : s = 28
  · rw [if_pos a28]
    exact tt_28 I h0 hL h4
  rw [if_neg a28]
  by_cases a29 : s = 29
  · rw [if_pos a29]
    exact tt_29 I h0 hL h4
  rw [if_neg a29]
  by_cases a30 : s = 30
  · rw [if_pos a30]
    exact tt_30 I h0 hL h4
  rw [if_neg a30]
  by_cases a31 : s = 31
  · rw [if_pos a31]
    exact tt_31 I h0 hL h4
  rw [if_neg a31]
  by_cases a32 : s = 32
  · rw [if_pos a32]
    exact tt_32 I h0 hL h4
  rw [if_neg a32]
  by_cases a33 : s = 33
  · rw [if_pos a33]
    exact tt_33 I h0 hL h4
  rw [if_neg a33]
  by_cases a34 : s = 34
  · rw [if_pos a34]
    exact tt_34 I h0 hL h4
  rw [if_neg a34]
  by_cases a35 : s = 35
  · rw [if_pos a35]
    exact tt_35 I h0 hL h4
  rw [if_neg a35]
  by_cases a36 : s = 36
  · rw [if_pos a36]
    exact tt_36 I h0 hL h4
  rw [if_neg a36]
  by_cases a37 : s = 37
  · rw [if_pos a37]
    exact tt_37 I h0 hL h4
  rw [if_neg a37]
  by_cases a38 : s = 38
  · rw [if_pos a38]
    exact tt_38 I h0 hL h4
  rw [if_neg a38]
  by_cases a39 : s = 39
  · rw [if_pos a39]
    exact tt_39 I h0 hL h4
  rw [if_neg a39]
  by_cases a40 : s = 40
  · rw [if_pos a40]
    exact tt_40 I h0 hL h4
  rw [if_neg a40]
  by_cases a41 : s = 41
  · rw [if_pos a41]
    exact tt_41 I h0 hL h4
  rw [if_neg a41]
  by_cases a42 : s = 42
  · rw [if_pos a42]
    exact tt_42 I h0 hL h4
  rw [if_neg a42]
  by_cases a43 : s = 43
  · rw [if_pos a43]
    exact tt_43 I h0 hL h4
  rw [if_neg a43]
  by_cases a44 : s = 44
  · rw [if_pos a44]
    exact tt_44 I h0 hL h4
  rw [if_neg a44]
  by_cases a45 : s = 45
  · rw [if_pos a45]
    exact tt_45 I h0 hL h4
  rw [if_neg a45]
  by_cases a46 : s = 46
  · rw [if_pos a46]
    exact tt_46 I h0 hL h4
  rw [if_neg a46]
  by_cases a47 : s = 47
  · rw [if_pos a47]
    exact tt_47 I h0 hL h4
  rw [if_neg a47]
  by_cases a48 : s = 48
  · rw [if_pos a48]
    exact tt_48 I h0 hL h4
  rw [if_neg a48]
  by_cases a49 : s = 49
  · rw [if_pos a49]
    exact tt_49 I h0 hL h4
  rw [if_neg a49]
  by_cases a50 : s = 50
  · rw [if_pos a50]
    exact tt_50 I h0 hL h4
  rw [if_neg a50]
  by_cases a51 : s = 51
  · rw [if_pos a51]
    exact tt_51 I h0 hL h4
  rw [if_neg a51]
  by_cases a52 : s = 52
  · rw [if_pos a52]
    exact tt_52 I h0 hL h4
  rw [if_neg a52]
  by_cases a53 : s = 53
  · rw [if_pos a53]
    exact tt_53 I h0 hL h4
  rw [if_neg a53]
  by_cases a54 : s = 54
  · rw [if_pos a54]
    exact tt_54 I h0 hL h4
  rw [if_neg a54]
  by_cases a55 : s = 55
  · rw [if_pos a55]
    exact tt_55 I h0 hL h4
  rw [if_neg a55]
  by_cases a56 : s = 56
  · rw [if_pos a56]
    exact tt_56 I h0 hL h4
  rw [if_neg a56]
  by_cases a57 : s = 57
  · rw [if_pos a57]
    exact tt_57 I h0 hL h4
  rw [if_neg a57]
  by_cases a58 : s = 58
  · rw [if_pos a58]
    exact tt_58 I h0 hL h4
  rw [if_neg a58]
  by_cases a59 : s = 59
  · rw [if_pos a59]
    exact tt_59 I h0 hL h4
  rw [if_neg a59]
  by_cases a60 : s = 60
  · rw [if_pos a60]
    exact tt_60 I h0 hL h4
  rw [if_neg a60]
  exact tt_D I
end TurnAll

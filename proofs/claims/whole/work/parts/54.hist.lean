/-! ===== the model keeps a row; the ring of states ===== -/
theorem G148_shift : ∀ (k a N : Nat) (m : jMem), a + k = 966 → ∃ m', f_Mod_keeps_148L (N + k) m (a : Int) = f_Mod_keeps_148L N m' 966 ∧ (∀ q, q ≠ 149 → m' q = m q) ∧ ∀ j, m' 149 j = if a ≤ j ∧ j < 966 then m 149 (j + 138) else m 149 j
  | 0, a, N, m, ha => ⟨m, by rw [show a = 966 by omega]; rfl, fun _ _ => rfl, fun j => (if_neg (by omega)).symm⟩
  | k + 1, a, N, m, ha => by
    obtain ⟨m', e, f1, f2⟩ := G148_shift k (a + 1) N (mset m 149 a (m 149 (a + 138))) (by omega)
    refine ⟨m', ?_, fun q hq => (f1 q hq).trans (mset_ne hq), fun j => ?_⟩
    · rw [← e, show N + (k + 1) = (N + k) + 1 by omega]
      conv => lhs; unfold f_Mod_keeps_148L
      rw [if_pos (show (a : Int) < 966 by omega), jw_e (y := ((a + 138 : Nat) : Int)) (by omega) (by omega) (by omega), oix_n (by omega), oix_n (by omega), Int.toNat_natCast, Int.toNat_natCast, jw_s (by omega)]
    · rw [f2, ms_s, ms_s]
      by_cases c : j = a
      · rw [if_neg (by omega), if_pos c, if_pos (by omega), c]
      · by_cases c2 : a ≤ j ∧ j < 966
        · rw [if_pos (by omega), if_pos c2, if_neg (by omega)]
        · rw [if_neg (by omega), if_neg c2, if_neg c]
/-- a row kept -/
theorem G148_keeps {m : jMem} {c : Nat} (h6 : m 147 6 = 0) (h5 : m 147 5 = (c : Int)) (hc : c ≤ 8) : ∃ m', f_Mod_keeps_148 m = some m' ∧ (∀ q, q ≠ 147 → q ≠ 149 → m' q = m q) ∧ (∀ j, j ≠ 5 → j ≠ 8 → m' 147 j = m 147 j) ∧ m' 147 8 = 0 ∧ m' 147 5 = (if c = 8 then 8 else (c : Int) + 1) ∧ (∀ k i, i < 138 → k + (if c = 8 then 1 else 0) < c → m' 149 (138 * k + i) = m 149 (138 * (k + (if c = 8 then 1 else 0)) + i)) ∧ ∀ i, i < 138 → m' 149 (138 * (if c = 8 then 7 else c) + i) = m 148 i := by
  have e6 : (mset m 147 8 0) 147 6 = 0 := (ms_g (by omega)).trans h6
  have e5 : (mset m 147 8 0) 147 5 = (c : Int) := (ms_g (by omega)).trans h5
  have hk : f_Mod_keeps_148 m = if (mset m 147 8 0) 147 5 = 8 then f_Mod_keeps_148L 99999 (mset m 147 8 0) 0 else (f_Mod_copies_148_149 (mset m 147 8 0) 0 (jw (138 * ((mset m 147 8 0) 147 5)))).bind fun m1 => some (mset m1 147 5 (jw ((m1 147 5) + 1))) := by
    unfold f_Mod_keeps_148
    rw [if_pos e6]
  by_cases h8 : c = 8
  · subst h8
    obtain ⟨m1, e1, g1, g2⟩ := G148_shift 966 0 (99032 + 1) (mset m 147 8 0) (by omega)
    have e1' : f_Mod_keeps_148L 99999 (mset m 147 8 0) 0 = f_Mod_keeps_148L (99032 + 1) m1 966 := e1
    have a5 : m1 147 5 = 8 := by rw [g1 _ (by omega), ms_g (by omega)]; exact h5
    obtain ⟨m2, e2, k1, k2⟩ := K148_149 0 966 (by omega) (by omega) (mset m1 147 5 7)
    have e2' : f_Mod_copies_148_149 (mset m1 147 5 7) 0 ((966 : Nat) : Int) = some m2 := e2
    have b5 : m2 147 5 = 7 := by rw [k1 _ (by omega), ms_f]
    have hk2 : f_Mod_keeps_148 m = some (mset m2 147 5 8) := by
      rw [hk, if_pos (by rw [e5]; rfl), e1']
      unfold f_Mod_keeps_148L
      rw [if_neg (by omega), a5, show jw (8 - 1) = 7 by decide, ms_f, show jw (138 * 7) = ((966 : Nat) : Int) by decide, e2', Option.bind_some, b5, show jw (7 + 1) = 8 by decide]
    rw [hk2]
    refine ⟨_, rfl, fun q q1 q2 => ?_, fun j j1 j2 => ?_, ?_, ?_, fun k i hi hk => ?_, fun i hi => ?_⟩
    · rw [mset_ne q1, k1 _ q2, mset_ne q1, g1 _ q2, mset_ne q1]
    · rw [ms_g j1, k1 _ (by omega), ms_g j1, g1 _ (by omega), ms_g j2]
    · rw [ms_g (by omega), k1 _ (by omega), ms_g (by omega), g1 _ (by omega), ms_f]
    · rw [ms_f, if_pos rfl]
    · rw [if_pos rfl] at hk ⊢
      rw [ms_o (by omega), k2, if_neg (by omega), ms_o (by omega), g2, if_pos (by omega), ms_o (by omega), show 138 * k + i + 138 = 138 * (k + 1) + i by omega]
    · rw [if_pos rfl, ms_o (by omega), k2, if_pos (by omega), ms_o (by omega), g1 _ (by omega), ms_o (by omega), show 0 + (138 * 7 + i - 966) = i by omega]
  · obtain ⟨m2, e2, k1, k2⟩ := K148_149 0 (138 * c) (by omega) (by omega) (mset m 147 8 0)
    have e2' : f_Mod_copies_148_149 (mset m 147 8 0) 0 ((138 * c : Nat) : Int) = some m2 := e2
    have b5 : m2 147 5 = (c : Int) := by rw [k1 _ (by omega), e5]
    have hk2 : f_Mod_keeps_148 m = some (mset m2 147 5 (jw ((c : Int) + 1))) := by
      rw [hk, if_neg (by rw [e5]; omega), e5, jw_e (y := ((138 * c : Nat) : Int)) (by omega) (by omega) (by omega), e2', Option.bind_some, b5]
    rw [hk2]
    refine ⟨_, rfl, fun q q1 q2 => ?_, fun j j1 j2 => ?_, ?_, ?_, fun k i hi hk => ?_, fun i hi => ?_⟩
    · rw [mset_ne q1, k1 _ q2, mset_ne q1]
    · rw [ms_g j1, k1 _ (by omega), ms_g j2]
    · rw [ms_g (by omega), k1 _ (by omega), ms_f]
    · rw [ms_f, if_neg h8, jw_id ⟨by omega, by omega⟩]
    · rw [if_neg h8] at hk ⊢
      have hk2 : 138 * k + i < 138 * c := by omega
      rw [ms_o (by omega), k2, if_neg (by omega), ms_o (by omega), Nat.add_zero]
    · rw [if_neg h8, ms_o (by omega), k2, if_pos (by omega), ms_o (by omega), show 0 + (138 * c + i - 138 * c) = i by omega]
theorem G151_shift : ∀ (k a N : Nat) (m : jMem), a + k = 966 → ∃ m', f_Mod_keeps_151L (N + k) m (a : Int) = f_Mod_keeps_151L N m' 966 ∧ (∀ q, q ≠ 149 → m' q = m q) ∧ ∀ j, m' 149 j = if a ≤ j ∧ j < 966 then m 149 (j + 138) else m 149 j
  | 0, a, N, m, ha => ⟨m, by rw [show a = 966 by omega]; rfl, fun _ _ => rfl, fun j => (if_neg (by omega)).symm⟩
  | k + 1, a, N, m, ha => by
    obtain ⟨m', e, f1, f2⟩ := G151_shift k (a + 1) N (mset m 149 a (m 149 (a + 138))) (by omega)
    refine ⟨m', ?_, fun q hq => (f1 q hq).trans (mset_ne hq), fun j => ?_⟩
    · rw [← e, show N + (k + 1) = (N + k) + 1 by omega]
      conv => lhs; unfold f_Mod_keeps_151L
      rw [if_pos (show (a : Int) < 966 by omega), jw_e (y := ((a + 138 : Nat) : Int)) (by omega) (by omega) (by omega), oix_n (by omega), oix_n (by omega), Int.toNat_natCast, Int.toNat_natCast, jw_s (by omega)]
    · rw [f2, ms_s, ms_s]
      by_cases c : j = a
      · rw [if_neg (by omega), if_pos c, if_pos (by omega), c]
      · by_cases c2 : a ≤ j ∧ j < 966
        · rw [if_pos (by omega), if_pos c2, if_neg (by omega)]
        · rw [if_neg (by omega), if_neg c2, if_neg c]
/-- a row kept -/
theorem G151_keeps {m : jMem} {c : Nat} (h6 : m 147 6 = 0) (h5 : m 147 5 = (c : Int)) (hc : c ≤ 8) : ∃ m', f_Mod_keeps_151 m = some m' ∧ (∀ q, q ≠ 147 → q ≠ 149 → m' q = m q) ∧ (∀ j, j ≠ 5 → j ≠ 8 → m' 147 j = m 147 j) ∧ m' 147 8 = 0 ∧ m' 147 5 = (if c = 8 then 8 else (c : Int) + 1) ∧ (∀ k i, i < 138 → k + (if c = 8 then 1 else 0) < c → m' 149 (138 * k + i) = m 149 (138 * (k + (if c = 8 then 1 else 0)) + i)) ∧ ∀ i, i < 138 → m' 149 (138 * (if c = 8 then 7 else c) + i) = m 151 i := by
  have e6 : (mset m 147 8 0) 147 6 = 0 := (ms_g (by omega)).trans h6
  have e5 : (mset m 147 8 0) 147 5 = (c : Int) := (ms_g (by omega)).trans h5
  have hk : f_Mod_keeps_151 m = if (mset m 147 8 0) 147 5 = 8 then f_Mod_keeps_151L 99999 (mset m 147 8 0) 0 else (f_Mod_copies_151_149 (mset m 147 8 0) 0 (jw (138 * ((mset m 147 8 0) 147 5)))).bind fun m1 => some (mset m1 147 5 (jw ((m1 147 5) + 1))) := by
    unfold f_Mod_keeps_151
    rw [if_pos e6]
  by_cases h8 : c = 8
  · subst h8
    obtain ⟨m1, e1, g1, g2⟩ := G151_shift 966 0 (99032 + 1) (mset m 147 8 0) (by omega)
    have e1' : f_Mod_keeps_151L 99999 (mset m 147 8 0) 0 = f_Mod_keeps_151L (99032 + 1) m1 966 := e1
    have a5 : m1 147 5 = 8 := by rw [g1 _ (by omega), ms_g (by omega)]; exact h5
    obtain ⟨m2, e2, k1, k2⟩ := K151_149 0 966 (by omega) (by omega) (mset m1 147 5 7)
    have e2' : f_Mod_copies_151_149 (mset m1 147 5 7) 0 ((966 : Nat) : Int) = some m2 := e2
    have b5 : m2 147 5 = 7 := by rw [k1 _ (by omega), ms_f]
    have hk2 : f_Mod_keeps_151 m = some (mset m2 147 5 8) := by
      rw [hk, if_pos (by rw [e5]; rfl), e1']
      unfold f_Mod_keeps_151L
      rw [if_neg (by omega), a5, show jw (8 - 1) = 7 by decide, ms_f, show jw (138 * 7) = ((966 : Nat) : Int) by decide, e2', Option.bind_some, b5, show jw (7 + 1) = 8 by decide]
    rw [hk2]
    refine ⟨_, rfl, fun q q1 q2 => ?_, fun j j1 j2 => ?_, ?_, ?_, fun k i hi hk => ?_, fun i hi => ?_⟩
    · rw [mset_ne q1, k1 _ q2, mset_ne q1, g1 _ q2, mset_ne q1]
    · rw [ms_g j1, k1 _ (by omega), ms_g j1, g1 _ (by omega), ms_g j2]
    · rw [ms_g (by omega), k1 _ (by omega), ms_g (by omega), g1 _ (by omega), ms_f]
    · rw [ms_f, if_pos rfl]
    · rw [if_pos rfl] at hk ⊢
      rw [ms_o (by omega), k2, if_neg (by omega), ms_o (by omega), g2, if_pos (by omega), ms_o (by omega), show 138 * k + i + 138 = 138 * (k + 1) + i by omega]
    · rw [if_pos rfl, ms_o (by omega), k2, if_pos (by omega), ms_o (by omega), g1 _ (by omega), ms_o (by omega), show 0 + (138 * 7 + i - 966) = i by omega]
  · obtain ⟨m2, e2, k1, k2⟩ := K151_149 0 (138 * c) (by omega) (by omega) (mset m 147 8 0)
    have e2' : f_Mod_copies_151_149 (mset m 147 8 0) 0 ((138 * c : Nat) : Int) = some m2 := e2
    have b5 : m2 147 5 = (c : Int) := by rw [k1 _ (by omega), e5]
    have hk2 : f_Mod_keeps_151 m = some (mset m2 147 5 (jw ((c : Int) + 1))) := by
      rw [hk, if_neg (by rw [e5]; omega), e5, jw_e (y := ((138 * c : Nat) : Int)) (by omega) (by omega) (by omega), e2', Option.bind_some, b5]
    rw [hk2]
    refine ⟨_, rfl, fun q q1 q2 => ?_, fun j j1 j2 => ?_, ?_, ?_, fun k i hi hk => ?_, fun i hi => ?_⟩
    · rw [mset_ne q1, k1 _ q2, mset_ne q1]
    · rw [ms_g j1, k1 _ (by omega), ms_g j2]
    · rw [ms_g (by omega), k1 _ (by omega), ms_f]
    · rw [ms_f, if_neg h8, jw_id ⟨by omega, by omega⟩]
    · rw [if_neg h8] at hk ⊢
      have hk2 : 138 * k + i < 138 * c := by omega
      rw [ms_o (by omega), k2, if_neg (by omega), ms_o (by omega), Nat.add_zero]
    · rw [if_neg h8, ms_o (by omega), k2, if_pos (by omega), ms_o (by omega), show 0 + (138 * c + i - 138 * c) = i by omega]
/-- what lies in the ring is what the model keeps -/
def HI (m : jMem) : Prop := ∃ c nx : Nat, m 17 1 = (nx : Int) ∧ nx < 9 ∧ m 17 2 = (c : Int) ∧ m 147 5 = (c : Int) ∧ c ≤ 8 ∧ ∀ j, j < c → RS (19 + 12 * ((nx + 8 - j) % 9)) m (fun i => m 149 (138 * (c - 1 - j) + i))
def TA (m : jMem) : Prop := TY 1 m ∧ TY 127 m ∧ ∀ s, s < 9 → TY (19 + 12 * s) m
theorem H_marked {m : jMem} {nx : Nat} (h : m 17 1 = (nx : Int)) (hn : nx < 9) : f_History_marked m = some (19 + 12 * nx) := by
  unfold f_History_marked
  rw [h, if_neg (by omega), if_pos (by omega), oix_n hn, Int.toNat_natCast]
theorem H_mark {m : jMem} {nx : Nat} (h : m 17 1 = (nx : Int)) (hn : nx < 9) (T : TY 1 m) : ∃ m', f_History_mark m = some m' ∧ BE 1 (19 + 12 * nx) m m' ∧ ∀ q, (q < 19 + 12 * nx ∨ 19 + 12 * nx + 12 ≤ q) → m' q = m q := by
  obtain ⟨m', e, B, K⟩ := C_st (b1 := 19 + 12 * nx) (b2 := 1) (m := m) (isSt_slot nx hn) isSt_1 (by omega) T
  refine ⟨m', ?_, B, K⟩
  unfold f_History_mark
  rw [H_marked h hn, Option.bind_some, e, Option.bind_some]
  unfold oS
  rw [if_pos (isSt_slot nx hn)]
theorem H_keep {m : jMem} {c nx : Nat} (h : m 17 1 = (nx : Int)) (hn : nx < 9) (h2 : m 17 2 = (c : Int)) (hc : c ≤ 8) : ∃ m', f_History_keep m = some m' ∧ m' 17 1 = (((nx + 1) % 9 : Nat) : Int) ∧ m' 17 2 = (if c = 8 then 8 else (c : Int) + 1) ∧ ∀ q, q ≠ 17 → m' q = m q := by
  unfold f_History_keep
  rw [h, jw_s (by omega)]
  by_cases h9 : nx + 1 < 9
  · rw [if_pos (by omega), ms_g (by omega), h2, jw_s (by omega)]
    refine ⟨_, rfl, ?_, ?_, fun q hq => ?_⟩
    · rw [ms_g (by omega), ms_f, Nat.mod_eq_of_lt h9]
    · rw [ms_f]
      by_cases h8 : c = 8
      · rw [if_pos (by omega), if_pos h8]
      · rw [if_neg (by omega), if_neg h8]
        rfl
    · rw [mset_ne hq, mset_ne hq]
  · rw [if_neg (by omega), ms_g (by omega), h2, jw_s (by omega)]
    refine ⟨_, rfl, ?_, ?_, fun q hq => ?_⟩
    · rw [ms_g (by omega), ms_f, show nx + 1 = 9 by omega]
      rfl
    · rw [ms_f]
      by_cases h8 : c = 8
      · rw [if_pos (by omega), if_pos h8]
      · rw [if_neg (by omega), if_neg h8]
        rfl
    · rw [mset_ne hq, mset_ne hq]
theorem H_back {m : jMem} {c nx : Nat} (h : m 17 1 = (nx : Int)) (hn : nx < 9) (h2 : m 17 2 = (c : Int)) (hc : c ≤ 8) (h0 : 0 < c) : ∃ m', f_History_stepBack m = some m' ∧ m' 17 1 = (((nx + 8) % 9 : Nat) : Int) ∧ m' 17 2 = ((c - 1 : Nat) : Int) ∧ ∀ q, q ≠ 17 → m' q = m q := by
  unfold f_History_stepBack
  rw [h]
  by_cases h9 : 0 < nx
  · rw [if_pos (by omega), ms_g (by omega), h2, jw_id (z := (c : Int) - 1) ⟨by omega, by omega⟩, if_neg (by omega)]
    refine ⟨_, rfl, ?_, ?_, fun q hq => ?_⟩
    · rw [ms_g (by omega), ms_f, jw_id ⟨by omega, by omega⟩, show (nx + 8) % 9 = nx - 1 by omega]
      omega
    · rw [ms_f]
      omega
    · rw [mset_ne hq, mset_ne hq]
  · rw [if_neg (by omega), ms_g (by omega), h2, jw_id (z := (c : Int) - 1) ⟨by omega, by omega⟩, if_neg (by omega)]
    refine ⟨_, rfl, ?_, ?_, fun q hq => ?_⟩
    · rw [ms_g (by omega), ms_f, show nx = 0 by omega]
      rfl
    · rw [ms_f]
      omega
    · rw [mset_ne hq, mset_ne hq]
/-- a change kept on both sides: m0 before, m' behind -/
theorem HI_keep {m m' : jMem} {c nx : Nat} (hnx : nx < 9) (hc : c ≤ 8) (J : ∀ j, j < c → RS (19 + 12 * ((nx + 8 - j) % 9)) m (fun i => m 149 (138 * (c - 1 - j) + i)))
    (S : RS 1 m (m 148)) (hB : BE 1 (19 + 12 * nx) m m') (hK : ∀ q, 19 ≤ q → q < 127 → (q < 19 + 12 * nx ∨ 19 + 12 * nx + 12 ≤ q) → m' q = m q)
    (h1 : m' 17 1 = (((nx + 1) % 9 : Nat) : Int)) (h2 : m' 17 2 = (if c = 8 then 8 else (c : Int) + 1)) (h5 : m' 147 5 = (if c = 8 then 8 else (c : Int) + 1))
    (r1 : ∀ k i, i < 138 → k + (if c = 8 then 1 else 0) < c → m' 149 (138 * k + i) = m 149 (138 * (k + (if c = 8 then 1 else 0)) + i)) (r2 : ∀ i, i < 138 → m' 149 (138 * (if c = 8 then 7 else c) + i) = m 148 i) : HI m' := by
  refine ⟨if c = 8 then 8 else c + 1, (nx + 1) % 9, h1, Nat.mod_lt _ (by omega), ?_, ?_, ?_, fun j hj => ?_⟩
  · rw [h2]
    by_cases h8 : c = 8
    · rw [if_pos h8, if_pos h8]; rfl
    · rw [if_neg h8, if_neg h8]; rfl
  · rw [h5]
    by_cases h8 : c = 8
    · rw [if_pos h8, if_pos h8]; rfl
    · rw [if_neg h8, if_neg h8]; rfl
  · by_cases h8 : c = 8
    · rw [if_pos h8]; omega
    · rw [if_neg h8]; omega
  · cases j with
    | zero =>
      have e1 : ((nx + 1) % 9 + 8 - 0) % 9 = nx := by omega
      have e2 : (if c = 8 then 8 else c + 1) - 1 - 0 = if c = 8 then 7 else c := by
        by_cases h8 : c = 8
        · rw [if_pos h8, if_pos h8]
        · rw [if_neg h8, if_neg h8]; omega
      rw [e1, e2]
      exact (S.tr hB).cg r2
    | succ j =>
      have hj2 : j + 1 < (if c = 8 then 8 else c + 1) := hj
      have hjc : j < c := by
        by_cases h8 : c = 8
        · rw [if_pos h8] at hj2; omega
        · rw [if_neg h8] at hj2; omega
      have hj8 : j < 8 := by omega
      have e1 : ((nx + 1) % 9 + 8 - (j + 1)) % 9 = (nx + 8 - j) % 9 := by omega
      have hne : (nx + 8 - j) % 9 ≠ nx := by omega
      have hlt : (nx + 8 - j) % 9 < 9 := Nat.mod_lt _ (by omega)
      have hJ := J j hjc
      rw [e1]
      generalize (nx + 8 - j) % 9 = s at hne hlt hJ ⊢
      have hB2 : BE (19 + 12 * s) (19 + 12 * s) m m' := BE.of fun q a b => hK q (by omega) (by omega) (by omega)
      refine (hJ.tr hB2).cg fun i hi => ?_
      have e3 : (if c = 8 then 8 else c + 1) - 1 - (j + 1) + (if c = 8 then 1 else 0) = c - 1 - j := by
        by_cases h8 : c = 8
        · rw [if_pos h8] at hj2; rw [if_pos h8, if_pos h8]; omega
        · rw [if_neg h8] at hj2; rw [if_neg h8, if_neg h8]; omega
      show m' 149 (138 * ((if c = 8 then 8 else c + 1) - 1 - (j + 1)) + i) = m 149 (138 * (c - 1 - j) + i)
      rw [r1 _ i hi (by rw [e3]; omega), e3]

/-! the snapshot, the refusals, the output, the input; the whole -/
def SN (m : jMem) : Prop := m 0 5 = m 147 4 ∧ (m 0 5 ≠ 0 → RS 127 m (m 150))
def RJ (m : jMem) : Prop := m 0 9 = m 147 9 ∧ m 0 10 = m 147 10 ∧ m 0 8 = m 147 14 ∧ -1 ≤ m 0 8 ∧ ((m 0 9 = 12 ∧ m 0 11 = m 147 11 ∧ m 147 11 ≠ 0) ∨ (m 0 9 ≠ 12 ∧ m 147 11 = 0))
def OU (m : jMem) : Prop := ∃ c : Nat, c ≤ 60 ∧ m 145 1 = (c : Int) ∧ m 147 16 = (c : Int) ∧ ∀ i, i < c → m 146 i = m 153 i ∧ 0 ≤ m 146 i ∧ m 146 i < 65536
def SC (m : jMem) : Prop := ∃ c : Nat, c ≤ 60 ∧ m 139 1 = (c : Int) ∧ m 147 13 = (c : Int) ∧ ∀ i, i < c → m 140 i = m 152 i ∧ 32 ≤ m 140 i ∧ m 140 i ≤ 126
def IV (m : jMem) : Prop := RS 1 m (m 148) ∧ HI m ∧ TA m ∧ SN m ∧ RJ m ∧ OU m ∧ SC m ∧ m 147 6 = 0
/-- the cells that count are the same -/
def SQ (m m' : jMem) : Prop :=
  (∀ q, (q < 13 ∨ (17 ≤ q ∧ q < 139) ∨ q = 140 ∨ q = 145 ∨ q = 146 ∨ (148 ≤ q ∧ q < 151) ∨ q = 152 ∨ q = 153) → m' q = m q) ∧ m' 139 1 = m 139 1 ∧
  ∀ j, (j = 4 ∨ j = 5 ∨ j = 6 ∨ j = 9 ∨ j = 10 ∨ j = 11 ∨ j = 13 ∨ j = 14 ∨ j = 16) → m' 147 j = m 147 j
theorem SQ.refl (m : jMem) : SQ m m := ⟨fun _ _ => rfl, rfl, fun _ _ => rfl⟩
theorem SQ.trans {m1 m2 m3 : jMem} (h : SQ m1 m2) (h' : SQ m2 m3) : SQ m1 m3 := ⟨fun q hq => (h'.1 q hq).trans (h.1 q hq), h'.2.1.trans h.2.1, fun j hj => (h'.2.2 j hj).trans (h.2.2 j hj)⟩
theorem SQ.out (m : jMem) (j : Nat) (x : Int) : SQ m (mset m 155 j x) := ⟨fun q hq => mset_ne (by omega), ms_o (by omega), fun j hj => ms_o (by omega)⟩
theorem SQ.m8 (m : jMem) (x : Int) : SQ m (mset m 147 8 x) := ⟨fun q hq => mset_ne (by omega), ms_o (by omega), fun j hj => ms_g (by omega)⟩
theorem SQ.m7 (m : jMem) (x : Int) : SQ m (mset m 147 7 x) := ⟨fun q hq => mset_ne (by omega), ms_o (by omega), fun j hj => ms_g (by omega)⟩
theorem SQ.be {m m' : jMem} (h : SQ m m') {b : Nat} (hb : b = 1 ∨ (19 ≤ b ∧ b ≤ 127)) : BE b b m m' := BE.of fun q a c => h.1 q (by omega)
theorem IV.sq {m m' : jMem} (h : SQ m m') (I : IV m) : IV m' := by
  obtain ⟨i1, ⟨c, nx, a1, a2, a3, a4, a5, a6⟩, ⟨t1, t2, t3⟩, ⟨s1, s2⟩, ⟨r1, r2, r3, r4, r5⟩, ⟨oc, o1, o2, o3, o4⟩, ⟨sc, c1, c2, c3, c4⟩, i8⟩ := I
  have e0 := h.1 0 (by omega)
  refine ⟨?_, ⟨c, nx, ?_, a2, ?_, ?_, a5, fun j hj => ?_⟩, ⟨?_, ?_, fun s hs => ?_⟩, ⟨?_, fun hz => ?_⟩, ⟨?_, ?_, ?_, ?_, ?_⟩, ⟨oc, o1, ?_, ?_, fun i hi => ?_⟩, ⟨sc, c1, ?_, ?_, fun i hi => ?_⟩, ?_⟩
  · rw [h.1 148 (by omega)]
    exact i1.tr (h.be (Or.inl rfl))
  · rw [h.1 17 (by omega)]; exact a1
  · rw [h.1 17 (by omega)]; exact a3
  · rw [h.2.2 5 (by omega)]; exact a4
  · rw [h.1 149 (by omega)]
    exact (a6 j hj).tr (h.be (Or.inr (by have := Nat.mod_lt (nx + 8 - j) (show 9 > 0 by omega); omega)))
  · exact t1.tr (h.be (Or.inl rfl))
  · exact t2.tr (h.be (Or.inr (by omega)))
  · exact (t3 s hs).tr (h.be (Or.inr (by omega)))
  · rw [e0, h.2.2 4 (by omega)]; exact s1
  · rw [e0] at hz
    rw [h.1 150 (by omega)]
    exact (s2 hz).tr (h.be (Or.inr (by omega)))
  · rw [e0, h.2.2 9 (by omega)]; exact r1
  · rw [e0, h.2.2 10 (by omega)]; exact r2
  · rw [e0, h.2.2 14 (by omega)]; exact r3
  · rw [e0]; exact r4
  · rw [e0, h.2.2 11 (by omega)]; exact r5
  · rw [h.1 145 (by omega)]; exact o2
  · rw [h.2.2 16 (by omega)]; exact o3
  · rw [h.1 146 (by omega), h.1 153 (by omega)]; exact o4 i hi
  · rw [h.2.1]; exact c2
  · rw [h.2.2 13 (by omega)]; exact c3
  · rw [h.1 140 (by omega), h.1 152 (by omega)]; exact c4 i hi
  · rw [h.2.2 6 (by omega)]; exact i8
/-- the row of the invariant, opened -/
theorem IV.g {m : jMem} (I : IV m) : ∃ od ps, RP 1 m (m 148) od ps ∧ RH 1 m (m 148) ∧ m 1 2 = m 148 2 ∧ GP (m 148) ∧ GH (m 148) ∧ GL (m 148) := I.1

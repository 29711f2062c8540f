/-! ===== a text of commands carried out ===== -/
section Ex
variable {m m' : jMem} {t : Nat → Int} {c e : Nat} {os : List Nat}
/-- the invariant, with the script read and one slot written over -/
theorem IV.bk (I : IV m) {nx : Nat} (h17 : m 17 1 = (nx : Int)) (b1 : BE 1 1 m m') (tn : TY (19 + 12 * nx) m')
    (far : ∀ q, (q = 17 ∨ (19 ≤ q ∧ q < 139 ∧ (q < 19 + 12 * nx ∨ 19 + 12 * nx + 12 ≤ q)) ∨ q = 140 ∨ q = 145 ∨ q = 146 ∨ q = 149 ∨ q = 150 ∨ q = 152 ∨ q = 153) → m' q = m q)
    (z5 : m' 0 5 = m 0 5) (rj : RJ m') (c1 : m' 139 1 = 0) (j4 : m' 147 4 = m 147 4) (j5 : m' 147 5 = m 147 5) (j6 : m' 147 6 = 0) (j13 : m' 147 13 = 0) (j16 : m' 147 16 = m 147 16) (row : ∀ i, i < 138 → m' 148 i = m 148 i) : IV m' := by
  obtain ⟨i1, ⟨d, nx', a1, a2, a3, a4, a5, a6⟩, ⟨t1, t2, t3⟩, ⟨s1, s2⟩, -, iO, -, -⟩ := I
  have en : nx' = nx := by omega
  subst en
  have bl : ∀ b, 19 ≤ b → b ≤ 127 → (b + 12 ≤ 19 + 12 * nx' ∨ 19 + 12 * nx' + 12 ≤ b) → BE b b m m' := fun b h1 h2 h3 => BE.of fun q h4 h5 => far q (by omega)
  refine ⟨(i1.tr b1).cg row, ⟨d, nx', ?_, a2, ?_, ?_, a5, fun j hj => ?_⟩, ⟨t1.tr b1, t2.tr (bl 127 (by omega) (by omega) (by omega)), fun s hs => ?_⟩, ⟨?_, fun hz => ?_⟩, rj, ?_, ⟨0, by omega, c1, j13, fun i hi => absurd hi (Nat.not_lt_zero i)⟩, j6⟩
  · rw [far 17 (by omega)]; exact a1
  · rw [far 17 (by omega)]; exact a3
  · rw [j5]; exact a4
  · have h9 := Nat.mod_lt (nx' + 8 - j) (show 9 > 0 by omega)
    have hne : (nx' + 8 - j) % 9 ≠ nx' := by omega
    rw [far 149 (by omega)]
    exact (a6 j hj).tr (bl _ (by omega) (by omega) (by omega))
  · by_cases h : s = nx'
    · rw [h]; exact tn
    · exact (t3 s hs).tr (bl _ (by omega) (by omega) (by omega))
  · rw [z5, j4]; exact s1
  · rw [z5] at hz
    rw [far 150 (by omega)]
    exact (s2 hz).tr (bl 127 (by omega) (by omega) (by omega))
  · unfold OU
    rw [far 145 (by omega), far 146 (by omega), far 153 (by omega), j16]
    exact iO
theorem Pst.tr {go g' : Nat → Int} (P : Pst m go g') (h : ∀ q, (q < 139 ∨ q = 140 ∨ q = 145 ∨ q = 146 ∨ q = 149 ∨ q = 150 ∨ q = 152 ∨ q = 153) → m' q = m q) (h1 : m' 139 1 = m 139 1)
    (h7 : ∀ j, (j = 4 ∨ j = 5 ∨ j = 6 ∨ j = 9 ∨ j = 10 ∨ j = 11 ∨ j = 13 ∨ j = 14 ∨ j = 16) → m' 147 j = m 147 j) : Pst m' go g' := by
  obtain ⟨p1, p2, ⟨s1, s2⟩, p4, p5, p6, p7, d, nx, q1, q2, q3, q4, q5, q6, q7⟩ := P
  have be : ∀ b, b ≤ 127 → BE b b m m' := fun b hb => BE.of fun q h2 h3 => h q (by omega)
  refine ⟨p1.tr (be 1 (by omega)), ⟨p2.1.tr (be 1 (by omega)), p2.2.1.tr (be 127 (by omega)), fun s hs => (p2.2.2 s hs).tr (be _ (by omega))⟩, ⟨?_, fun hz => ?_⟩, ?_, ?_, ?_, ?_, d, nx, q1, q2, ?_, ?_, ?_, q6.tr (be _ (by omega)), fun j hj => ?_⟩
  · rw [h 0 (by omega), h7 4 (by omega)]; exact s1
  · rw [h 0 (by omega)] at hz
    rw [h 150 (by omega)]
    exact (s2 hz).tr (be 127 (by omega))
  · unfold RJ
    rw [h 0 (by omega), h7 9 (by omega), h7 10 (by omega), h7 14 (by omega), h7 11 (by omega)]
    exact p4
  · unfold OU
    rw [h 145 (by omega), h 146 (by omega), h 153 (by omega), h7 16 (by omega)]
    exact p5
  · unfold SC
    rw [h1, h 140 (by omega), h 152 (by omega), h7 13 (by omega)]
    exact p6
  · rw [h7 6 (by omega)]; exact p7
  · rw [h7 5 (by omega)]; exact q3
  · rw [h 17 (by omega)]; exact q4
  · rw [h 17 (by omega)]; exact q5
  · rw [h 149 (by omega)]
    have h9 := Nat.mod_lt (nx + 8 - j) (show 9 > 0 by omega)
    exact (q7 j hj).tr (be _ (by omega))
theorem v13 {q : Nat} (h : m' q = m q) : (mset m' 147 13 0) q = (mset m 147 13 0) q := by
  funext j
  unfold mset
  rw [h]
/-- the class's failure: the marked state is back -/
theorem cxF_e {nx : Nat} (h17 : m 17 1 = (nx : Int)) (hn : nx < 9) (T : TY (19 + 12 * nx) m) : ∃ m8, (∀ f, cxF m f = f m8) ∧ BE (19 + 12 * nx) 1 m m8 ∧ ∀ q, (q < 1 ∨ 13 ≤ q) → m8 q = m q := by
  obtain ⟨m8, e8, B8, K8⟩ := C_st (b1 := 1) (b2 := 19 + 12 * nx) (m := m) isSt_1 (isSt_slot nx hn) (by omega) T
  refine ⟨m8, fun f => ?_, B8, fun q hq => K8 q (by omega)⟩
  unfold cxF oS
  rw [H_marked h17 hn, Option.bind_some, if_pos isSt_1, e8, Option.bind_some]
/-- the model's beginning, at a right text -/
theorem exM (X : txV t c) (hQ : txQ t c 0 0 true e os) (h13 : m 147 13 = (c : Int)) (h152 : ∀ i, i < c → m 152 i = t i) : ∃ mH, f_Mod_execute m = f_Mod_executeL 99999 mH 0 0 ∧ mH 147 6 = 1 ∧ mH 147 8 = 0 ∧ mH 147 19 = ((os.length : Nat) : Int) ∧ (∀ i x, os[i]? = some x → cmM t c mH (0 + i) x) ∧ mH 147 13 = 0 ∧
    (∀ q, q ≠ 147 → q ≠ 151 → q ≠ 154 → mH q = m q) ∧ (∀ j, j ≠ 6 → j ≠ 7 → j ≠ 8 → j ≠ 13 → j ≠ 17 → j ≠ 19 → mH 147 j = m 147 j) ∧ ∀ i, i < 138 → mH 151 i = m 148 i := by
  generalize hm4 : mset (mset m 147 17 0) 147 19 0 = m4
  have w4 : txM t c 0 m4 := by
    rw [← hm4]
    refine ⟨?_, ?_, fun i hi => ?_⟩
    · rw [ms_g (by omega), ms_g (by omega)]; exact h13
    · rw [ms_g (by omega), ms_f]
      rfl
    · rw [mset_ne (by omega), mset_ne (by omega)]; exact h152 i hi
  have h19 : m4 147 19 = ((0 : Nat) : Int) := by
    rw [← hm4, ms_f]
    rfl
  obtain ⟨m5, e5, o5, f5, g5⟩ := hQ.2 99998 m4 (by omega) w4 h19
  rw [bif_t] at e5
  obtain ⟨k5, c5⟩ := g5 rfl
  have e5' : f_Mod_isText m = some (1, m5) := by
    unfold f_Mod_isText
    rw [hm4]
    exact e5
  obtain ⟨m7, e7, q7, r7⟩ := K148_151 0 0 (by omega) (by omega) (Fm (mset m5 147 13 0) 0)
  have e7' : f_Mod_copies_148_151 (Fm (mset m5 147 13 0) 0) 0 0 = some m7 := e7
  have k4 : ∀ q, q ≠ 147 → m4 q = m q := fun q hq => by rw [← hm4, mset_ne hq, mset_ne hq]
  have j4 : ∀ j, j ≠ 17 → j ≠ 19 → m4 147 j = m 147 j := fun j h1 h2 => by rw [← hm4, ms_g h2, ms_g h1]
  have k7 : ∀ q, q ≠ 147 → q ≠ 151 → m7 q = m5 q := fun q h1 h2 => by rw [q7 q h2, Fm_row h1, mset_ne h1]
  have j7 : ∀ j, j ≠ 7 → j ≠ 8 → j ≠ 13 → m7 147 j = m5 147 j := fun j h1 h2 h3 => by rw [q7 147 (by omega), Fm_j h1 h2, ms_g h3]
  refine ⟨mset m7 147 6 1, ?_, ms_f, ?_, ?_, fun i x hi => ?_, ?_, fun q h1 h2 h3 => ?_, fun j h1 h2 h3 h4 h5 h6 => ?_, fun i hi => ?_⟩
  · unfold f_Mod_execute
    rw [e5', Option.bind_some]
    dsimp only
    rw [if_neg (by omega), if_neg (by omega), M_fails0, Option.bind_some]
    dsimp only
    rw [if_pos rfl, e7', Option.bind_some]
  · rw [ms_g (by omega), q7 147 (by omega), Fm_8]
  · rw [ms_g (by omega), j7 19 (by omega) (by omega) (by omega), k5, Nat.zero_add]
  · exact (c5 i x hi).mv fun j _ _ => by rw [ms_o (by omega), k7 154 (by omega) (by omega)]
  · rw [ms_g (by omega), q7 147 (by omega), Fm_j (by omega) (by omega), ms_f]
  · rw [mset_ne h1, k7 q h1 h2, f5.1 q h1 h3, k4 q h1]
  · rw [ms_g h1, j7 j h2 h3 h4, f5.2.1 j h5 h6, j4 j h5 h6]
  · rw [ms_o (by omega), r7, if_pos (by omega), Fm_row (by omega), mset_ne (by omega), f5.1 148 (by omega) (by omega), k4 148 (by omega), show 0 + (i - 0) = i by omega]
/-- the model's failures -/
theorem mxF0 {a2 a4 : Int} (h7 : m 147 7 = 0) : ∃ v mf, mxF m a2 a4 = some (v, mf) ∧ mf 147 8 = 2 ∧ (∀ q, q ≠ 147 → q ≠ 148 → mf q = m q) ∧ (∀ j, j ≠ 6 → j ≠ 8 → mf 147 j = m 147 j) ∧ mf 147 6 = 0 ∧ ∀ i, i < 138 → mf 148 i = m 151 i := by
  obtain ⟨m1, e1, q1, r1⟩ := K151_148 0 0 (by omega) (by omega) (mset m 147 6 0)
  have e1' : f_Mod_copies_151_148 (mset m 147 6 0) 0 0 = some m1 := e1
  have h71 : m1 147 7 = 0 := by
    rw [q1 147 (by omega), ms_g (by omega)]
    exact h7
  have hv : ∃ v, mxF m a2 a4 = some (v, mset m1 147 8 2) := by
    unfold mxF
    rw [e1', Option.bind_some, if_pos h71]
    by_cases h0 : 0 < a4
    · rw [if_pos h0]
      exact ⟨_, rfl⟩
    · rw [if_neg h0]
      exact ⟨_, rfl⟩
  obtain ⟨v, hv⟩ := hv
  refine ⟨v, _, hv, ms_f, fun q h1 h2 => ?_, fun j h1 h2 => ?_, ?_, fun i hi => ?_⟩
  · rw [mset_ne h1, q1 q h2, mset_ne h1]
  · rw [ms_g h2, q1 147 (by omega), ms_g h1]
  · rw [ms_g (by omega), q1 147 (by omega), ms_f]
  · rw [ms_o (by omega), r1, if_pos (by omega), ms_o (by omega), show 0 + (i - 0) = i by omega]
theorem mxF1 {a2 a4 : Int} (h7 : m 147 7 = 1) : ∃ mf, mxF m a2 a4 = some (0, mf) ∧ mf 147 8 = 3 ∧ (∀ q, q ≠ 147 → q ≠ 148 → mf q = m q) ∧ (∀ j, j ≠ 6 → j ≠ 7 → j ≠ 8 → j ≠ 9 → j ≠ 10 → j ≠ 11 → mf 147 j = m 147 j) ∧ mf 147 6 = 0 ∧ mf 147 9 = 12 ∧ mf 147 10 = a2 ∧ mf 147 11 = m 147 9 ∧ ∀ i, i < 138 → mf 148 i = m 151 i := by
  obtain ⟨m1, e1, q1, r1⟩ := K151_148 0 0 (by omega) (by omega) (mset m 147 6 0)
  have e1' : f_Mod_copies_151_148 (mset m 147 6 0) 0 0 = some m1 := e1
  have h71 : m1 147 7 = 1 := by
    rw [q1 147 (by omega), ms_g (by omega)]
    exact h7
  have h91 : m1 147 9 = m 147 9 := by
    rw [q1 147 (by omega), ms_g (by omega)]
  refine ⟨mset (mset (mset (mset (mset (mset m1 147 8 3) 147 7 1) 147 9 12) 147 10 a2) 147 11 0) 147 11 (m1 147 9), ?_, ?_, fun q h1 h2 => ?_, fun j h1 h2 h3 h4 h5 h6 => ?_, ?_, ?_, ?_, ?_, fun i hi => ?_⟩
  · unfold mxF f_Mod_rejectsInput f_Mod_rejects
    rw [e1', Option.bind_some, if_neg (by omega)]
    rfl
  · rw [ms_g (by omega), ms_g (by omega), ms_g (by omega), ms_g (by omega), ms_g (by omega), ms_f]
  · rw [mset_ne h1, mset_ne h1, mset_ne h1, mset_ne h1, mset_ne h1, mset_ne h1, q1 q h2, mset_ne h1]
  · rw [ms_g h6, ms_g h6, ms_g h5, ms_g h4, ms_g h2, ms_g h3, q1 147 (by omega), ms_g h1]
  · rw [ms_g (by omega), ms_g (by omega), ms_g (by omega), ms_g (by omega), ms_g (by omega), ms_g (by omega), q1 147 (by omega), ms_f]
  · rw [ms_g (by omega), ms_g (by omega), ms_g (by omega), ms_f]
  · rw [ms_g (by omega), ms_g (by omega), ms_f]
  · rw [ms_f, h91]
  · rw [ms_o (by omega), ms_o (by omega), ms_o (by omega), ms_o (by omega), ms_o (by omega), ms_o (by omega), r1, if_pos (by omega), ms_o (by omega), show 0 + (i - 0) = i by omega]
end Ex

/-! ===== undo, snapshot ===== -/
/-- the parts of the invariant that no state lies in -/
def rest (m : jMem) : Prop := RJ m ∧ OU m ∧ SC m ∧ m 147 6 = 0
theorem rest.mv {m m' : jMem} (r : rest m) (h0 : ∀ j, j ≠ 5 → m' 0 j = m 0 j) (h : ∀ q, (127 < q ∧ q ≠ 147 ∧ q ≠ 148 ∧ q ≠ 150 ∧ q ≠ 155 ∧ (q < 127 ∨ 138 < q)) → m' q = m q) (h7 : ∀ j, j ≠ 4 → j ≠ 5 → j ≠ 7 → j ≠ 8 → m' 147 j = m 147 j) : rest m' := by
  obtain ⟨r1, r2, r3, r4⟩ := r
  refine ⟨?_, ?_, ?_, ?_⟩
  · unfold RJ
    rw [h0 9 (by omega), h0 10 (by omega), h0 8 (by omega), h0 11 (by omega), h7 9 (by omega) (by omega) (by omega) (by omega), h7 10 (by omega) (by omega) (by omega) (by omega), h7 14 (by omega) (by omega) (by omega) (by omega), h7 11 (by omega) (by omega) (by omega) (by omega)]
    exact r1
  · unfold OU
    rw [h 145 (by omega), h 146 (by omega), h 153 (by omega), h7 16 (by omega) (by omega) (by omega) (by omega)]
    exact r2
  · unfold SC
    rw [h 139 (by omega), h 140 (by omega), h 152 (by omega), h7 13 (by omega) (by omega) (by omega) (by omega)]
    exact r3
  · rw [h7 6 (by omega) (by omega) (by omega) (by omega)]
    exact r4
theorem BE.trans {a b c : Nat} {m1 m2 m3 : jMem} (h : BE a b m1 m2) (h' : BE b c m2 m3) : BE a c m1 m3 := by
  obtain ⟨x1, x2, x3, ⟨x4, x5, x6, x7⟩, x8⟩ := h
  obtain ⟨y1, y2, y3, ⟨y4, y5, y6, y7⟩, y8⟩ := h'
  refine ⟨y1.trans x1, y2.trans x2, fun j hj => ?_, ⟨y4.trans x4, y5.trans x5, y6.trans x6, y7.trans x7⟩, fun j hj => ?_⟩
  · obtain ⟨u1, u2, u3, u4⟩ := x3 j hj
    obtain ⟨w1, w2, w3, w4⟩ := y3 j hj
    exact ⟨w1.trans u1, w2.trans u2, w3.trans u3, w4.trans u4⟩
  · obtain ⟨u1, u2, u3, u4, u5⟩ := x8 j hj
    obtain ⟨w1, w2, w3, w4, w5⟩ := y8 j hj
    exact ⟨w1.trans u1, w2.trans u2, w3.trans u3, w4.trans u4, w5.trans u5⟩
section Snap
variable {m : jMem}
theorem q_undo (I : IV m) : Qok (f_Law_undo m) f_Mod_undo := by
  have J := I
  obtain ⟨i1, ⟨c, nx, a1, a2, a3, a4, a5, a6⟩, ⟨t1, t2, t3⟩, ⟨s1, s2⟩, iJ, iO, iC, i8⟩ := J
  by_cases h0 : c = 0
  · refine Qc (v := 0) I (show (1 : Int) ≠ 0 by omega) (Lundo_e1 (m' := m) ?_) ?_ (MQr.F _ 1)
    · unfold f_Reg_undo
      rw [if_pos (by omega)]
    · unfold f_Mod_undo
      rw [if_pos (by omega), M_fails (by omega), Option.bind_some]
      dsimp only
      rw [if_neg (by omega)]
  · obtain ⟨m1, e1, b1, b2, b3⟩ := H_back a1 a2 a3 a5 (by omega)
    have hs9 : (nx + 8) % 9 < 9 := Nat.mod_lt _ (by omega)
    have T1 : TY (19 + 12 * ((nx + 8) % 9)) m1 := (t3 _ hs9).tr (BE.of fun q _ _ => b3 q (by omega))
    obtain ⟨m3, e3, B3, K3⟩ := C_st (b1 := 1) (b2 := 19 + 12 * ((nx + 8) % 9)) (m := m1) isSt_1 (isSt_slot _ hs9) (by omega) T1
    have k3 : ∀ q, 13 ≤ q → q ≠ 17 → m3 q = m q := fun q h1 h2 => (K3 q (by omega)).trans (b3 q h2)
    have z3 : m3 0 = m 0 := (K3 0 (by omega)).trans (b3 0 (by omega))
    have v3 : m3 17 2 = ((c - 1 : Nat) : Int) := by rw [K3 17 (by omega)]; exact b2
    have w3 : m3 17 1 = (((nx + 8) % 9 : Nat) : Int) := by rw [K3 17 (by omega)]; exact b1
    have hA : f_Law_undo m = some (0, mset m3 155 0 ((c - 1 : Nat) : Int)) := by
      refine Lundo_i ?_
      unfold f_Reg_undo
      rw [if_neg (by omega), e1, Option.bind_some, H_marked b1 hs9, Option.bind_some]
      unfold oS
      rw [if_pos isSt_1, e3, Option.bind_some, v3]
    generalize hm4 : mset m3 155 0 ((c - 1 : Nat) : Int) = m4 at hA
    have k4 : ∀ q, q ≠ 155 → m4 q = m3 q := fun q hq => by rw [← hm4]; exact mset_ne hq
    have c4 : m4 147 5 = (c : Int) := by rw [k4 147 (by omega), k3 147 (by omega) (by omega)]; exact a4
    obtain ⟨m6, e6, q6, r6⟩ := K149_148 (138 * (c - 1)) 0 (by omega) (by omega) (mset (Fm m4 0) 147 5 ((c - 1 : Nat) : Int))
    have e6' : f_Mod_copies_149_148 (mset (Fm m4 0) 147 5 ((c - 1 : Nat) : Int)) ((138 * (c - 1) : Nat) : Int) 0 = some m6 := e6
    have v6 : m6 147 5 = ((c - 1 : Nat) : Int) := by rw [q6 147 (by omega), ms_f]
    have hB : f_Mod_undo m4 = some (((c - 1 : Nat) : Int), m6) := by
      unfold f_Mod_undo
      rw [if_neg (by omega), M_fails0, Option.bind_some]
      dsimp only
      rw [if_pos rfl, Fm_j (by omega) (by omega), c4, jw_e (x := (c : Int) - 1) (y := ((c - 1 : Nat) : Int)) (by omega) (by omega) (by omega), ms_f, jw_e (y := ((138 * (c - 1) : Nat) : Int)) (by omega) (by omega) (by omega), e6', Option.bind_some, v6]
    have k6 : ∀ q, q ≠ 147 → q ≠ 148 → m6 q = m4 q := fun q h1 h2 => (q6 q h2).trans ((mset_ne h1).trans (Fm_row h1))
    have j6 : ∀ j, j ≠ 5 → j ≠ 7 → j ≠ 8 → m6 147 j = m 147 j := fun j h5 h7 h8 => by
      rw [q6 147 (by omega), ms_g h5, Fm_j h7 h8, k4 147 (by omega), k3 147 (by omega) (by omega)]
    have bl : ∀ b, (b = 127 ∨ (19 ≤ b ∧ b ≤ 115)) → BE b b m m6 := fun b hb => BE.of fun q h1 h2 => (k6 q (by omega) (by omega)).trans ((k4 q (by omega)).trans (k3 q (by omega) (by omega)))
    have b16 : BE (19 + 12 * ((nx + 8) % 9)) 1 m m6 := by
      have x1 : BE 1 1 m3 m6 := BE.of fun q _ _ => (k6 q (by omega) (by omega)).trans (k4 q (by omega))
      have x2 : BE (19 + 12 * ((nx + 8) % 9)) (19 + 12 * ((nx + 8) % 9)) m m1 := BE.of fun q _ _ => b3 q (by omega)
      exact BE.trans (BE.trans x2 B3) x1
    have row0 : ∀ j, j < 138 → m6 148 j = m 149 (138 * (c - 1 - 0) + j) := fun j hj => by
      rw [r6, if_pos (by omega), ms_o (by omega), Fm_row (by omega), k4 149 (by omega), k3 149 (by omega) (by omega)]
      congr 1
    have r49 : m6 149 = m 149 := (k6 149 (by omega) (by omega)).trans ((k4 149 (by omega)).trans (k3 149 (by omega) (by omega)))
    have z6 : m6 0 = m 0 := (k6 0 (by omega) (by omega)).trans ((k4 0 (by omega)).trans z3)
    have rs := rest.mv (m := m) (m' := m6) ⟨iJ, iO, iC, i8⟩ (fun j _ => by rw [z6]) (fun q hq => (k6 q (by omega) (by omega)).trans ((k4 q (by omega)).trans (k3 q (by omega) (by omega)))) (fun j h4 h5 h7 h8 => j6 j h5 h7 h8)
    refine ⟨0, m4, _, m6, hA, hB, ?_, fun _ => ?_, ⟨?_, ⟨c - 1, (nx + 8) % 9, ?_, hs9, ?_, v6, by omega, fun j hj => ?_⟩, ⟨?_, t2.tr (bl 127 (by omega)), fun s hs => (t3 s hs).tr (bl _ (by omega))⟩, ⟨?_, fun hz => ?_⟩, rs⟩⟩
    · rw [q6 147 (by omega), ms_g (by omega), Fm_8]
    · rw [k6 155 (by omega) (by omega), ← hm4, ms_f]
    · have := a6 0 (by omega)
      rw [Nat.sub_zero] at this
      exact (this.tr b16).cg row0
    · rw [k6 17 (by omega) (by omega), k4 17 (by omega)]; exact w3
    · rw [k6 17 (by omega) (by omega), k4 17 (by omega)]; exact v3
    · have := a6 (j + 1) (by omega)
      have e9 : ((nx + 8) % 9 + 8 - j) % 9 = (nx + 8 - (j + 1)) % 9 := by omega
      have e8 : c - 1 - 1 - j = c - 1 - (j + 1) := by omega
      have h9 := Nat.mod_lt (nx + 8 - (j + 1)) (show 9 > 0 by omega)
      rw [e9, e8, r49]
      exact this.tr (bl _ (by omega))
    · exact (t3 _ hs9).tr b16
    · rw [z6, j6 4 (by omega) (by omega) (by omega)]; exact s1
    · rw [z6] at hz
      rw [show m6 150 = m 150 from (k6 150 (by omega) (by omega)).trans ((k4 150 (by omega)).trans (k3 150 (by omega) (by omega)))]
      exact (s2 hz).tr (bl 127 (by omega))
end Snap

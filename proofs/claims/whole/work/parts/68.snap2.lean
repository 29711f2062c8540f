/-! ===== the snapshot ===== -/
section Snap2
variable {m : jMem}
theorem t_saveSnapshot (I : IV m) : ∃ v m1 m2, f_Reg_saveSnapshot m = some (v, m1) ∧ f_Mod_saveSnapshot m1 = some (v, m2) ∧ IV m2 := by
  have J := I
  obtain ⟨od, ps, H, R, Y, V, W, L⟩ := I.g
  obtain ⟨i1, ⟨c, nx, a1, a2, a3, a4, a5, a6⟩, ⟨t1, t2, t3⟩, ⟨s1, s2⟩, iJ, iO, iC, i8⟩ := J
  obtain ⟨m1, e1, B1, K1⟩ := C_st (b1 := 127) (b2 := 1) (m := m) isSt_127 isSt_1 (by omega) t1
  generalize hm2 : mset m1 0 5 1 = m2
  have k2 : ∀ q, q ≠ 0 → (q < 127 ∨ 139 ≤ q) → m2 q = m q := fun q h0 hq => by rw [← hm2, mset_ne h0]; exact K1 q (by omega)
  have z2 : ∀ j, j ≠ 5 → m2 0 j = m 0 j := fun j hj => by rw [← hm2, ms_g hj, K1 0 (by omega)]
  have hA : f_Reg_saveSnapshot m = some (m 148 0, m2) := by
    have v2 : m2 2 4 = m 148 0 := by rw [k2 2 (by omega) (by omega)]; exact H.n
    unfold f_Reg_saveSnapshot oS
    rw [if_pos isSt_127, e1, Option.bind_some, hm2, v2]
  generalize hm3 : mset (mset m2 147 8 0) 147 4 1 = m3
  have k3 : ∀ q, q ≠ 147 → m3 q = m2 q := fun q hq => by rw [← hm3, mset_ne hq, mset_ne hq]
  have j3 : ∀ j, j ≠ 4 → j ≠ 8 → m3 147 j = m 147 j := fun j h4 h8 => by rw [← hm3, ms_g h4, ms_g h8, k2 147 (by omega) (by omega)]
  have j34 : m3 147 4 = 1 := by rw [← hm3, ms_f]
  obtain ⟨m6, e6, q6, r6⟩ := K148_150 0 0 (by omega) (by omega) m3
  have e6' : f_Mod_copies_148_150 m3 0 0 = some m6 := e6
  have k6 : ∀ q, q ≠ 147 → q ≠ 150 → m6 q = m2 q := fun q h1 h2 => (q6 q h2).trans (k3 q h1)
  have g6 : m6 148 = m 148 := (k6 148 (by omega) (by omega)).trans (k2 148 (by omega) (by omega))
  have hB : f_Mod_saveSnapshot m2 = some (m 148 0, m6) := by
    unfold f_Mod_saveSnapshot
    rw [hm3, e6', Option.bind_some]
    show oix (0 : Int) 138 (some (m6 148 0, m6)) = _
    rw [oix0, g6]
  have j6 : ∀ j, j ≠ 4 → j ≠ 8 → m6 147 j = m 147 j := fun j h4 h8 => by rw [q6 147 (by omega)]; exact j3 j h4 h8
  have z6 : ∀ j, j ≠ 5 → m6 0 j = m 0 j := fun j hj => by rw [k6 0 (by omega) (by omega)]; exact z2 j hj
  have far : ∀ q, q ≠ 0 → q ≠ 147 → q ≠ 150 → (q < 127 ∨ 139 ≤ q) → m6 q = m q := fun q h0 h1 h2 h3 => (k6 q h1 h2).trans (k2 q h0 h3)
  have bl : ∀ b, (b = 1 ∨ (19 ≤ b ∧ b ≤ 115)) → BE b b m m6 := fun b hb => BE.of fun q h1 h2 => far q (by omega) (by omega) (by omega) (by omega)
  have b127 : BE 1 127 m m6 := BE.trans B1 (BE.of fun q h1 h2 => (k6 q (by omega) (by omega)).trans (by rw [← hm2]; exact mset_ne (by omega)))
  have rs := rest.mv (m := m) (m' := m6) ⟨iJ, iO, iC, i8⟩ z6 (fun q hq => far q (by omega) (by omega) (by omega) (by omega)) (fun j h4 h5 h7 h8 => j6 j h4 h8)
  have z65 : m6 0 5 = 1 := by rw [k6 0 (by omega) (by omega), ← hm2, ms_f]
  refine ⟨_, m2, m6, hA, hB, ⟨?_, ⟨c, nx, ?_, a2, ?_, ?_, a5, fun j hj => ?_⟩, ⟨t1.tr (bl 1 (by omega)), t1.tr b127, fun s hs => (t3 s hs).tr (bl _ (by omega))⟩, ⟨?_, fun _ => ?_⟩, rs⟩⟩
  · rw [g6]; exact i1.tr (bl 1 (by omega))
  · rw [far 17 (by omega) (by omega) (by omega) (by omega)]; exact a1
  · rw [far 17 (by omega) (by omega) (by omega) (by omega)]; exact a3
  · rw [j6 5 (by omega) (by omega)]; exact a4
  · have h9 := Nat.mod_lt (nx + 8 - j) (show 9 > 0 by omega)
    rw [far 149 (by omega) (by omega) (by omega) (by omega)]
    exact (a6 j hj).tr (bl _ (by omega))
  · rw [z65, q6 147 (by omega), j34]
  · refine (i1.tr b127).cg fun j hj => ?_
    rw [r6, if_pos (by omega), k3 148 (by omega), k2 148 (by omega) (by omega), show 0 + (j - 0) = j by omega]
theorem q_restoreSnapshot (I : IV m) : Qok (f_Law_restoreSnapshot m) f_Mod_restoreSnapshot := by
  have J := I
  obtain ⟨i1, ⟨c, nx, a1, a2, a3, a4, a5, a6⟩, ⟨t1, t2, t3⟩, ⟨s1, s2⟩, iJ, iO, iC, i8⟩ := J
  by_cases h0 : m 0 5 = 0
  · refine Qc (v := 0) I (show (1 : Int) ≠ 0 by omega) (LrestoreSnapshot_e1 (m' := m) ?_) ?_ (MQr.F _ 1)
    · unfold f_Reg_restoreSnapshot
      rw [if_pos h0]
    · unfold f_Mod_restoreSnapshot
      rw [if_pos (by omega), M_fails (by omega), Option.bind_some]
      dsimp only
      rw [if_neg (by omega)]
  · obtain ⟨od, ps, H', -⟩ := s2 h0
    obtain ⟨m1, e1, B1, K1⟩ := C_st (b1 := 1) (b2 := 127) (m := m) isSt_1 isSt_127 (by omega) t2
    have v0 : m 128 4 = m 150 0 := H'.1
    have v1 : (mset m1 17 2 0) 2 4 = m 150 0 := by
      rw [ms_o (by omega)]
      exact (B1.2.1).trans v0
    have hA : f_Law_restoreSnapshot m = some (0, mset (mset m1 17 2 0) 155 0 (m 150 0)) := by
      refine LrestoreSnapshot_i ?_
      unfold f_Reg_restoreSnapshot oS f_History_clear
      rw [if_neg h0, if_pos isSt_1, e1, Option.bind_some, Option.bind_some, v1]
    generalize hm4 : mset (mset m1 17 2 0) 155 0 (m 150 0) = m4 at hA
    have k4 : ∀ q, (q = 0 ∨ 13 ≤ q) → q ≠ 17 → q ≠ 155 → m4 q = m q := fun q h1 h2 h3 => by
      rw [← hm4, mset_ne h3, mset_ne h2]
      exact K1 q (by omega)
    have w1 : m4 17 1 = (nx : Int) := by rw [← hm4, ms_o (by omega), ms_g (by omega), K1 17 (by omega)]; exact a1
    have w2 : m4 17 2 = 0 := by rw [← hm4, ms_o (by omega), ms_f]
    have b4 : BE 127 1 m m4 := BE.trans B1 (BE.of fun q _ _ => by rw [← hm4, mset_ne (by omega), mset_ne (by omega)])
    obtain ⟨m6, e6, q6, r6⟩ := K150_148 0 0 (by omega) (by omega) (Fm m4 0)
    have e6' : f_Mod_copies_150_148 (Fm m4 0) 0 0 = some m6 := e6
    have row : ∀ j, j < 138 → m6 148 j = m 150 j := fun j hj => by
      rw [r6, if_pos (by omega), Fm_row (by omega), k4 150 (by omega) (by omega) (by omega), show 0 + (j - 0) = j by omega]
    generalize hm7 : mset m6 147 5 0 = m7
    have k7 : ∀ q, q ≠ 147 → q ≠ 148 → m7 q = m4 q := fun q h1 h2 => by
      rw [← hm7, mset_ne h1, q6 q h2, Fm_row h1]
    have g7 : m7 148 = m6 148 := by rw [← hm7]; exact mset_ne (by omega)
    have j7 : ∀ j, j ≠ 5 → j ≠ 7 → j ≠ 8 → m7 147 j = m 147 j := fun j h5 h7 h8 => by
      rw [← hm7, ms_g h5, q6 147 (by omega), Fm_j h7 h8, k4 147 (by omega) (by omega) (by omega)]
    have hB : f_Mod_restoreSnapshot m4 = some (m 150 0, m7) := by
      unfold f_Mod_restoreSnapshot
      rw [if_neg (show ¬ m4 147 4 = 0 by rw [k4 147 (by omega) (by omega) (by omega)]; omega), M_fails0, Option.bind_some]
      dsimp only
      rw [if_pos rfl, e6', Option.bind_some, hm7]
      show oix (0 : Int) 138 (some (m7 148 0, m7)) = _
      rw [oix0, g7, row 0 (by omega)]
    have far : ∀ q, (q = 0 ∨ 13 ≤ q) → q ≠ 17 → q ≠ 147 → q ≠ 148 → q ≠ 155 → m7 q = m q := fun q h1 h2 h3 h4 h5 => (k7 q h3 h4).trans (k4 q h1 h2 h5)
    have bl : ∀ b, (b = 127 ∨ (19 ≤ b ∧ b ≤ 115)) → BE b b m m7 := fun b hb => BE.of fun q h1 h2 => far q (by omega) (by omega) (by omega) (by omega) (by omega)
    have b7 : BE 127 1 m m7 := BE.trans b4 (BE.of fun q _ _ => k7 q (by omega) (by omega))
    have z7 : m7 0 = m 0 := far 0 (by omega) (by omega) (by omega) (by omega) (by omega)
    have rs := rest.mv (m := m) (m' := m7) ⟨iJ, iO, iC, i8⟩ (fun j _ => by rw [z7]) (fun q hq => far q (by omega) (by omega) (by omega) (by omega) (by omega)) (fun j h4 h5 h7 h8 => j7 j h5 h7 h8)
    refine ⟨0, m4, _, m7, hA, hB, ?_, fun _ => ?_, ⟨?_, ⟨0, nx, ?_, a2, ?_, ?_, by omega, fun j hj => by omega⟩, ⟨t2.tr b7, t2.tr (bl 127 (by omega)), fun s hs => (t3 s hs).tr (bl _ (by omega))⟩, ⟨?_, fun hz => ?_⟩, rs⟩⟩
    · rw [← hm7, ms_g (by omega), q6 147 (by omega), Fm_8]
    · rw [k7 155 (by omega) (by omega), ← hm4, ms_f]
    · rw [g7]
      exact ((s2 h0).tr b7).cg row
    · rw [k7 17 (by omega) (by omega)]; exact w1
    · rw [k7 17 (by omega) (by omega)]; exact w2
    · rw [← hm7, ms_f]
      rfl
    · rw [z7, j7 4 (by omega) (by omega) (by omega)]; exact s1
    · rw [far 150 (by omega) (by omega) (by omega) (by omega) (by omega)]
      exact (s2 h0).tr (bl 127 (by omega))
end Snap2

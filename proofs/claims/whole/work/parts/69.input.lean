/-! ===== input ===== -/
section Input
variable {m : jMem}
theorem q_appendInput (I : IV m) (a : Int) : Qok (f_Law_appendInput m a) (fun m1 => f_Mod_appendInput m1 a) := by
  have J := I
  obtain ⟨i1, iH, ⟨t1, t2, t3⟩, ⟨s1, s2⟩, iJ, iO, ⟨c, c1, c2, c3, c4⟩, i8⟩ := J
  by_cases h : 32 ≤ a ∧ a ≤ 126
  · have e0 : ∀ m' : jMem, f_Mod_in m' a 32 126 = some 1 := fun m' => by
      unfold f_Mod_in
      rw [if_neg (by omega), if_neg (by omega)]
    by_cases h6 : c < 60
    · generalize hm1 : mset (mset m 140 c a) 139 1 ((c + 1 : Nat) : Int) = m1
      have hA : f_Law_appendInput m a = some (0, mset m1 155 0 ((c + 1 : Nat) : Int)) := by
        refine LappendInput_i ?_
        unfold f_Reg_appendInput f_Script_isFull f_Script_append
        rw [if_neg (by omega), if_neg (by omega), c2, if_pos (by omega), Option.bind_some, if_pos rfl, if_neg (by omega), if_pos (by omega), oix_n h6, och_i ⟨by omega, by omega⟩, Int.toNat_natCast, ms_o (by omega), c2, jw_s (by omega), hm1, Option.bind_some, ← hm1, ms_f]
      generalize hm2 : mset m1 155 0 ((c + 1 : Nat) : Int) = m2 at hA
      have k2 : ∀ q, q ≠ 139 → q ≠ 140 → q ≠ 155 → m2 q = m q := fun q h1 h2 h3 => by rw [← hm2, mset_ne h3, ← hm1, mset_ne h1, mset_ne h2]
      have v2 : m2 139 1 = ((c + 1 : Nat) : Int) := by rw [← hm2, ms_o (by omega), ← hm1, ms_f]
      have r2 : ∀ j, m2 140 j = if j = c then a else m 140 j := fun j => by rw [← hm2, ms_o (by omega), ← hm1, ms_o (by omega), ms_s]
      have e3 : (Fm m2 0) 147 13 = (c : Int) := by rw [Fm_j (by omega) (by omega), k2 147 (by omega) (by omega) (by omega)]; exact c3
      generalize hm3 : mset (mset (Fm m2 0) 152 c a) 147 13 ((c + 1 : Nat) : Int) = m3
      have hB : f_Mod_appendInput m2 a = some (((c + 1 : Nat) : Int), m3) := by
        unfold f_Mod_appendInput
        rw [e0, Option.bind_some, if_neg (by omega), if_neg (show ¬ m2 147 13 = 60 by rw [k2 147 (by omega) (by omega) (by omega)]; omega), M_fails0, Option.bind_some]
        dsimp only
        have e5 : (mset (Fm m2 0) 152 c a) 147 13 = (c : Int) := (ms_o (by omega)).trans e3
        rw [if_pos rfl, e3, oix_n h6, Int.toNat_natCast, ms_f, e5, jw_s (by omega), hm3]
      have k3 : ∀ q, q ≠ 139 → q ≠ 140 → q ≠ 147 → q ≠ 152 → q ≠ 155 → m3 q = m q := fun q h1 h2 h3 h4 h5 => by
        rw [← hm3, mset_ne h3, mset_ne h4, Fm_row h3]
        exact k2 q h1 h2 h5
      have j3 : ∀ j, j ≠ 7 → j ≠ 8 → j ≠ 13 → m3 147 j = m 147 j := fun j h7 h8 h13 => by
        rw [← hm3, ms_g h13, ms_o (by omega), Fm_j h7 h8, k2 147 (by omega) (by omega) (by omega)]
      have bl : ∀ b, b ≤ 127 → BE b b m m3 := fun b hb => BE.of fun q h1 h2 => by
        by_cases h9 : q < 139
        · exact k3 q (by omega) (by omega) (by omega) (by omega) (by omega)
        · omega
      refine ⟨0, m2, _, m3, hA, hB, ?_, fun _ => ?_, ⟨?_, ?_, ⟨t1.tr (bl 1 (by omega)), t2.tr (bl 127 (by omega)), fun s hs => (t3 s hs).tr (bl _ (by omega))⟩, ⟨?_, fun hz => ?_⟩, ?_, ?_, ⟨c + 1, by omega, ?_, ?_, fun j hj => ?_⟩, ?_⟩⟩
      · rw [← hm3, ms_g (by omega), ms_o (by omega), Fm_8]
      · rw [← hm3, ms_o (by omega), ms_o (by omega), Fm_row (by omega), ← hm2, ms_f]
      · rw [k3 148 (by omega) (by omega) (by omega) (by omega) (by omega)]; exact i1.tr (bl 1 (by omega))
      · obtain ⟨d, nx, a1, a2, a3, a4, a5, a6⟩ := iH
        refine ⟨d, nx, ?_, a2, ?_, ?_, a5, fun j hj => ?_⟩
        · rw [k3 17 (by omega) (by omega) (by omega) (by omega) (by omega)]; exact a1
        · rw [k3 17 (by omega) (by omega) (by omega) (by omega) (by omega)]; exact a3
        · rw [j3 5 (by omega) (by omega) (by omega)]; exact a4
        · rw [k3 149 (by omega) (by omega) (by omega) (by omega) (by omega)]
          have h9 := Nat.mod_lt (nx + 8 - j) (show 9 > 0 by omega)
          exact (a6 j hj).tr (bl _ (by omega))
      · rw [k3 0 (by omega) (by omega) (by omega) (by omega) (by omega), j3 4 (by omega) (by omega) (by omega)]; exact s1
      · rw [k3 0 (by omega) (by omega) (by omega) (by omega) (by omega)] at hz
        rw [k3 150 (by omega) (by omega) (by omega) (by omega) (by omega)]
        exact (s2 hz).tr (bl 127 (by omega))
      · unfold RJ
        rw [k3 0 (by omega) (by omega) (by omega) (by omega) (by omega), j3 9 (by omega) (by omega) (by omega), j3 10 (by omega) (by omega) (by omega), j3 14 (by omega) (by omega) (by omega), j3 11 (by omega) (by omega) (by omega)]
        exact iJ
      · unfold OU
        rw [k3 145 (by omega) (by omega) (by omega) (by omega) (by omega), k3 146 (by omega) (by omega) (by omega) (by omega) (by omega), k3 153 (by omega) (by omega) (by omega) (by omega) (by omega), j3 16 (by omega) (by omega) (by omega)]
        exact iO
      · rw [← hm3, ms_o (by omega), ms_o (by omega), Fm_row (by omega)]; exact v2
      · rw [← hm3, ms_f]
      · rw [← hm3, ms_o (by omega), ms_o (by omega), Fm_row (by omega), ms_o (by omega), ms_s, r2, Fm_row (by omega), k2 152 (by omega) (by omega) (by omega)]
        by_cases e : j = c
        · rw [if_pos e, if_pos e]
          exact ⟨rfl, h.1, h.2⟩
        · rw [if_neg e, if_neg e]
          exact c4 j (by omega)
      · rw [j3 6 (by omega) (by omega) (by omega)]; exact i8
    · refine Qc (v := 0) I (show (2 : Int) ≠ 0 by omega) (LappendInput_e2 (m' := m) ?_) ?_ (MQr.F _ 2)
      · unfold f_Reg_appendInput f_Script_isFull
        rw [if_neg (by omega), if_neg (by omega), c2, if_neg (by omega), Option.bind_some, if_neg (by omega)]
      · show f_Mod_appendInput _ _ = _
        unfold f_Mod_appendInput
        rw [e0, Option.bind_some, if_neg (by omega), if_pos (by omega), M_fails (by omega), Option.bind_some]
        dsimp only
        rw [if_neg (by omega)]
  · refine Qc (v := 0) I (show (1 : Int) ≠ 0 by omega) (LappendInput_e1 (m' := m) ?_) ?_ (MQr.F _ 1)
    · unfold f_Reg_appendInput
      by_cases h1 : a < 32
      · rw [if_pos h1]
      · rw [if_neg h1, if_pos (by omega)]
    · show f_Mod_appendInput _ _ = _
      have e : f_Mod_in m a 32 126 = some 0 := by
        unfold f_Mod_in
        by_cases h1 : a < 32
        · rw [if_pos h1]
        · rw [if_neg h1, if_pos (by omega)]
      unfold f_Mod_appendInput
      rw [e, Option.bind_some, if_pos rfl, M_fails (by omega), Option.bind_some]
      dsimp only
      rw [if_neg (by omega)]
end Input

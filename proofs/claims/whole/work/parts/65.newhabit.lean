/-! ===== a new habit ===== -/
def hadd (g : Nat → Int) (x t s : Int) : Nat → Int := fun i =>
  if i = 38 + 5 * hN g then x else if i = 39 + 5 * hN g then t else if i = 40 + 5 * hN g then s else if i = 41 + 5 * hN g then 0 else if i = 42 + 5 * hN g then 0 else if i = 1 then (hN g : Int) + 1 else g i
section Hadd
variable {g : Nat → Int} {x t s : Int}
theorem hd_o {i : Nat} (h1 : i ≠ 1) (h : i < 38 + 5 * hN g ∨ 42 + 5 * hN g < i) : hadd g x t s i = g i := by
  unfold hadd
  rw [if_neg (by omega), if_neg (by omega), if_neg (by omega), if_neg (by omega), if_neg (by omega), if_neg h1]
theorem hd_1 : hadd g x t s 1 = (hN g : Int) + 1 := by
  unfold hadd
  rw [if_neg (by omega), if_neg (by omega), if_neg (by omega), if_neg (by omega), if_neg (by omega), if_pos rfl]
theorem hd_hN : hN (hadd g x t s) = hN g + 1 := by
  show (hadd g x t s 1).toNat = _
  rw [hd_1]
  omega
theorem hd_hh (l : Nat) : hh (hadd g x t s) l = if l = hN g then x else hh g l := by
  unfold hh hadd
  by_cases h : l = hN g
  · rw [if_pos (by omega), if_pos h]
  · rw [if_neg (by omega), if_neg (by omega), if_neg (by omega), if_neg (by omega), if_neg (by omega), if_neg (by omega), if_neg h]
theorem hd_hk (l : Nat) : hk (hadd g x t s) l = if l = hN g then t else hk g l := by
  unfold hk hadd
  by_cases h : l = hN g
  · rw [if_neg (by omega), if_pos (by omega), if_pos h]
  · rw [if_neg (by omega), if_neg (by omega), if_neg (by omega), if_neg (by omega), if_neg (by omega), if_neg (by omega), if_neg h]
theorem hd_hs (l : Nat) : hs (hadd g x t s) l = if l = hN g then s else hs g l := by
  unfold hs hadd
  by_cases h : l = hN g
  · rw [if_neg (by omega), if_neg (by omega), if_pos (by omega), if_pos h]
  · rw [if_neg (by omega), if_neg (by omega), if_neg (by omega), if_neg (by omega), if_neg (by omega), if_neg (by omega), if_neg h]
theorem hd_he (l : Nat) : he (hadd g x t s) l = if l = hN g then 0 else he g l := by
  unfold he hadd
  by_cases h : l = hN g
  · rw [if_neg (by omega), if_neg (by omega), if_neg (by omega), if_pos (by omega), if_pos h]
  · rw [if_neg (by omega), if_neg (by omega), if_neg (by omega), if_neg (by omega), if_neg (by omega), if_neg (by omega), if_neg h]
theorem hd_hp (l : Nat) : hpr (hadd g x t s) l = if l = hN g then 0 else hpr g l := by
  unfold hpr hadd
  by_cases h : l = hN g
  · rw [if_neg (by omega), if_neg (by omega), if_neg (by omega), if_neg (by omega), if_pos (by omega), if_pos h]
  · rw [if_neg (by omega), if_neg (by omega), if_neg (by omega), if_neg (by omega), if_neg (by omega), if_neg (by omega), if_neg h]
theorem hd_gn : gn (hadd g x t s) = gn g := by
  unfold gn
  rw [hd_o (by omega) (by omega)]
theorem hd_gal : gal (hadd g x t s) = gal g := gal_cg (ga_cg fun j h1 h2 => hd_o (by omega) (by omega))
end Hadd
section NewHabit
variable {m : jMem} {g : Nat → Int} {od ps : Nat → Nat}
theorem A_newh (P : R0 m g od ps) (hn : hN g < 20) {i : Nat} (hi : i < gn g) {t s : Int} (ht : t = 0 ∨ t = 1 ∨ t = 2) (hs3 : 1 ≤ s ∧ s ≤ 9) (hf3 : hf g (i : Int) t = -1) : ∃ m2, f_Habits_add m (i : Int) (ltr t) s = some ((hN g : Int), m2) ∧ Fr m m2 ∧ R0 m2 (hadd g (i : Int) t s) od ps := by
  obtain ⟨H, R, Y, V, W, T⟩ := P
  have hW := W.n
  generalize hm2 : mset (mset (mset (mset (mset (mset m 8 (hN g) (ltr t)) 9 (hN g) s) 10 (hN g) (i : Int)) 11 (hN g) 0) 12 (hN g) 0) 7 5 ((hN g + 1 : Nat) : Int) = m2
  have q0 : ∀ q, (q < 7 ∨ 12 < q) → m2 q = m q := fun q hq => by
    rw [← hm2, mset_ne (by omega), mset_ne (by omega), mset_ne (by omega), mset_ne (by omega), mset_ne (by omega), mset_ne (by omega)]
  have q7 : ∀ j, j ≠ 5 → m2 7 j = m 7 j := fun j hj => by
    rw [← hm2, ms_g hj, ms_o (by omega), ms_o (by omega), ms_o (by omega), ms_o (by omega), ms_o (by omega)]
  have q75 : m2 7 5 = ((hN g + 1 : Nat) : Int) := by rw [← hm2, ms_f]
  have q8 : ∀ l, m2 8 l = if l = hN g then ltr t else m 8 l := fun l => by
    rw [← hm2, ms_o (by omega), ms_o (by omega), ms_o (by omega), ms_o (by omega), ms_o (by omega), ms_s]
  have q9 : ∀ l, m2 9 l = if l = hN g then s else m 9 l := fun l => by
    rw [← hm2, ms_o (by omega), ms_o (by omega), ms_o (by omega), ms_o (by omega), ms_s, ms_o (by omega)]
  have q10 : ∀ l, m2 10 l = if l = hN g then (i : Int) else m 10 l := fun l => by
    rw [← hm2, ms_o (by omega), ms_o (by omega), ms_o (by omega), ms_s, ms_o (by omega), ms_o (by omega)]
  have q11 : ∀ l, m2 11 l = if l = hN g then 0 else m 11 l := fun l => by
    rw [← hm2, ms_o (by omega), ms_o (by omega), ms_s, ms_o (by omega), ms_o (by omega), ms_o (by omega)]
  have q12 : ∀ l, m2 12 l = if l = hN g then 0 else m 12 l := fun l => by
    rw [← hm2, ms_o (by omega), ms_s, ms_o (by omega), ms_o (by omega), ms_o (by omega), ms_o (by omega)]
  obtain ⟨H', V'⟩ := RP.cg V (g' := hadd g (i : Int) t s) (hd_o (by omega) (by omega)) (fun j h1 h2 => hd_o (by omega) (by omega)) (H.mv (m' := m2) fun q h1 h2 => q0 q (by omega))
  refine ⟨m2, ?_, fun q hq => q0 q (by omega), H', ⟨⟨?_, ?_, ?_, ?_⟩, fun l hl => ?_⟩, ?_, V', ⟨?_, fun l hl => ?_, fun l l2 hl hl2 => ?_, ?_⟩, ⟨fun j hj => ?_, fun j hj => ?_⟩⟩
  · unfold f_Habits_add
    rw [R.n, hW.1, if_pos (by omega)]
    simp only [oix_n hn, Int.toNat_natCast]
    rw [och_i (ltr_ch t)]
    simp (disch := omega) only [ms_o]
    rw [R.n, hW.1, jw_s (by omega), hm2]
  · rw [hd_1]
    show m2 7 5 = _
    rw [q75]
    omega
  · rw [hd_o (by omega) (by omega)]; exact (q7 6 (by omega)).trans R.1.2.1
  · rw [hd_o (by omega) (by omega)]; exact (q7 7 (by omega)).trans R.1.2.2.1
  · rw [hd_o (by omega) (by omega)]; exact (q7 8 (by omega)).trans R.1.2.2.2
  · rw [hd_hN] at hl
    show m2 8 l = _ ∧ m2 9 l = _ ∧ m2 10 l = _ ∧ m2 11 l = _ ∧ m2 12 l = _
    rw [q8, q9, q10, q11, q12, hd_hh, hd_hk, hd_hs, hd_he, hd_hp]
    by_cases e : l = hN g
    · rw [if_pos e, if_pos e, if_pos e, if_pos e, if_pos e, if_pos e, if_pos e, if_pos e, if_pos e, if_pos e]
      exact ⟨rfl, rfl, rfl, rfl, rfl⟩
    · rw [if_neg e, if_neg e, if_neg e, if_neg e, if_neg e, if_neg e, if_neg e, if_neg e, if_neg e, if_neg e]
      exact R.2 l (by omega)
  · rw [q0 1 (by omega), hd_o (by omega) (by omega)]; exact Y
  · rw [hd_1]; omega
  · rw [hd_hN] at hl
    unfold HB
    rw [hd_gn, hd_hh, hd_hk, hd_hs, hd_he, hd_hp]
    by_cases e : l = hN g
    · rw [if_pos e, if_pos e, if_pos e, if_pos e, if_pos e]
      exact ⟨Or.inr ⟨by omega, by omega, hs3.1, hs3.2, Or.inl rfl, Or.inl rfl⟩, ht⟩
    · rw [if_neg e, if_neg e, if_neg e, if_neg e, if_neg e]
      exact W.2.1 l (by omega)
  · rw [hd_hN] at hl hl2
    rw [hd_hh, hd_hh, hd_hk, hd_hk]
    have hno : ∀ y, y < hN g → hh g y = (i : Int) → hk g y ≠ t := by
      rcases hf_spec g (i : Int) t with ⟨-, h2⟩ | ⟨l2, h2, -⟩
      · exact h2
      · omega
    by_cases e : l = hN g
    · rw [if_pos e, if_pos e]
      by_cases e2 : l2 = hN g
      · intro _ _ _; omega
      · rw [if_neg e2, if_neg e2]
        intro _ h2 h3
        exact absurd h3.symm (hno l2 (by omega) h2.symm)
    · rw [if_neg e, if_neg e]
      by_cases e2 : l2 = hN g
      · rw [if_pos e2, if_pos e2]
        intro _ h2 h3
        exact absurd h3 (hno l (by omega) h2)
      · rw [if_neg e2, if_neg e2]
        exact W.2.2.1 l l2 (by omega) (by omega)
  · rw [hd_o (by omega) (by omega), hd_o (by omega) (by omega), hd_o (by omega) (by omega), hd_hN]
    have h1 := W.2.2.2
    refine ⟨h1.1, h1.2.1, h1.2.2.1, ?_⟩
    rw [h1.2.2.2, cntF_0, cntF_0]
    show _ = ((sumN _ (hN g) + (if (!hld (hadd g (i : Int) t s) (hN g)) = true then 1 else 0) : Nat) : Int)
    have h2 : hld (hadd g (i : Int) t s) (hN g) = true := by
      unfold hld
      rw [hd_hh, if_pos rfl]
      exact decide_eq_true (by omega)
    rw [h2, if_neg (by decide), Nat.add_zero]
    congr 1
    refine sumN_congr _ fun l hl => ?_
    have h3 : hld (hadd g (i : Int) t s) l = hld g l := by
      unfold hld
      rw [hd_hh, if_neg (by omega)]
    show _ = (if (!hld (hadd g (i : Int) t s) l) = true then 1 else 0)
    rw [h3]
    rfl
  · rw [q0 5 (by omega)]; exact T.1 j hj
  · obtain ⟨t1, t2, t3⟩ := T.2 j hj
    show (0 ≤ m2 8 j ∧ m2 8 j < 65536) ∧ (m2 11 j = 0 ∨ m2 11 j = 1) ∧ (m2 12 j = 0 ∨ m2 12 j = 1)
    rw [q8, q11, q12]
    by_cases e : j = hN g
    · rw [if_pos e, if_pos e, if_pos e]
      exact ⟨ltr_ch t, Or.inl rfl, Or.inl rfl⟩
    · rw [if_neg e, if_neg e, if_neg e]
      exact ⟨t1, t2, t3⟩
theorem hd_GL (V : GP g) (W : GH g) (L : GL g) {i : Nat} (hi : i < gn g) (ha : gal g i = true) (t s : Int) : GL (hadd g (i : Int) t s) := by
  intro l hl h0
  rw [hd_hN] at hl
  rw [hd_gal]
  rw [hd_hh] at h0 ⊢
  by_cases e : l = hN g
  · rw [if_pos e, Int.toNat_natCast]; exact ha
  · rw [if_neg e] at h0 ⊢
    exact L l (by omega) h0
theorem isK (m : jMem) {x : Int} (h : kof x = 0 ∨ kof x = 1 ∨ kof x = 2) : f_Reg_isKind m x = some 1 := by
  unfold f_Reg_isKind
  unfold kof at h
  by_cases h1 : x = 100
  · rw [if_pos h1]
  · by_cases h2 : x = 115
    · rw [if_neg h1, if_pos h2]
    · by_cases h3 : x = 104
      · rw [if_neg h1, if_neg h2, if_pos h3]
      · rw [if_neg h1, if_neg h2, if_neg h3] at h
        omega
theorem M_lay1 {m' : jMem} {k : Nat} (h : k < 20) (x : Int) : f_Mod_lays m' (k : Int) 1 x = some (mset m' 148 (39 + 5 * k) x) := (M_lays h 1 (by omega) x).trans (by rw [show 38 + 5 * k + 1 = 39 + 5 * k by omega])
theorem o_habit (V : GP g) (W : GH g) (L : GL g) {i : Nat} (hi : i < gn g) {b s : Int} (hb : kof b = 0 ∨ kof b = 1 ∨ kof b = 2) (hbl : b = ltr (kof b)) (hs3 : 1 ≤ s ∧ s ≤ 9) : ∃ o, AS (fun m => f_Actions_newHabit m (i : Int) b s) g od ps (some o) ∧ MS Fz (fun m => f_Mod_addHabit m (i : Int) b s) g 3 (some o) := by
  have hV := V.n
  have hW := W.n
  have cl : ∀ m, R0 m g od ps → f_Actions_newHabit m (i : Int) b s = (f_People_isLiving m (i : Int)).bind fun x4 => if x4 = 0 then (f_Actions_refuse m 3 (i : Int)).bind fun qx9 => some (qx9.1, qx9.2) else (f_Habits_find m (i : Int) b).bind fun x5 => if x5 = (-1) then if (m 7 5) < 20 then (f_Habits_add m (i : Int) b s).bind fun qx6 => some (qx6.1, qx6.2) else (f_Actions_refuse m 2 20).bind fun qx7 => some (qx7.1, qx7.2) else (f_Actions_refuse m 4 x5).bind fun qx8 => some (qx8.1, qx8.2) := fun m P => by
    unfold f_Actions_newHabit f_Reg_isStrength
    rw [P_has P.V P.H, if_pos (by omega), Option.bind_some, if_neg (by omega), isK m hb, Option.bind_some, if_neg (by omega), if_neg (by omega), if_neg (by omega), Option.bind_some, if_neg (by omega)]
  have fd : ∀ m, R0 m g od ps → f_Habits_find m (i : Int) b = some (hf g (i : Int) (kof b)) := fun m P => by
    have := H_find P.W P.R (x := (i : Int)) (by omega) hb
    rw [← hbl] at this
    exact this
  by_cases ha : gal g i = true
  · rcases hf_spec g (i : Int) (kof b) with ⟨e, -⟩ | ⟨l, e, -⟩
    · by_cases hn : hN g < 20
      · refine ⟨.inl ((hN g : Int), hadd g (i : Int) (kof b) s), fun m P => ⟨show 0 ≤ (hN g : Int) by omega, hd_GL V W L hi ha _ _, ?_⟩, fun m hg m5 e5 hg5 => ?_⟩
        · obtain ⟨m2, e2, f, Q⟩ := A_newh P hn hi hb hs3 e
          refine ⟨m2, od, ps, ?_, f, Q⟩
          show f_Actions_newHabit m (i : Int) b s = _
          rw [← hbl] at e2
          rw [cl m P, P_liv P.V P.H hi, Option.bind_some, V.al hi, if_pos ha, if_neg (by omega), fd m P, Option.bind_some, if_pos e, P.R.n, if_pos (by omega), e2]
          rfl
        · generalize hm1 : mset m5 148 1 ((hN g + 1 : Nat) : Int) = m1
          have e1 : m5 148 1 = ((hN g : Nat) : Int) := by rw [hg5]; exact hW.1
          generalize hm6 : mset (mset (mset (mset (mset (mset (mset m1 148 (38 + 5 * hN g) (-1)) 148 (40 + 5 * hN g) 0) 148 (41 + 5 * hN g) 0) 148 (42 + 5 * hN g) 0) 148 (38 + 5 * hN g) (i : Int)) 148 (39 + 5 * hN g) (kof b)) 148 (40 + 5 * hN g) s = m6
          refine ⟨m6, ?_, ?_, fun q hq => by rw [← hm6, mset_ne hq, mset_ne hq, mset_ne hq, mset_ne hq, mset_ne hq, mset_ne hq, mset_ne hq, ← hm1, mset_ne hq]⟩
          · show f_Mod_addHabit m (i : Int) b s = _
            unfold f_Mod_addHabit f_Mod_in
            rw [M_k0, Option.bind_some, M_per_in V hg hi, Option.bind_some, if_neg (by omega), if_neg (by omega), if_neg (by omega), if_neg (by omega), Option.bind_some, if_neg (by omega), M_fails0, Option.bind_some]
            dsimp only
            rw [if_pos rfl, M_liv V (Fz_g hg) hi, Option.bind_some, V.al hi, if_pos ha, if_neg (by omega), M_held W (Fz_g hg), Option.bind_some, if_pos (by omega), oix1, show (1 : Int).toNat = 1 from rfl, if_neg (show ¬ (Fm m 0) 148 1 = 20 by rw [Fz_g hg]; omega), show f_Mod_keeps_148 (Fm m 0) = some m5 from e5, Option.bind_some, oix1, oix1, oix1, e1, jw_s (by omega), hm1, M_ends (by omega), Option.bind_some, M_lay0 (by omega), Option.bind_some, M_lay1 (by omega), Option.bind_some, M_lay2 (by omega), Option.bind_some, hm6]
          · show m6 148 = hadd g (i : Int) (kof b) s
            rw [← hm6, ← hm1]
            funext j
            unfold hadd
            by_cases c1 : j = 40 + 5 * hN g
            · rw [c1, ms_f, if_neg (by omega), if_neg (by omega), if_pos rfl]
            · rw [ms_g c1]
              by_cases c2 : j = 39 + 5 * hN g
              · rw [c2, ms_f, if_neg (by omega), if_pos rfl]
              · rw [ms_g c2]
                by_cases c3 : j = 38 + 5 * hN g
                · rw [c3, ms_f, if_pos rfl]
                · rw [ms_g c3, if_neg c3, if_neg c2, if_neg c1]
                  by_cases c4 : j = 42 + 5 * hN g
                  · rw [c4, ms_f, if_neg (by omega), if_pos rfl]
                  · rw [ms_g c4]
                    by_cases c5 : j = 41 + 5 * hN g
                    · rw [c5, ms_f, if_pos rfl]
                    · rw [ms_g c5, ms_g c1, ms_g c3, if_neg c5, if_neg c4]
                      by_cases c6 : j = 1
                      · rw [c6, ms_f, if_pos rfl]
                        omega
                      · rw [ms_g c6, if_neg c6, hg5]
      · refine ⟨.inr (2, 20), fun m P => ⟨show (2 : Int) ≠ 12 ∧ (2 : Int) ≠ 0 by omega, ?_⟩, fun m hg => ?_⟩
        · show f_Actions_newHabit m (i : Int) b s = _
          rw [cl m P, P_liv P.V P.H hi, Option.bind_some, V.al hi, if_pos ha, if_neg (by omega), fd m P, Option.bind_some, if_pos e, P.R.n, if_neg (by omega)]
          rfl
        · show f_Mod_addHabit m (i : Int) b s = _
          unfold f_Mod_addHabit f_Mod_in
          rw [M_k0, Option.bind_some, M_per_in V hg hi, Option.bind_some, if_neg (by omega), if_neg (by omega), if_neg (by omega), if_neg (by omega), Option.bind_some, if_neg (by omega), M_fails0, Option.bind_some]
          dsimp only
          rw [if_pos rfl, M_liv V (Fz_g hg) hi, Option.bind_some, V.al hi, if_pos ha, if_neg (by omega), M_held W (Fz_g hg), Option.bind_some, if_pos (by omega), oix1, show (1 : Int).toNat = 1 from rfl, if_pos (show (Fm m 0) 148 1 = 20 by rw [Fz_g hg]; omega)]
          rfl
    · refine ⟨.inr (4, (l : Int)), fun m P => ⟨show (4 : Int) ≠ 12 ∧ (4 : Int) ≠ 0 by omega, ?_⟩, fun m hg => ?_⟩
      · show f_Actions_newHabit m (i : Int) b s = _
        rw [cl m P, P_liv P.V P.H hi, Option.bind_some, V.al hi, if_pos ha, if_neg (by omega), fd m P, Option.bind_some, e, if_neg (by omega)]
        rfl
      · show f_Mod_addHabit m (i : Int) b s = _
        unfold f_Mod_addHabit f_Mod_in
        rw [M_k0, Option.bind_some, M_per_in V hg hi, Option.bind_some, if_neg (by omega), if_neg (by omega), if_neg (by omega), if_neg (by omega), Option.bind_some, if_neg (by omega), M_fails0, Option.bind_some]
        dsimp only
        rw [if_pos rfl, M_liv V (Fz_g hg) hi, Option.bind_some, V.al hi, if_pos ha, if_neg (by omega), M_held W (Fz_g hg), Option.bind_some, e, if_neg (by omega), Option.bind_some]
        rfl
  · refine ⟨.inr (3, (i : Int)), fun m P => ⟨show (3 : Int) ≠ 12 ∧ (3 : Int) ≠ 0 by omega, ?_⟩, fun m hg => ?_⟩
    · show f_Actions_newHabit m (i : Int) b s = _
      rw [cl m P, P_liv P.V P.H hi, Option.bind_some, V.al hi, if_neg ha, if_pos rfl]
      rfl
    · show f_Mod_addHabit m (i : Int) b s = _
      unfold f_Mod_addHabit f_Mod_in
      rw [M_k0, Option.bind_some, M_per_in V hg hi, Option.bind_some, if_neg (by omega), if_neg (by omega), if_neg (by omega), if_neg (by omega), Option.bind_some, if_neg (by omega), M_fails0, Option.bind_some]
      dsimp only
      rw [if_pos rfl, M_liv V (Fz_g hg) hi, Option.bind_some, V.al hi, if_neg ha, if_pos rfl]
      rfl
end NewHabit

/-! ===== burial ===== -/
def gd (g : Nat → Int) (i : Nat) : Nat → Int := jup g (7 + 2 * i) 0
theorem gd_o {g : Nat → Int} {i j : Nat} (h : j ≠ 7 + 2 * i) : gd g i j = g j := if_neg h
theorem gd_gp {g : Nat → Int} {i : Nat} : gp (gd g i) = gp g := by
  funext x
  by_cases h : x < 16
  · rw [← gp_e h, ← gp_e h, gd_o (by omega)]
  · exact (if_neg h).trans (if_neg h).symm
theorem gd_ga {g : Nat → Int} {i : Nat} (hi : i < 16) (x : Nat) : ga (gd g i) x = if x = i then 0 else ga g x := by
  by_cases h : x < 16
  · rw [← ga_e h, ← ga_e h]
    by_cases e : x = i
    · rw [if_pos e, e]
      exact if_pos rfl
    · rw [if_neg e, gd_o (by omega)]
  · have e : x ≠ i := by omega
    rw [if_neg e]
    exact (if_neg h).trans (if_neg h).symm
theorem gd_gn {g : Nat → Int} {i : Nat} : gn (gd g i) = gn g := by
  unfold gn
  rw [gd_o (by omega)]
theorem gd_hN {g : Nat → Int} {i : Nat} : hN (gd g i) = hN g := by
  unfold hN
  rw [gd_o (by omega)]
/-- the habits of a row, from its other cells -/
theorem GH.cg {g g' : Nat → Int} (e0 : g' 0 = g 0) (e : ∀ j, (j = 1 ∨ j = 3 ∨ j = 4 ∨ j = 5 ∨ 38 ≤ j) → g' j = g j) (W : GH g) : GH g' := by
  have n1 : gn g' = gn g := by unfold gn; rw [e0]
  have n2 : hN g' = hN g := by unfold hN; rw [e 1 (by omega)]
  have k1 : hh g' = hh g := funext fun k => e _ (by omega)
  have k2 : hk g' = hk g := funext fun k => e _ (by omega)
  have k3 : hs g' = hs g := funext fun k => e _ (by omega)
  have k4 : he g' = he g := funext fun k => e _ (by omega)
  have k5 : hpr g' = hpr g := funext fun k => e _ (by omega)
  have k6 : hld g' = hld g := funext fun k => by unfold hld; rw [k1]
  unfold GH HB
  rw [n1, n2, k1, k2, k3, k4, k5, k6, e 1 (by omega), e 3 (by omega), e 4 (by omega), e 5 (by omega)]
  exact W
theorem RH.cg {b : Nat} {m : jMem} {g g' : Nat → Int} (e : ∀ j, (j = 1 ∨ j = 3 ∨ j = 4 ∨ j = 5 ∨ 38 ≤ j) → g' j = g j) (R : RH b m g) : RH b m g' := by
  have n2 : hN g' = hN g := by unfold hN; rw [e 1 (by omega)]
  have k1 : hh g' = hh g := funext fun k => e _ (by omega)
  have k2 : hk g' = hk g := funext fun k => e _ (by omega)
  have k3 : hs g' = hs g := funext fun k => e _ (by omega)
  have k4 : he g' = he g := funext fun k => e _ (by omega)
  have k5 : hpr g' = hpr g := funext fun k => e _ (by omega)
  unfold RH
  rw [n2, k1, k2, k3, k4, k5, e 1 (by omega), e 3 (by omega), e 4 (by omega), e 5 (by omega)]
  exact R
theorem RH.mv {b : Nat} {m m' : jMem} {g : Nat → Int} (R : RH b m g) (h : ∀ q, b + 6 ≤ q → q < b + 12 → m' q = m q) : RH b m' g := by
  unfold RH at R ⊢
  rw [h (b + 6) (by omega) (by omega), h (b + 7) (by omega) (by omega), h (b + 8) (by omega) (by omega), h (b + 9) (by omega) (by omega), h (b + 10) (by omega) (by omega), h (b + 11) (by omega) (by omega)]
  exact R
section Bury
variable {m : jMem} {g : Nat → Int} {od ps : Nat → Nat} {k i : Nat}
theorem A_die (P : R0 m g od ps) (hi : i < gn g) : f_People_die m (i : Int) = some (mset m 5 i 0) ∧ Fr m (mset m 5 i 0) ∧ R0 (mset m 5 i 0) (gd g i) od ps := by
  obtain ⟨H, R, Y, V, W, T⟩ := P
  have hn := V.n
  have hga : ∀ x, x < gn g → ga (gd g i) x = 0 ∨ ga (gd g i) x = 1 := fun x hx => by
    rw [gd_ga (by omega)]
    by_cases e : x = i
    · rw [if_pos e]; exact Or.inl rfl
    · rw [if_neg e]; exact V.2.2.2 x hx
  refine ⟨?_, fun q hq => mset_ne (by omega), ⟨?_, fun x hx => ?_, ?_⟩, ?_, ?_, ⟨?_, ?_, ?_, ?_⟩, GH.cg (gd_o (by omega)) (fun j hj => gd_o (by omega)) W, ⟨fun j hj => ?_, fun j hj => ?_⟩⟩
  · unfold f_People_die
    rw [P_has V H, if_pos (by omega), Option.bind_some, if_neg (by omega), oix_n (by omega), Int.toNat_natCast]
  · rw [ms_o (by omega), gd_o (by omega)]; exact H.1
  · rw [gd_gn] at hx
    obtain ⟨a1, a2, a3, a4⟩ := H.2.1 x hx
    rw [gd_gp, gd_ga (by omega)]
    refine ⟨(ms_o (by omega)).trans a1, (ms_o (by omega)).trans a2, ?_, (ms_o (by omega)).trans a4⟩
    show (mset m 5 i 0) 5 x = _
    rw [ms_s]
    by_cases e : x = i
    · rw [if_pos e, if_pos e]
    · rw [if_neg e, if_neg e]
      exact a3
  · rw [gd_gp, gd_gn]; exact H.2.2
  · refine RH.cg (fun j hj => gd_o (by omega)) ?_
    exact R.mv fun q h1 h2 => mset_ne (by omega)
  · rw [ms_o (by omega), gd_o (by omega)]; exact Y
  · rw [gd_o (by omega)]; exact V.1
  · rw [gd_o (by omega)]; exact V.2.1
  · rw [gd_gp, gd_gn]; exact V.2.2.1
  · rw [gd_gn]; exact hga
  · show (mset m 5 i 0) 5 j = 0 ∨ (mset m 5 i 0) 5 j = 1
    rw [ms_s]
    by_cases e : j = i
    · rw [if_pos e]; exact Or.inl rfl
    · rw [if_neg e]; exact T.1 j hj
  · rw [ms_o (by omega), ms_o (by omega), ms_o (by omega)]; exact T.2 j hj
def inhV (p : Int) : Int := if p < 0 then 0 else 1
def m9 (x : Int) : Int := if 9 < x then 9 else x
def inhR (g : Nat → Int) (k : Nat) (p : Int) : Nat → Int := if p < 0 then hput g k (-1) 0 0 0 (g 3) (g 4) (g 5 + 1) else if hf g p (hk g k) < 0 then hput g k p (hs g k) (he g k) (hpr g k) (g 3) (g 4) (g 5) else hput (hput g (hf g p (hk g k)).toNat (hh g (hf g p (hk g k)).toNat) (m9 (hs g (hf g p (hk g k)).toNat + hs g k)) (he g (hf g p (hk g k)).toNat) (hpr g (hf g p (hk g k)).toNat) (g 3) (g 4) (g 5)) k (-1) 0 0 0 (g 3) (g 4 + 1) (g 5)
theorem A_inh (P : R0 m g od ps) (hkl : k < hN g) (h0 : 0 ≤ hh g k) {p : Int} (hp3 : okx (gn g) p) (hne : p ≠ hh g k) : ∃ m2, f_Habits_passOn m (k : Int) p = some (inhV p, m2) ∧ Fr m m2 ∧ R0 m2 (inhR g k p) od ps := by
  have W := P.W
  have R := P.R
  have hW := W.n
  have B := W.hb hkl
  have hS := B.s
  have hc := W.cn1 hkl h0
  have hc0 := W.cn
  unfold f_Habits_passOn inhV inhR
  rcases hp3.cases with rfl | ⟨y, rfl, hy⟩
  · rw [if_pos rfl, if_pos (by omega), if_pos (by omega), show m 7 8 = g 5 from R.1.2.2.2, jw_id (z := g 5 + 1) ⟨by omega, by omega⟩]
    obtain ⟨m2, e, f, Q⟩ := A_endP P hkl h0 (m0 := mset m 7 8 (g 5 + 1)) (n3 := g 3) (n4 := g 4) (n5 := g 5 + 1) (Or.inl rfl) (Or.inl rfl) (Or.inr rfl) (by omega) ⟨ms_g (by omega), (ms_g (by omega)).trans R.1.2.1, (ms_g (by omega)).trans R.1.2.2.1, ms_f⟩ (fun q h1 h2 => mset_ne h1) (fun l hl => ms_o (by omega))
    exact ⟨m2, by rw [e]; rfl, f, Q⟩
  · rw [if_neg (show ¬ (y : Int) = -1 by omega), if_neg (show ¬ (y : Int) < 0 by omega), if_neg (show ¬ (y : Int) < 0 by omega), H_kind W R hkl, Option.bind_some, H_find W R (by omega) B.2, Option.bind_some]
    rcases hf_spec g (y : Int) (hk g k) with ⟨e, -⟩ | ⟨l, e, hl, hl1, hl2⟩
    · rw [e, if_pos (by omega), H_has R, if_neg (by omega), Option.bind_some, if_pos rfl]
      obtain ⟨m2, e2, f, Q⟩ := A_move P hkl h0 hy e
      exact ⟨m2, by rw [e2]; rfl, f, Q⟩
    · have hlk : l ≠ k := fun h => hne (by rw [← hl1, h])
      have Bl := W.hb hl
      have hSl := Bl.s
      rw [e, if_neg (by omega), H_in W R hl, Option.bind_some, if_neg (by omega), Int.toNat_natCast, oix_n (by omega), H_str W R hkl, Option.bind_some, oix_n (by omega), R.st hl, jw_id (z := hs g l + hs g k) ⟨by omega, by omega⟩]
      have hv : 1 ≤ m9 (hs g l + hs g k) ∧ m9 (hs g l + hs g k) ≤ 9 := by
        unfold m9
        split <;> omega
      have P1 : R0 (mset m 9 l (m9 (hs g l + hs g k))) (hput g l (hh g l) (m9 (hs g l + hs g k)) (he g l) (hpr g l) (g 3) (g 4) (g 5)) od ps := by
        refine put P hl ⟨fun q h1 h2 => mset_ne (by omega), ?_, mset_ne (by omega), fun j => ms_s, fun j => ?_, fun j => ?_, fun j => ?_⟩ ?_ ?_ ⟨hc0.1, hc0.2.1, hc0.2.2.1, ?_⟩ (fun h => h)
        · simp (disch := omega) only [ms_o]
          exact ⟨trivial, R.1.2.1, R.1.2.2.1, R.1.2.2.2⟩
        · rw [ms_o (by omega)]
          exact ifk (R.ho hl) j
        · rw [ms_o (by omega)]
          exact ifk (R.en hl) j
        · rw [ms_o (by omega)]
          exact ifk (R.pr hl) j
        · rcases Bl.1 with h3 | h3
          · omega
          · exact Or.inr ⟨h3.1, h3.2.1, hv.1, hv.2, h3.2.2.2.2.1, h3.2.2.2.2.2⟩
        · intro j hj hne2 _ h1 h2
          exact hne2 (W.2.2.1 j l hj hl (by omega) h1 h2)
        · rw [if_neg (by omega), Int.add_zero]
      have h4 : (mset m 9 l (m9 (hs g l + hs g k))) 7 7 = g 4 := (ms_o (by omega)).trans R.1.2.2.1
      show ∃ m2, ((f_Habits_end (mset (mset m 9 l (m9 (hs g l + hs g k))) 7 7 (jw ((mset m 9 l (m9 (hs g l + hs g k))) 7 7 + 1))) (k : Int)).bind fun m6 => some ((1 : Int), m6)) = some (1, m2) ∧ _
      rw [h4, jw_id (z := g 4 + 1) ⟨by omega, by omega⟩]
      obtain ⟨m2, e2, f, Q⟩ := A_endP P1 (k := k) (by rw [hp_hN]; exact hkl) (by rw [hp_hh, if_neg (fun h => hlk h.symm)]; exact h0) (m0 := mset (mset m 9 l (m9 (hs g l + hs g k))) 7 7 (g 4 + 1)) (n3 := g 3) (n4 := g 4 + 1) (n5 := g 5) (Or.inl hp_3.symm) (Or.inr (by rw [hp_4])) (Or.inl hp_5.symm) (by rw [hp_3, hp_4, hp_5]; omega) ⟨ms_g (by omega), ((ms_g (by omega)).trans (ms_o (by omega))).trans R.1.2.1, ms_f, ((ms_g (by omega)).trans (ms_o (by omega))).trans R.1.2.2.2⟩ (fun q h1 h2 => mset_ne h1) (fun j hj => ms_o (by omega))
      exact ⟨m2, by rw [e2]; rfl, Fr.trans (fun q hq => mset_ne (by omega)) f, Q⟩
/-- a right row only matters by its people's cells here -/
theorem inhR_lo (g : Nat → Int) (k : Nat) (p : Int) {j : Nat} (h : j < 3 ∨ (5 < j ∧ j < 38)) : inhR g k p j = g j := by
  unfold inhR
  split
  · exact hp_lo h
  · split
    · exact hp_lo h
    · exact (hp_lo h).trans (hp_lo h)
theorem inhR_hh (g : Nat → Int) (k : Nat) (p : Int) (l : Nat) : hh (inhR g k p) l = if l = k then (if p < 0 then -1 else if hf g p (hk g k) < 0 then p else -1) else hh g l := by
  unfold inhR
  by_cases h1 : p < 0
  · rw [if_pos h1, if_pos h1, hp_hh]
  · rw [if_neg h1, if_neg h1]
    by_cases h2 : hf g p (hk g k) < 0
    · rw [if_pos h2, if_pos h2, hp_hh]
    · rw [if_neg h2, if_neg h2, hp_hh]
      by_cases h3 : l = k
      · rw [if_pos h3, if_pos h3]
      · rw [if_neg h3, if_neg h3, hp_hh]
        by_cases h4 : l = (hf g p (hk g k)).toNat
        · rw [if_pos h4, h4]
        · rw [if_neg h4]
theorem B_end {g' : Nat → Int} {m0 : jMem} {n3 n4 n5 : Int} (e : ∀ j, 5 < j ∨ j < 3 → m0 148 j = g' j) (h3 : m0 148 3 = n3) (h4 : m0 148 4 = n4) (h5 : m0 148 5 = n5) : (mset (mset (mset (mset m0 148 (38 + 5 * k) (-1)) 148 (40 + 5 * k) 0) 148 (41 + 5 * k) 0) 148 (42 + 5 * k) 0) 148 = hput g' k (-1) 0 0 0 n3 n4 n5 := by
  refine hput_ext ?_ ?_ ?_ ?_ ?_ ?_ ?_ fun j a1 a2 a3 a4 a5 a6 a7 => ?_
  · rw [ms_g (by omega), ms_g (by omega), ms_g (by omega), ms_f]
  · rw [ms_g (by omega), ms_g (by omega), ms_f]
  · rw [ms_g (by omega), ms_f]
  · rw [ms_f]
  · rw [ms_g (by omega), ms_g (by omega), ms_g (by omega), ms_g (by omega), h3]
  · rw [ms_g (by omega), ms_g (by omega), ms_g (by omega), ms_g (by omega), h4]
  · rw [ms_g (by omega), ms_g (by omega), ms_g (by omega), ms_g (by omega), h5]
  · rw [ms_g a4, ms_g a3, ms_g a2, ms_g a1, e j (by omega)]
theorem M_inhT (W : GH g) (hg : m 148 = g) (hkl : k < hN g) (h0 : 0 ≤ hh g k) {p : Int} (hp3 : okx (gn g) p) (hne : p ≠ hh g k) : ∃ m6, (if p < 0 then oix (5 : Int) 138 (oix (5 : Int) 138 ((f_Mod_ends (mset m 148 (5 : Int).toNat (jw ((m 148 (5 : Int).toNat) + 1))) (k : Int)).bind fun m21 => some ((0 : Int), m21))) else (f_Mod_of m (k : Int) 1).bind fun x13 => (f_Mod_held m p x13).bind fun x14 => if x14 < 0 then (f_Mod_lays m (k : Int) 0 p).bind fun m20 => some (1, m20) else (f_Mod_of m x14 2).bind fun x15 => (f_Mod_of m (k : Int) 2).bind fun x16 => (f_Mod_least m 9 (jw (x15 + x16))).bind fun x17 => (f_Mod_lays m x14 2 x17).bind fun m18 => oix (4 : Int) 138 (oix (4 : Int) 138 ((f_Mod_ends (mset m18 148 (4 : Int).toNat (jw ((m18 148 (4 : Int).toNat) + 1))) (k : Int)).bind fun m19 => some (1, m19)))) = some (inhV p, m6) ∧ m6 148 = inhR g k p ∧ ∀ q, q ≠ 148 → m6 q = m q := by
  have hW := W.n
  have B := W.hb hkl
  have hS := B.s
  have hc := W.cn1 hkl h0
  have hc0 := W.cn
  unfold inhV inhR
  rcases hp3.cases with rfl | ⟨y, rfl, hy⟩
  · rw [if_pos (by omega), if_pos (by omega), if_pos (by omega)]
    show ∃ m6, ((f_Mod_ends (mset m 148 5 (jw (m 148 5 + 1))) (k : Int)).bind fun m21 => some ((0 : Int), m21)) = _ ∧ _
    rw [hg, jw_id ⟨by omega, by omega⟩, M_ends (by omega), Option.bind_some]
    refine ⟨_, rfl, B_end (g' := g) (fun j hj => ?_) ?_ ?_ ms_f, fun q hq => by rw [mset_ne hq, mset_ne hq, mset_ne hq, mset_ne hq, mset_ne hq]⟩
    · rw [ms_g (by omega), hg]
    · rw [ms_g (by omega), hg]
    · rw [ms_g (by omega), hg]
  · rw [if_neg (show ¬ (y : Int) < 0 by omega), if_neg (show ¬ (y : Int) < 0 by omega), if_neg (show ¬ (y : Int) < 0 by omega), M_hk hg (by omega), Option.bind_some, M_held W hg, Option.bind_some]
    rcases hf_spec g (y : Int) (hk g k) with ⟨e, -⟩ | ⟨l, e, hl, hl1, hl2⟩
    · rw [e, if_pos (by omega), if_pos (by omega), M_lay0 (by omega), Option.bind_some]
      exact ⟨_, rfl, B_move hg _, fun q hq => mset_ne hq⟩
    · have hlk : l ≠ k := fun h => hne (by rw [← hl1, h])
      have hSl := (W.hb hl).s
      have e9 : f_Mod_least m 9 (hs g l + hs g k) = some (m9 (hs g l + hs g k)) := by
        unfold f_Mod_least m9
        by_cases h9 : 9 < hs g l + hs g k
        · rw [if_pos h9, if_pos h9]
        · rw [if_neg h9, if_neg h9]
      rw [e, if_neg (by omega), if_neg (by omega), M_hs hg (by omega), Option.bind_some, M_hs hg (by omega), Option.bind_some, jw_id ⟨by omega, by omega⟩, e9, Option.bind_some, M_lay2 (by omega), Option.bind_some, Int.toNat_natCast]
      show ∃ m6, ((f_Mod_ends (mset (mset m 148 (40 + 5 * l) (m9 (hs g l + hs g k))) 148 4 (jw ((mset m 148 (40 + 5 * l) (m9 (hs g l + hs g k))) 148 4 + 1))) (k : Int)).bind fun m19 => some ((1 : Int), m19)) = _ ∧ _
      rw [ms_g (show 4 ≠ 40 + 5 * l by omega), hg, jw_id (z := g 4 + 1) ⟨by omega, by omega⟩, M_ends (by omega), Option.bind_some]
      have hrow : (mset m 148 (40 + 5 * l) (m9 (hs g l + hs g k))) 148 = hput g l (hh g l) (m9 (hs g l + hs g k)) (he g l) (hpr g l) (g 3) (g 4) (g 5) := by
        refine hput_ext ?_ ms_f ?_ ?_ ?_ ?_ ?_ fun i h1 h2 h3 h4 h5 h6 h7 => ?_
        · rw [ms_g (by omega), hg]; rfl
        · rw [ms_g (by omega), hg]; rfl
        · rw [ms_g (by omega), hg]; rfl
        · rw [ms_g (by omega), hg]
        · rw [ms_g (by omega), hg]
        · rw [ms_g (by omega), hg]
        · rw [ms_g h2, hg]
      refine ⟨_, rfl, B_end (fun j hj => ?_) ?_ ms_f ?_, fun q hq => by rw [mset_ne hq, mset_ne hq, mset_ne hq, mset_ne hq, mset_ne hq, mset_ne hq]⟩
      · rw [ms_g (by omega), hrow]
      · rw [ms_g (by omega), ms_g (by omega), hg]
      · rw [ms_g (by omega), ms_g (by omega), hg]
end Bury
/-! the whole burial -/
theorem fb_al {g : Nat → Int} {od ps : Nat → Nat} (V : GP g) (O : OD (gp g) (gn g) od ps) {r : Nat} (hr' : r < gn g) (e : Int) : fb (gp g) (gn g) od ps (okb g e) r = -1 ∨ ∃ y : Nat, fb (gp g) (gn g) od ps (okb g e) r = (y : Int) ∧ y < gn g ∧ gal g y = true := by
  have h1 := O.2.1 r hr'
  have h2 := en_spec V.f O hr'
  rcases sc_spec od (okb g e) (en (gp g) (gn g) od ps r) _ (ps r + 1) rfl with ⟨e1, -⟩ | ⟨q, e1, h3, h4, h5, -⟩
  · exact Or.inl e1
  · have h6 := O.1 q (by omega)
    unfold okb at h5
    rw [Bool.and_eq_true] at h5
    exact Or.inr ⟨od q, e1, h6.1, h5.1⟩
theorem hr_al {g : Nat → Int} {od ps : Nat → Nat} (V : GP g) (O : OD (gp g) (gn g) od ps) {r : Nat} (hr' : r < gn g) : hr (gp g) (gn g) od ps (gal g) r = -1 ∨ ∃ y : Nat, hr (gp g) (gn g) od ps (gal g) r = (y : Int) ∧ y < gn g ∧ gal g y = true := by
  rcases hr_spec (al := gal g) V.f O hr' with ⟨e, -⟩ | ⟨y, e, h, -⟩
  · exact Or.inl e
  · exact Or.inr ⟨y, e, h.1, h.2.2.1⟩
theorem okb_cg {g g' : Nat → Int} (e : gal g' = gal g) (x : Int) : okb g' x = okb g x := by
  funext y
  unfold okb
  rw [e]
/-- the heir that a habit goes to -/
def hto (g : Nat → Int) (od ps : Nat → Nat) (i k : Nat) : Int := if he g k = 1 then fb (gp g) (gn g) od ps (okb g (i : Int)) i else hr (gp g) (gn g) od ps (gal g) i
def burF (gs : Nat → Int) (od ps : Nat → Nat) (i : Nat) : Nat → Nat → Int → (Nat → Int) → Int × (Nat → Int)
  | 0, _, c, g => (c, g)
  | j + 1, k, c, g => if hh g k = (i : Int) then burF gs od ps i j (k + 1) (c + inhV (hto g od ps i k)) (inhR g k (hto g od ps i k)) else burF gs od ps i j (k + 1) c g
section Bury2
variable {g0 : Nat → Int} {od ps : Nat → Nat} {i : Nat}
/-- between: the people are g0's, and i, who is dead, holds no more before k -/
def BG (g0 : Nat → Int) (i k : Nat) (g : Nat → Int) : Prop := (∀ j, (j < 3 ∨ (5 < j ∧ j < 38)) → g j = g0 j) ∧ (∀ l, l < hN g0 → 0 ≤ hh g l → hh g l = (i : Int) ∨ gal g0 (hh g l).toNat = true) ∧ ∀ l, l < k → l < hN g0 → hh g l ≠ (i : Int)
theorem BG.egp {k : Nat} {g : Nat → Int} (h : BG g0 i k g) : gp g = gp g0 := gp_cg fun j a b => h.1 j (by omega)
theorem BG.egal {k : Nat} {g : Nat → Int} (h : BG g0 i k g) : gal g = gal g0 := gal_cg (ga_cg fun j a b => h.1 j (by omega))
theorem BG.egn {k : Nat} {g : Nat → Int} (h : BG g0 i k g) : gn g = gn g0 := by
  show (g 0).toNat = (g0 0).toNat
  rw [h.1 0 (by omega)]
theorem BG.ehN {k : Nat} {g : Nat → Int} (h : BG g0 i k g) : hN g = hN g0 := by
  show (g 1).toNat = (g0 1).toNat
  rw [h.1 1 (by omega)]
theorem hto_ok (V : GP g0) (O : OD (gp g0) (gn g0) od ps) (hi : i < gn g0) {k : Nat} {g : Nat → Int} (h : BG g0 i k g) (l : Nat) : hto g od ps i l = (if he g l = 1 then fb (gp g0) (gn g0) od ps (okb g0 (i : Int)) i else hr (gp g0) (gn g0) od ps (gal g0) i) ∧ (hto g od ps i l = -1 ∨ ∃ y : Nat, hto g od ps i l = (y : Int) ∧ y < gn g0 ∧ gal g0 y = true) := by
  have e : hto g od ps i l = (if he g l = 1 then fb (gp g0) (gn g0) od ps (okb g0 (i : Int)) i else hr (gp g0) (gn g0) od ps (gal g0) i) := by
    unfold hto
    rw [h.egp, h.egn, okb_cg h.egal, h.egal]
  refine ⟨e, ?_⟩
  rw [e]
  by_cases h1 : he g l = 1
  · rw [if_pos h1]
    exact fb_al V O hi _
  · rw [if_neg h1]
    exact hr_al V O hi
theorem BG.step (hd : gal g0 i = false) {k : Nat} {g : Nat → Int} (h : BG g0 i k g) {p : Int} (hp3 : p = -1 ∨ ∃ y : Nat, p = (y : Int) ∧ y < gn g0 ∧ gal g0 y = true) : BG g0 i (k + 1) (inhR g k p) := by
  refine ⟨fun j hj => (inhR_lo g k p hj).trans (h.1 j hj), fun l hl => ?_, fun l hl hl2 => ?_⟩
  · rw [inhR_hh]
    by_cases e : l = k
    · rw [if_pos e]
      by_cases h1 : p < 0
      · rw [if_pos h1]
        intro h2
        omega
      · rw [if_neg h1]
        by_cases h2 : hf g p (hk g k) < 0
        · rw [if_pos h2]
          intro _
          rcases hp3 with h3 | ⟨y, h3, -, h4⟩
          · omega
          · right
            rw [h3, Int.toNat_natCast]
            exact h4
        · rw [if_neg h2]
          intro h3
          omega
    · rw [if_neg e]
      exact h.2.1 l hl
  · rw [inhR_hh]
    by_cases e : l = k
    · rw [if_pos e]
      by_cases h1 : p < 0
      · rw [if_pos h1]
        omega
      · rw [if_neg h1]
        by_cases h2 : hf g p (hk g k) < 0
        · rw [if_pos h2]
          rcases hp3 with h3 | ⟨y, h3, -, h4⟩
          · omega
          · intro h5
            have : y = i := by omega
            rw [this, hd] at h4
            exact absurd h4 (by decide)
        · rw [if_neg h2]
          omega
    · rw [if_neg e]
      exact h.2.2 l (by omega) hl2
theorem BG.skip {k : Nat} {g : Nat → Int} (h : BG g0 i k g) (hne : hh g k ≠ (i : Int)) : BG g0 i (k + 1) g := by
  refine ⟨h.1, h.2.1, fun l hl hl2 => ?_⟩
  by_cases e : l = k
  · rw [e]; exact hne
  · exact h.2.2 l (by omega) hl2
theorem M_inh {m : jMem} {g : Nat → Int} {k : Nat} (V : GP g) (W : GH g) (hg : m 148 = g) (O : OD (gp g) (gn g) od ps) (hi : i < gn g) (hkl : k < hN g) (h0 : 0 ≤ hh g k) (hp3 : okx (gn g) (hto g od ps i k)) (hne : hto g od ps i k ≠ hh g k) : ∃ m6, f_Mod_inherits m (k : Int) (i : Int) = some (inhV (hto g od ps i k), m6) ∧ m6 148 = inhR g k (hto g od ps i k) ∧ ∀ q, q ≠ 148 → m6 q = m q := by
  have hW := W.n
  have B := W.hb hkl
  obtain ⟨m6, e, h⟩ := M_inhT W hg hkl h0 hp3 hne
  refine ⟨m6, ?_, h⟩
  rw [← e]
  unfold f_Mod_inherits hto
  rw [M_he hg (by omega), Option.bind_some]
  by_cases h1 : he g k = 1
  · rw [if_pos h1, if_pos h1, M_first V hg O hi, Option.bind_some]
  · rw [if_neg h1, if_neg h1, M_heir V hg O hi, Option.bind_some]
theorem inhV_01 (p : Int) : inhV p = 0 ∨ inhV p = 1 := by
  unfold inhV
  split <;> omega
theorem bur (V : GP g0) (O : OD (gp g0) (gn g0) od ps) (hi : i < gn g0) (hd : gal g0 i = false) : ∀ (j k N N' c : Nat) (g : Nat → Int) (m mm : jMem), k + j = hN g0 → j < N → j < N' → c + j < 1000 → R0 m g od ps → mm 148 = g → BG g0 i k g →
    ∃ v g' m2 mm2, 0 ≤ v ∧ f_Actions_burialL N m (i : Int) (fb (gp g0) (gn g0) od ps (okb g0 (i : Int)) i) (hr (gp g0) (gn g0) od ps (gal g0) i) (c : Int) (k : Int) = some (v, m2) ∧ Fr m m2 ∧ R0 m2 g' od ps ∧ BG g0 i (hN g0) g' ∧ f_Mod_buryL N' mm (i : Int) (c : Int) (k : Int) = some (v, mm2) ∧ mm2 148 = g' ∧ (∀ q, q ≠ 148 → mm2 q = mm q) ∧ burF g0 od ps i j k (c : Int) g = (v, g')
  | _, _, 0, _, _, _, _, _, _, h, _, _, _, _, _ => by omega
  | _, _, _, 0, _, _, _, _, _, _, h, _, _, _, _ => by omega
  | 0, k, N + 1, N' + 1, c, g, m, mm, hkj, _, _, hc, P, hg, b => by
    have hW := P.W.n
    have e1 := b.ehN
    refine ⟨(c : Int), g, m, mm, by omega, ?_, Fr.refl m, P, by rw [← show k = hN g0 by omega]; exact b, ?_, hg, fun _ _ => rfl, rfl⟩
    · unfold f_Actions_burialL
      rw [P.R.n, if_neg (by omega)]
    · unfold f_Mod_buryL
      rw [oix1, show (1 : Int).toNat = 1 from rfl, hg, if_neg (by omega)]
  | j + 1, k, N + 1, N' + 1, c, g, m, mm, hkj, hNN, hNN', hc, P, hg, b => by
    have hW := P.W.n
    have e1 := b.ehN
    have hkl : k < hN g := by omega
    have hV := P.V.n
    have B := P.W.hb hkl
    obtain ⟨t1, t2⟩ := hto_ok V O hi b k
    have hb0 : burF g0 od ps i (j + 1) k (c : Int) g = if hh g k = (i : Int) then burF g0 od ps i j (k + 1) ((c : Int) + inhV (hto g od ps i k)) (inhR g k (hto g od ps i k)) else burF g0 od ps i j (k + 1) (c : Int) g := rfl
    by_cases h : hh g k = (i : Int)
    · have hp3 : okx (gn g) (hto g od ps i k) := by
        rw [b.egn]
        rcases t2 with e | ⟨y, e, hy, -⟩
        · exact Or.inl e
        · exact Or.inr ⟨by omega, by omega⟩
      have hne : hto g od ps i k ≠ hh g k := by
        rw [h]
        rcases t2 with e | ⟨y, e, -, hy⟩
        · omega
        · intro h5
          have : y = i := by omega
          rw [this, hd] at hy
          exact absurd hy (by decide)
      obtain ⟨m1, a1, a2, a3⟩ := A_inh P hkl (by omega) hp3 hne
      obtain ⟨mm1, c1, c2, c3⟩ := M_inh P.V P.W hg P.H.o (by rw [b.egn]; exact hi) hkl (by omega) hp3 hne
      have hcv : ∃ c' : Nat, (c : Int) + inhV (hto g od ps i k) = (c' : Int) ∧ c' ≤ c + 1 := by
        rcases inhV_01 (hto g od ps i k) with e | e
        · exact ⟨c, by omega, by omega⟩
        · exact ⟨c + 1, by omega, by omega⟩
      obtain ⟨c', hc', hc2⟩ := hcv
      obtain ⟨v, g', m2, mm2, i0, i1, i2, i3, i4, i5, i6, i7, i8⟩ := bur V O hi hd j (k + 1) N N' c' (inhR g k (hto g od ps i k)) m1 mm1 (by omega) (by omega) (by omega) (by omega) a3 c2 (b.step hd t2)
      refine ⟨v, g', m2, mm2, i0, ?_, a2.trans i2, i3, i4, ?_, i6, fun q hq => (i7 q hq).trans (c3 q hq), ?_⟩
      · have hcls : ∀ (x : Option (Int × jMem)), x = some (inhV (hto g od ps i k), m1) → (x.bind fun qx9 => if qx9.1 = 0 then f_Actions_burialL N qx9.2 (i : Int) (fb (gp g0) (gn g0) od ps (okb g0 (i : Int)) i) (hr (gp g0) (gn g0) od ps (gal g0) i) (c : Int) (jw ((k : Int) + 1)) else f_Actions_burialL N qx9.2 (i : Int) (fb (gp g0) (gn g0) od ps (okb g0 (i : Int)) i) (hr (gp g0) (gn g0) od ps (gal g0) i) (jw ((c : Int) + 1)) (jw ((k : Int) + 1))) = some (v, m2) := fun x hx => by
          rw [hx, Option.bind_some, jw_s (by omega), jw_s (by omega), ← i1, ← hc']
          show (if inhV (hto g od ps i k) = 0 then _ else _) = _
          rcases inhV_01 (hto g od ps i k) with e | e
          · rw [e, if_pos rfl, Int.add_zero]
          · rw [e, if_neg (by omega)]
            rfl
        unfold f_Actions_burialL
        rw [P.R.n, if_pos (by omega), H_hold P.W P.R hkl, Option.bind_some, if_pos h, H_ent P.W P.R hkl, Option.bind_some, jw_s (i := k) (by omega)]
        rcases B.e with e | e
        · rw [if_pos e]
          have e2 : hto g od ps i k = hr (gp g0) (gn g0) od ps (gal g0) i := by rw [t1, if_neg (by omega)]
          have := hcls _ a1
          rw [jw_s (i := k) (by omega), e2] at this
          exact this
        · rw [if_neg (by omega)]
          have e2 : hto g od ps i k = fb (gp g0) (gn g0) od ps (okb g0 (i : Int)) i := by rw [t1, if_pos e]
          have := hcls _ a1
          rw [jw_s (i := k) (by omega), e2] at this
          exact this
      · unfold f_Mod_buryL
        rw [oix1, show (1 : Int).toNat = 1 from rfl, hg, if_pos (by omega), M_hh hg (by omega), Option.bind_some, if_pos h, c1, Option.bind_some, jw_s (by omega)]
        show f_Mod_buryL N' mm1 (i : Int) (jw ((c : Int) + inhV (hto g od ps i k))) _ = _
        rw [hc', jw_id ⟨by omega, by omega⟩]
        exact i5
      · rw [hb0, if_pos h, hc']
        exact i8
    · obtain ⟨v, g', m2, mm2, i0, i1, i2, i3, i4, i5, i6, i7, i8⟩ := bur V O hi hd j (k + 1) N N' c g m mm (by omega) (by omega) (by omega) (by omega) P hg (b.skip h)
      refine ⟨v, g', m2, mm2, i0, ?_, i2, i3, i4, ?_, i6, i7, ?_⟩
      · unfold f_Actions_burialL
        rw [P.R.n, if_pos (by omega), H_hold P.W P.R hkl, Option.bind_some, if_neg h, jw_s (by omega)]
        exact i1
      · unfold f_Mod_buryL
        rw [oix1, show (1 : Int).toNat = 1 from rfl, hg, if_pos (by omega), M_hh hg (by omega), Option.bind_some, if_neg h, jw_s (by omega), jw_e (y := (c : Int)) (by omega) (by omega) (by omega)]
        exact i5
      · rw [hb0, if_neg h]
        exact i8
end Bury2
theorem o_bury {m0 : jMem} {g : Nat → Int} {od ps : Nat → Nat} {i : Nat} (P0 : R0 m0 g od ps) (L : GL g) (hi : i < gn g) : ∃ o, AS (fun m => f_Actions_burial m (i : Int)) g od ps (some o) ∧ MS Fz (fun m => f_Mod_bury m (i : Int)) g 2 (some o) := by
  have V := P0.V
  have hn := V.n
  by_cases ha : gal g i = true
  · have hd : gal (gd g i) i = false := by
      unfold gal
      rw [gd_ga (by omega), if_pos rfl]
      rfl
    obtain ⟨-, -, D0⟩ := A_die P0 hi
    have Vd : GP (gd g i) := D0.V
    have hid : i < gn (gd g i) := by rw [gd_gn]; exact hi
    have hb : BG (gd g i) i 0 (gd g i) := by
      refine ⟨fun _ _ => rfl, fun l hl h0 => ?_, fun l hl => by omega⟩
      have e2 : hh (gd g i) l = hh g l := gd_o (by omega)
      have hl2 : l < hN g := by rw [gd_hN] at hl; exact hl
      rw [e2] at h0 ⊢
      have h1 := L l hl2 h0
      by_cases e : hh g l = (i : Int)
      · exact Or.inl e
      · right
        obtain ⟨x, ex, hx⟩ := hh_pin P0.W hl2 h0
        rw [ex, Int.toNat_natCast] at h1 ⊢
        unfold gal at h1 ⊢
        rw [gd_ga (by omega), if_neg (fun h => e (by rw [ex, h]))]
        exact h1
    have hfin : ∀ g', BG (gd g i) i (hN (gd g i)) g' → GL g' := fun g' b l hl h0 => by
      rw [b.ehN] at hl
      rw [b.egal]
      rcases b.2.1 l hl h0 with h1 | h1
      · exact absurd h1 (b.2.2 l hl hl)
      · exact h1
    have hfb := fb_own V P0.H.o hi (-1) (Or.inl rfl)
    have hnh : hN g ≤ 20 := P0.W.n.2
    refine ⟨.inl (burF (gd g i) od ps i (hN g) 0 0 (gd g i)), fun m P => ?_, fun m hg m5 e5 hg5 => ?_⟩
    · obtain ⟨d1, d2, D⟩ := A_die P hi
      obtain ⟨v, g', m2, mm2, i0, i1, i2, i3, i4, i5, i6, i7, i8⟩ := bur Vd D.H.o hid hd (hN g) 0 99999 99999 0 (gd g i) (mset m 5 i 0) (fun _ => gd g i) (by rw [gd_hN]; omega) (by omega) (by omega) (by omega) D rfl hb
      have i8' : burF (gd g i) od ps i (hN g) 0 0 (gd g i) = (v, g') := i8
      rw [i8']
      refine ⟨i0, hfin g' i4, m2, od, ps, ?_, d2.trans i2, i3⟩
      show f_Actions_burial m (i : Int) = _
      unfold f_Actions_burial
      rw [P_has P.V P.H, if_pos (by omega), Option.bind_some, if_neg (by omega), P_liv P.V P.H hi, Option.bind_some, V.al hi, if_pos ha, if_neg (by omega), d1, Option.bind_some, P_direct D.V D.H hid, Option.bind_some, P_heir D.V D.H hid, Option.bind_some, fb_own D.V D.H.o hid (-1) (Or.inl rfl)]
      exact i1
    · obtain ⟨v, g', m2, mm2, i0, i1, i2, i3, i4, i5, i6, i7, i8⟩ := bur Vd D0.H.o hid hd (hN g) 0 99999 99999 0 (gd g i) (mset m0 5 i 0) (mset m5 148 (7 + 2 * i) 0) (by rw [gd_hN]; omega) (by omega) (by omega) (by omega) D0 (by rw [mset_row, hg5]; rfl) hb
      have i8' : burF (gd g i) od ps i (hN g) 0 0 (gd g i) = (v, g') := i8
      rw [i8']
      refine ⟨mm2, ?_, i6, fun q hq => (i7 q hq).trans (mset_ne hq)⟩
      have hj : jw (jw (6 + jw (2 * (i : Int))) + 1) = ((7 + 2 * i : Nat) : Int) := (jw2 (i := i) (by omega) 1 (by omega)).trans (by omega)
      show f_Mod_bury m (i : Int) = _
      unfold f_Mod_bury
      rw [M_per_in V hg hi, Option.bind_some, if_neg (by omega), M_fails0, Option.bind_some]
      dsimp only
      rw [if_pos rfl, M_liv V (Fz_g hg) hi, Option.bind_some, V.al hi, if_pos ha, if_neg (by omega), show f_Mod_keeps_148 (Fm m 0) = some m5 from e5, Option.bind_some, hj, oix_n (by omega), Int.toNat_natCast]
      exact i5
  · refine ⟨.inr (3, (i : Int)), fun m P => ⟨show (3 : Int) ≠ 12 ∧ (3 : Int) ≠ 0 by omega, ?_⟩, fun m hg => ?_⟩
    · show f_Actions_burial m (i : Int) = _
      unfold f_Actions_burial
      rw [P_has P.V P.H, if_pos (by omega), Option.bind_some, if_neg (by omega), P_liv P.V P.H hi, Option.bind_some, V.al hi, if_neg ha, if_pos rfl]
      rfl
    · show f_Mod_bury m (i : Int) = _
      unfold f_Mod_bury
      rw [M_per_in V hg hi, Option.bind_some, if_neg (by omega), M_fails0, Option.bind_some]
      dsimp only
      rw [if_pos rfl, M_liv V (Fz_g hg) hi, Option.bind_some, V.al hi, if_neg ha, if_pos rfl]
      rfl

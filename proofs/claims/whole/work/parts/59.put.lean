/-! ===== one habit of a row is put anew ===== -/
def hput (g : Nat → Int) (k : Nat) (a c d e n3 n4 n5 : Int) : Nat → Int := fun i =>
  if i = 38 + 5 * k then a else if i = 40 + 5 * k then c else if i = 41 + 5 * k then d else if i = 42 + 5 * k then e else
  if i = 3 then n3 else if i = 4 then n4 else if i = 5 then n5 else g i
theorem hput_ext {f g : Nat → Int} {k : Nat} {a c d e n3 n4 n5 : Int} (h1 : f (38 + 5 * k) = a) (h2 : f (40 + 5 * k) = c) (h3 : f (41 + 5 * k) = d) (h4 : f (42 + 5 * k) = e) (h5 : f 3 = n3) (h6 : f 4 = n4) (h7 : f 5 = n5)
    (h : ∀ i, i ≠ 38 + 5 * k → i ≠ 40 + 5 * k → i ≠ 41 + 5 * k → i ≠ 42 + 5 * k → i ≠ 3 → i ≠ 4 → i ≠ 5 → f i = g i) : f = hput g k a c d e n3 n4 n5 := by
  funext i
  unfold hput
  by_cases e1 : i = 38 + 5 * k
  · rw [if_pos e1, e1, h1]
  · rw [if_neg e1]
    by_cases e2 : i = 40 + 5 * k
    · rw [if_pos e2, e2, h2]
    · rw [if_neg e2]
      by_cases e3 : i = 41 + 5 * k
      · rw [if_pos e3, e3, h3]
      · rw [if_neg e3]
        by_cases e4 : i = 42 + 5 * k
        · rw [if_pos e4, e4, h4]
        · rw [if_neg e4]
          by_cases e5 : i = 3
          · rw [if_pos e5, e5, h5]
          · rw [if_neg e5]
            by_cases e6 : i = 4
            · rw [if_pos e6, e6, h6]
            · rw [if_neg e6]
              by_cases e7 : i = 5
              · rw [if_pos e7, e7, h7]
              · rw [if_neg e7]
                exact h i e1 e2 e3 e4 e5 e6 e7
section Hput
variable {g : Nat → Int} {k : Nat} {a c d e n3 n4 n5 : Int}
theorem hp_lo {i : Nat} (h : i < 3 ∨ (5 < i ∧ i < 38)) : hput g k a c d e n3 n4 n5 i = g i := by
  unfold hput
  rw [if_neg (by omega), if_neg (by omega), if_neg (by omega), if_neg (by omega), if_neg (by omega), if_neg (by omega), if_neg (by omega)]
theorem hp_3 : hput g k a c d e n3 n4 n5 3 = n3 := by
  unfold hput
  rw [if_neg (by omega), if_neg (by omega), if_neg (by omega), if_neg (by omega), if_pos rfl]
theorem hp_4 : hput g k a c d e n3 n4 n5 4 = n4 := by
  unfold hput
  rw [if_neg (by omega), if_neg (by omega), if_neg (by omega), if_neg (by omega), if_neg (by omega), if_pos rfl]
theorem hp_5 : hput g k a c d e n3 n4 n5 5 = n5 := by
  unfold hput
  rw [if_neg (by omega), if_neg (by omega), if_neg (by omega), if_neg (by omega), if_neg (by omega), if_neg (by omega), if_pos rfl]
theorem hp_hh (l : Nat) : hh (hput g k a c d e n3 n4 n5) l = if l = k then a else hh g l := by
  unfold hh hput
  by_cases h : l = k
  · rw [if_pos (by omega), if_pos h]
  · rw [if_neg (by omega), if_neg (by omega), if_neg (by omega), if_neg (by omega), if_neg (by omega), if_neg (by omega), if_neg (by omega), if_neg h]
theorem hp_hk (l : Nat) : hk (hput g k a c d e n3 n4 n5) l = hk g l := by
  unfold hk hput
  rw [if_neg (by omega), if_neg (by omega), if_neg (by omega), if_neg (by omega), if_neg (by omega), if_neg (by omega), if_neg (by omega)]
theorem hp_hs (l : Nat) : hs (hput g k a c d e n3 n4 n5) l = if l = k then c else hs g l := by
  unfold hs hput
  by_cases h : l = k
  · rw [if_neg (by omega), if_pos (by omega), if_pos h]
  · rw [if_neg (by omega), if_neg (by omega), if_neg (by omega), if_neg (by omega), if_neg (by omega), if_neg (by omega), if_neg (by omega), if_neg h]
theorem hp_he (l : Nat) : he (hput g k a c d e n3 n4 n5) l = if l = k then d else he g l := by
  unfold he hput
  by_cases h : l = k
  · rw [if_neg (by omega), if_neg (by omega), if_pos (by omega), if_pos h]
  · rw [if_neg (by omega), if_neg (by omega), if_neg (by omega), if_neg (by omega), if_neg (by omega), if_neg (by omega), if_neg (by omega), if_neg h]
theorem hp_hp (l : Nat) : hpr (hput g k a c d e n3 n4 n5) l = if l = k then e else hpr g l := by
  unfold hpr hput
  by_cases h : l = k
  · rw [if_neg (by omega), if_neg (by omega), if_neg (by omega), if_pos (by omega), if_pos h]
  · rw [if_neg (by omega), if_neg (by omega), if_neg (by omega), if_neg (by omega), if_neg (by omega), if_neg (by omega), if_neg (by omega), if_neg h]
theorem hp_gn : gn (hput g k a c d e n3 n4 n5) = gn g := by
  unfold gn
  rw [hp_lo (by omega)]
theorem hp_gp : gp (hput g k a c d e n3 n4 n5) = gp g := gp_cg fun j _ _ => hp_lo (by omega)
theorem hp_ga : ga (hput g k a c d e n3 n4 n5) = ga g := ga_cg fun j _ _ => hp_lo (by omega)
theorem hp_gal : gal (hput g k a c d e n3 n4 n5) = gal g := gal_cg hp_ga
theorem hp_hN : hN (hput g k a c d e n3 n4 n5) = hN g := by
  unfold hN
  rw [hp_lo (by omega)]
end Hput
/-- the people of a row, from its first cells -/
theorem RP.cg {b : Nat} {m : jMem} {g g' : Nat → Int} {od ps : Nat → Nat} (V : GP g) (e0 : g' 0 = g 0) (e : ∀ j, 6 ≤ j → j < 38 → g' j = g j) (H : RP b m g od ps) : RP b m g' od ps ∧ GP g' := by
  have hn := V.n
  have n1 : gn g' = gn g := by unfold gn; rw [e0]
  have p1 : ∀ i, i < 16 → gp g' i = gp g i := fun i hi => congrFun (gp_cg e) i
  have p2 : ∀ i, i < 16 → ga g' i = ga g i := fun i hi => congrFun (ga_cg e) i
  have ep : ∀ i, i < gn g → gp g' i = gp g i := fun i hi => p1 i (by omega)
  refine ⟨⟨?_, fun i hi => ?_, ?_⟩, ⟨?_, ?_, ?_, fun i hi => ?_⟩⟩
  · rw [e0]; exact H.1
  · rw [n1] at hi
    rw [p1 i (by omega), p2 i (by omega), dp_congr V.f ep i hi]
    exact H.2.1 i hi
  · rw [n1]
    exact OD_congr V.f ep H.2.2
  · rw [e0]; exact V.1
  · rw [e0]; exact V.2.1
  · rw [n1]; exact fvp_congr V.f ep
  · rw [n1] at hi
    rw [p2 i (by omega)]
    exact V.2.2.2 i hi
/-- a right state but for the holders' living -/
def R0 (m : jMem) (g : Nat → Int) (od ps : Nat → Nat) : Prop := RP 1 m g od ps ∧ RH 1 m g ∧ m 1 2 = g 2 ∧ GP g ∧ GH g ∧ TY 1 m
/-- the change of the block that goes with hput -/
def PC (m m2 : jMem) (k : Nat) (a c d e n3 n4 n5 : Int) : Prop :=
  (∀ q, 1 ≤ q → q ≤ 6 → m2 q = m q) ∧ (m2 7 5 = m 7 5 ∧ m2 7 6 = n3 ∧ m2 7 7 = n4 ∧ m2 7 8 = n5) ∧ m2 8 = m 8 ∧
  (∀ l, m2 9 l = if l = k then c else m 9 l) ∧ (∀ l, m2 10 l = if l = k then a else m 10 l) ∧ (∀ l, m2 11 l = if l = k then d else m 11 l) ∧ (∀ l, m2 12 l = if l = k then e else m 12 l)
theorem put {m m2 : jMem} {g : Nat → Int} {od ps : Nat → Nat} {k : Nat} {a c d e n3 n4 n5 : Int} (P : R0 m g od ps) (hkl : k < hN g) (C : PC m m2 k a c d e n3 n4 n5)
    (hv : (a = -1 ∧ c = 0 ∧ d = 0 ∧ e = 0) ∨ (0 ≤ a ∧ a < (gn g : Int) ∧ 1 ≤ c ∧ c ≤ 9 ∧ (d = 0 ∨ d = 1) ∧ (e = 0 ∨ e = 1)))
    (hu : ∀ l, l < hN g → l ≠ k → 0 ≤ a → hh g l = a → hk g l ≠ hk g k)
    (hc : 0 ≤ n3 ∧ 0 ≤ n4 ∧ 0 ≤ n5 ∧ n3 + n4 + n5 = g 3 + g 4 + g 5 + (if 0 ≤ hh g k ∧ a < 0 then 1 else 0)) (hw : 0 ≤ a → 0 ≤ hh g k) : R0 m2 (hput g k a c d e n3 n4 n5) od ps := by
  obtain ⟨H, R, Y, V, W, T⟩ := P
  obtain ⟨f1, ⟨f5, f6, f7, f8⟩, fk, fs, fh, fe, fp⟩ := C
  have hW := W.n
  obtain ⟨RP', V'⟩ := RP.cg V (g' := hput g k a c d e n3 n4 n5) (hp_lo (by omega)) (fun j h1 h2 => hp_lo (by omega)) (H.mv (m' := m2) fun q h1 h2 => f1 q (by omega) (by omega))
  have hd : d = 0 ∨ d = 1 := by
    rcases hv with h | h
    · exact Or.inl h.2.2.1
    · exact h.2.2.2.2.1
  have he' : e = 0 ∨ e = 1 := by
    rcases hv with h | h
    · exact Or.inl h.2.2.2
    · exact h.2.2.2.2.2
  refine ⟨RP', ⟨⟨?_, ?_, ?_, ?_⟩, fun l hl => ?_⟩, ?_, V', ⟨?_, fun l hl => ?_, fun l l2 hl hl2 => ?_, ?_⟩, ⟨fun j hj => ?_, fun j hj => ?_⟩⟩
  · rw [hp_lo (by omega)]; exact f5.trans R.1.1
  · rw [hp_3]; exact f6
  · rw [hp_4]; exact f7
  · rw [hp_5]; exact f8
  · rw [hp_hN] at hl
    obtain ⟨r1, r2, r3, r4, r5⟩ := R.2 l hl
    rw [hp_hk, hp_hs, hp_hh, hp_he, hp_hp]
    show m2 8 l = _ ∧ m2 9 l = _ ∧ m2 10 l = _ ∧ m2 11 l = _ ∧ m2 12 l = _
    rw [fk, fs, fh, fe, fp, show m 8 l = _ from r1, show m 9 l = _ from r2, show m 10 l = _ from r3, show m 11 l = _ from r4, show m 12 l = _ from r5]
    exact ⟨rfl, rfl, rfl, rfl, rfl⟩
  · rw [hp_lo (by omega), f1 1 (by omega) (by omega)]; exact Y
  · rw [hp_lo (by omega)]; exact W.1
  · rw [hp_hN] at hl
    unfold HB
    rw [hp_gn, hp_hh, hp_hk, hp_hs, hp_he, hp_hp]
    by_cases h : l = k
    · rw [if_pos h, if_pos h, if_pos h, if_pos h]
      exact ⟨hv, (W.hb hl).2⟩
    · rw [if_neg h, if_neg h, if_neg h, if_neg h]
      exact W.hb hl
  · rw [hp_hN] at hl hl2
    rw [hp_hh, hp_hh, hp_hk, hp_hk]
    by_cases h : l = k
    · rw [if_pos h]
      by_cases h2 : l2 = k
      · intro _ _ _; omega
      · rw [if_neg h2]
        intro h3 h4 h5
        rw [h] at h5
        exact absurd h5.symm (hu l2 hl2 h2 h3 h4.symm)
    · rw [if_neg h]
      by_cases h2 : l2 = k
      · rw [if_pos h2]
        intro h3 h4 h5
        rw [h2] at h5
        exact absurd h5 (hu l hl h (by omega) h4)
      · rw [if_neg h2]
        exact W.2.2.1 l l2 hl hl2
  · rw [hp_3, hp_4, hp_5, hp_hN]
    refine ⟨hc.1, hc.2.1, hc.2.2.1, ?_⟩
    rw [hc.2.2.2, W.2.2.2.2.2.2]
    by_cases h : 0 ≤ hh g k ∧ a < 0
    · rw [if_pos h, cnt_add (P := fun y => !hld g y) (P' := fun y => !hld (hput g k a c d e n3 n4 n5) y) hkl (by
        show (!decide (0 ≤ hh g k)) = false
        rw [decide_eq_true h.1]
        rfl) (by
        show (!decide (0 ≤ hh (hput g k a c d e n3 n4 n5) k)) = true
        rw [hp_hh, if_pos rfl, decide_eq_false (by omega)]
        rfl) (fun y _ hy => by
        show (!decide (0 ≤ hh (hput g k a c d e n3 n4 n5) y)) = (!decide (0 ≤ hh g y))
        rw [hp_hh, if_neg hy])]
      rfl
    · rw [if_neg h, Int.add_zero, cntF_congr idn (fun y => !hld g y) (fun y => !hld (hput g k a c d e n3 n4 n5) y) (hN g) 0 (fun y _ _ => by
        show (!decide (0 ≤ hh g y)) = (!decide (0 ≤ hh (hput g k a c d e n3 n4 n5) y))
        rw [hp_hh]
        by_cases h2 : y = k
        · rw [if_pos h2, h2]
          by_cases h3 : 0 ≤ a
          · rw [decide_eq_true h3, decide_eq_true (hw h3)]
          · rw [decide_eq_false h3, decide_eq_false (fun h4 => h ⟨h4, by omega⟩)]
        · rw [if_neg h2])]
  · rw [f1 5 (by omega) (by omega)]; exact T.1 j hj
  · obtain ⟨t1, t2, t3⟩ := T.2 j hj
    show (0 ≤ m2 8 j ∧ m2 8 j < 65536) ∧ (m2 11 j = 0 ∨ m2 11 j = 1) ∧ (m2 12 j = 0 ∨ m2 12 j = 1)
    rw [fk, fe, fp]
    refine ⟨t1, ?_, ?_⟩
    · by_cases h : j = k
      · rw [if_pos h]; exact hd
      · rw [if_neg h]; exact t2
    · by_cases h : j = k
      · rw [if_pos h]; exact he'
      · rw [if_neg h]; exact t3
theorem put_GL {g : Nat → Int} {k : Nat} {a c d e n3 n4 n5 : Int} (L : GL g) (h : 0 ≤ a → gal g a.toNat = true) (ha : ∀ l, l < hN g → 0 ≤ hh g l → hh g l < 16) (ha2 : a < 16) : GL (hput g k a c d e n3 n4 n5) := by
  intro l hl h0
  have gl : ∀ x : Nat, x < 16 → gal (hput g k a c d e n3 n4 n5) x = gal g x := fun x hx => congrFun hp_gal x
  rw [hp_hN] at hl
  rw [hp_hh] at h0 ⊢
  by_cases e2 : l = k
  · rw [if_pos e2] at h0 ⊢
    rw [gl _ (by omega)]
    exact h h0
  · rw [if_neg e2] at h0 ⊢
    have := ha l hl h0
    rw [gl _ (by omega)]
    exact L l hl h0
theorem M_lays {m : jMem} {k : Nat} (h : k < 20) (j : Nat) (hj : j < 5) (x : Int) : f_Mod_lays m (k : Int) (j : Int) x = some (mset m 148 (38 + 5 * k + j) x) := by
  unfold f_Mod_lays
  rw [jw5 (by omega) j (by omega), oix_n (by omega), Int.toNat_natCast]
theorem M_ends {m : jMem} {k : Nat} (h : k < 20) : f_Mod_ends m (k : Int) = some (mset (mset (mset (mset m 148 (38 + 5 * k) (-1)) 148 (40 + 5 * k) 0) 148 (41 + 5 * k) 0) 148 (42 + 5 * k) 0) := by
  unfold f_Mod_ends
  have e0 : ∀ m' : jMem, f_Mod_lays m' (k : Int) 0 (-1) = some (mset m' 148 (38 + 5 * k) (-1)) := fun m' => M_lays h 0 (by omega) _
  have e2 : ∀ m' : jMem, f_Mod_lays m' (k : Int) 2 0 = some (mset m' 148 (40 + 5 * k) 0) := fun m' => (M_lays h 2 (by omega) _).trans (by rw [show 38 + 5 * k + 2 = 40 + 5 * k by omega])
  have e3 : ∀ m' : jMem, f_Mod_lays m' (k : Int) 3 0 = some (mset m' 148 (41 + 5 * k) 0) := fun m' => (M_lays h 3 (by omega) _).trans (by rw [show 38 + 5 * k + 3 = 41 + 5 * k by omega])
  have e4 : ∀ m' : jMem, f_Mod_lays m' (k : Int) 4 0 = some (mset m' 148 (42 + 5 * k) 0) := fun m' => (M_lays h 4 (by omega) _).trans (by rw [show 38 + 5 * k + 4 = 42 + 5 * k by omega])
  rw [e0, Option.bind_some, e2, Option.bind_some, e3, Option.bind_some, e4, Option.bind_some]

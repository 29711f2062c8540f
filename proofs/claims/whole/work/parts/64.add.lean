/-! ===== a new person, a new habit ===== -/
def gadd (g : Nat → Int) (p : Int) : Nat → Int := jup (jup (jup g 0 ((gn g : Int) + 1)) (6 + 2 * gn g) p) (7 + 2 * gn g) 1
section Gadd
variable {g : Nat → Int} {p : Int}
theorem ga_o {j : Nat} (h0 : j ≠ 0) (h1 : j ≠ 6 + 2 * gn g) (h2 : j ≠ 7 + 2 * gn g) : gadd g p j = g j := (if_neg h2).trans ((if_neg h1).trans (if_neg h0))
theorem ga_0 : gadd g p 0 = (gn g : Int) + 1 := (if_neg (by omega)).trans ((if_neg (by omega)).trans (if_pos rfl))
theorem ga_p : gadd g p (6 + 2 * gn g) = p := (if_neg (by omega)).trans (if_pos rfl)
theorem ga_l : gadd g p (7 + 2 * gn g) = 1 := if_pos rfl
theorem ga_gn : gn (gadd g p) = gn g + 1 := by
  show (gadd g p 0).toNat = gn g + 1
  rw [ga_0]
  omega
theorem ga_gp (hn : gn g < 16) (i : Nat) : gp (gadd g p) i = if i = gn g then p else gp g i := by
  by_cases h : i < 16
  · rw [← gp_e h, ← gp_e h]
    by_cases e : i = gn g
    · rw [if_pos e, e, ga_p]
    · rw [if_neg e, ga_o (by omega) (by omega) (by omega)]
  · rw [if_neg (by omega)]
    exact (if_neg h).trans (if_neg h).symm
theorem ga_ga (hn : gn g < 16) (i : Nat) : ga (gadd g p) i = if i = gn g then 1 else ga g i := by
  by_cases h : i < 16
  · rw [← ga_e h, ← ga_e h]
    by_cases e : i = gn g
    · rw [if_pos e, e, ga_l]
    · rw [if_neg e, ga_o (by omega) (by omega) (by omega)]
  · rw [if_neg (by omega)]
    exact (if_neg h).trans (if_neg h).symm
end Gadd
theorem GH.up {g g' : Nat → Int} (e0 : gn g ≤ gn g') (e : ∀ j, (j = 1 ∨ j = 3 ∨ j = 4 ∨ j = 5 ∨ 38 ≤ j) → g' j = g j) (W : GH g) : GH g' := by
  have n2 : hN g' = hN g := by unfold hN; rw [e 1 (by omega)]
  have k1 : hh g' = hh g := funext fun k => e _ (by omega)
  have k2 : hk g' = hk g := funext fun k => e _ (by omega)
  have k3 : hs g' = hs g := funext fun k => e _ (by omega)
  have k4 : he g' = he g := funext fun k => e _ (by omega)
  have k5 : hpr g' = hpr g := funext fun k => e _ (by omega)
  have k6 : hld g' = hld g := funext fun k => by unfold hld; rw [k1]
  unfold GH HB
  rw [n2, k1, k2, k3, k4, k5, k6, e 1 (by omega), e 3 (by omega), e 4 (by omega), e 5 (by omega)]
  refine ⟨W.1, fun k hkl => ?_, W.2.2⟩
  have B := W.2.1 k hkl
  refine ⟨?_, B.2⟩
  rcases B.1 with h | h
  · exact Or.inl h
  · exact Or.inr ⟨h.1, by omega, h.2.2⟩
section Add
variable {m : jMem} {g : Nat → Int} {od ps : Nat → Nat}
theorem A_shift (p x : Int) (pl : Nat) : ∀ (d a4 N : Nat) (m : jMem), a4 = pl + d → a4 < 16 → ∃ m', f_People_addL (N + d) m p x (pl : Int) (a4 : Int) = f_People_addL N m' p x (pl : Int) (pl : Int) ∧ (∀ q, q ≠ 6 → m' q = m q) ∧ ∀ q, m' 6 q = if pl < q ∧ q ≤ a4 then m 6 (q - 1) else m 6 q
  | 0, a4, N, m, h, _ => ⟨m, by rw [h]; rfl, fun _ _ => rfl, fun q => (if_neg (by omega)).symm⟩
  | d + 1, a4, N, m, h, h16 => by
    obtain ⟨m', e, f1, f2⟩ := A_shift p x pl d (a4 - 1) N (mset m 6 a4 (m 6 (a4 - 1))) (by omega) (by omega)
    refine ⟨m', ?_, fun q hq => (f1 q hq).trans (mset_ne hq), fun q => ?_⟩
    · rw [← e, show N + (d + 1) = (N + d) + 1 by omega]
      conv => lhs; unfold f_People_addL
      rw [if_pos (by omega), jw_e (x := (a4 : Int) - 1) (y := ((a4 - 1 : Nat) : Int)) (by omega) (by omega) (by omega), jw_e (x := (a4 : Int) + -1) (y := ((a4 - 1 : Nat) : Int)) (by omega) (by omega) (by omega), oix_n (by omega), oix_n (by omega), Int.toNat_natCast, Int.toNat_natCast]
    · rw [f2, ms_s, ms_s]
      by_cases c : pl < q ∧ q ≤ a4
      · rw [if_pos c]
        by_cases c2 : q = a4
        · rw [if_neg (by omega), if_pos c2, c2]
        · rw [if_pos (by omega), if_neg (by omega)]
      · rw [if_neg c, if_neg (by omega), if_neg (by omega)]
theorem A_add (P : R0 m g od ps) (hn : gn g < 16) {p : Int} (hp3 : okx (gn g) p) : ∃ m2 od' ps', f_People_add m p = some ((gn g : Int), m2) ∧ Fr m m2 ∧ R0 m2 (gadd g p) od' ps' := by
  obtain ⟨H, R, Y, V, W, T⟩ := P
  have hV := V.n
  have ho : p = -1 ∨ (0 ≤ p ∧ p < (gn g : Int)) := hp3
  generalize hpl : (if p = -1 then gn g else en (gp g) (gn g) od ps p.toNat) = pl
  have hple : pl ≤ gn g := by
    rw [← hpl]
    by_cases e : p = -1
    · rw [if_pos e]; omega
    · rw [if_neg e]
      exact (en_spec V.f H.o (by omega)).2.1
  obtain ⟨f', O'⟩ := OD_add (par' := gp (gadd g p)) V.f H.o (fun i hi => by rw [ga_gp hn, if_neg (by omega)]) (p := p) (by rw [ga_gp hn, if_pos rfl]) ho (pl := pl) hpl.symm
  have hdp : ∀ i, i < gn g → dp (gp (gadd g p)) i = dp (gp g) i := dp_congr V.f (fun i hi => by rw [ga_gp hn, if_neg (by omega)])
  have hdn : ((dp (gp (gadd g p)) (gn g) : Nat) : Int) = (muX (gp g) p : Int) := by
    rcases hp3.cases with e | ⟨i, e, hi⟩
    · rw [dp_neg (by rw [ga_gp hn, if_pos rfl]; omega), e]
      rfl
    · have h1 : gp (gadd g p) (gn g) = (i : Int) := by rw [ga_gp hn, if_pos rfl, e]
      rw [dp_pos f' (by omega) (by rw [h1]; omega), h1, Int.toNat_natCast, hdp i hi, e]
      unfold muX
      rw [if_neg (by omega), Int.toNat_natCast]
  obtain ⟨m1, e1, s1, s2⟩ := A_shift p (gn g : Int) pl (gn g - pl) (gn g) (99999 - (gn g - pl)) m (by omega) (by omega)
  generalize hm2 : mset (mset (mset (mset (mset m1 6 pl (gn g : Int)) 3 (gn g) p) 4 (gn g) (muX (gp g) p : Int)) 5 (gn g) 1) 2 4 ((gn g + 1 : Nat) : Int) = m2
  have q0 : ∀ q, q ≠ 2 → q ≠ 3 → q ≠ 4 → q ≠ 5 → q ≠ 6 → m2 q = m q := fun q a b c d e => by
    rw [← hm2, mset_ne a, mset_ne d, mset_ne c, mset_ne b, mset_ne e]
    exact s1 q e
  have q2 : m2 2 4 = ((gn g + 1 : Nat) : Int) := by rw [← hm2, ms_f]
  have q3 : ∀ j, m2 3 j = if j = gn g then p else m 3 j := fun j => by
    rw [← hm2, ms_o (by omega), ms_o (by omega), ms_o (by omega), ms_s, ms_o (by omega), s1 3 (by omega)]
  have q4 : ∀ j, m2 4 j = if j = gn g then (muX (gp g) p : Int) else m 4 j := fun j => by
    rw [← hm2, ms_o (by omega), ms_o (by omega), ms_s, ms_o (by omega), ms_o (by omega), s1 4 (by omega)]
  have q5 : ∀ j, m2 5 j = if j = gn g then 1 else m 5 j := fun j => by
    rw [← hm2, ms_o (by omega), ms_s, ms_o (by omega), ms_o (by omega), ms_o (by omega), s1 5 (by omega)]
  have q6 : ∀ j, m2 6 j = if j = pl then (gn g : Int) else if pl < j ∧ j ≤ gn g then m 6 (j - 1) else m 6 j := fun j => by
    rw [← hm2, ms_o (by omega), ms_o (by omega), ms_o (by omega), ms_o (by omega), ms_s, s2]
  have hL : f_People_addL 99999 m p (gn g : Int) (pl : Int) (gn g : Int) = some ((gn g : Int), m2) := by
    rw [show 99999 = (99999 - (gn g - pl) - 1 + 1) + (gn g - pl) by omega]
    rw [show 99999 - (gn g - pl) = 99999 - (gn g - pl) - 1 + 1 by omega] at e1
    rw [e1]
    unfold f_People_addL
    have hd : f_People_depth (mset (mset m1 6 pl (gn g : Int)) 3 (gn g) p) p = some ((muX (gp g) p : Int) - 1) := by
      rw [← P_depX V H hp3]
      unfold f_People_depth
      rw [ms_o (by omega), ms_o (by omega), ms_o (by omega), ms_o (by omega), s1 2 (by omega), s1 4 (by omega)]
    have hmx : muX (gp g) p ≤ 16 := by
      rcases hp3.cases with e | ⟨i, e, hi⟩
      · rw [e]
        exact Nat.zero_le _
      · rw [e]
        exact muX_le V hi
    rw [if_neg (by omega), oix_n (by omega), Int.toNat_natCast]
    simp only [oix_n hn, Int.toNat_natCast]
    rw [hd, Option.bind_some, jw_e (x := (muX (gp g) p : Int) - 1 + 1) (y := (muX (gp g) p : Int)) (by omega) (by omega) (by omega), ms_o (by omega), ms_o (by omega), ms_o (by omega), ms_o (by omega), s1 2 (by omega), H.n, hV.1, jw_s (by omega), hm2]
  refine ⟨m2, odA (gn g) od pl, psA (gn g) ps pl, ?_, fun q hq => q0 q (by omega) (by omega) (by omega) (by omega) (by omega), ⟨?_, fun i hi => ?_, ?_⟩, ?_, ?_, ⟨?_, ?_, ?_, fun i hi => ?_⟩, GH.up (by rw [ga_gn]; omega) (fun j hj => ga_o (by omega) (by omega) (by omega)) W, ⟨fun j hj => ?_, fun j hj => ?_⟩⟩
  · unfold f_People_add
    rw [H.n, hV.1, if_pos (by omega)]
    by_cases e : p = -1
    · rw [if_pos e]
      rw [if_pos e] at hpl
      rw [← hpl] at hL
      exact hL
    · obtain ⟨i, ei, hi⟩ := (hp3.cases).resolve_left e
      rw [if_neg e] at hpl
      rw [if_neg e]
      rw [ei] at hpl hL ⊢
      rw [Int.toNat_natCast] at hpl
      rw [P_end V H hi, Option.bind_some, hpl, if_neg (by omega)]
      exact hL
  · rw [ga_0]
    show m2 2 4 = _
    rw [q2]
    omega
  · rw [ga_gn] at hi
    show m2 3 i = _ ∧ m2 4 i = _ ∧ m2 5 i = _ ∧ m2 6 i = _
    rw [q3, q4, q5, q6, ga_gp hn, ga_ga hn]
    refine ⟨?_, ?_, ?_, ?_⟩
    · by_cases e : i = gn g
      · rw [if_pos e, if_pos e]
      · rw [if_neg e, if_neg e]
        exact H.par (by omega)
    · by_cases e : i = gn g
      · rw [if_pos e, e, hdn]
      · rw [if_neg e, hdp i (by omega)]
        exact H.dep (by omega)
    · by_cases e : i = gn g
      · rw [if_pos e, if_pos e]
      · rw [if_neg e, if_neg e]
        exact H.liv (by omega)
    · unfold odA
      by_cases e : i = pl
      · rw [if_pos e, if_neg (by omega), if_pos e]
      · rw [if_neg e]
        by_cases e2 : pl < i
        · rw [if_pos ⟨e2, by omega⟩, if_neg (by omega), if_neg e]
          exact H.ord (by omega)
        · rw [if_neg (by omega), if_pos (by omega)]
          exact H.ord (by omega)
  · rw [ga_gn]; exact O'
  · exact RH.cg (fun j hj => ga_o (by omega) (by omega) (by omega)) (R.mv fun q h1 h2 => q0 q (by omega) (by omega) (by omega) (by omega) (by omega))
  · rw [q0 1 (by omega) (by omega) (by omega) (by omega) (by omega), ga_o (by omega) (by omega) (by omega)]; exact Y
  · rw [ga_0]; omega
  · rw [ga_0]; omega
  · rw [ga_gn]; exact f'
  · rw [ga_gn] at hi
    rw [ga_ga hn]
    by_cases e : i = gn g
    · rw [if_pos e]; exact Or.inr rfl
    · rw [if_neg e]; exact V.2.2.2 i (by omega)
  · show m2 5 j = 0 ∨ m2 5 j = 1
    rw [q5]
    by_cases e : j = gn g
    · rw [if_pos e]; exact Or.inr rfl
    · rw [if_neg e]; exact T.1 j hj
  · show (0 ≤ m2 8 j ∧ m2 8 j < 65536) ∧ (m2 11 j = 0 ∨ m2 11 j = 1) ∧ (m2 12 j = 0 ∨ m2 12 j = 1)
    rw [q0 8 (by omega) (by omega) (by omega) (by omega) (by omega), q0 11 (by omega) (by omega) (by omega) (by omega) (by omega), q0 12 (by omega) (by omega) (by omega) (by omega) (by omega)]
    exact T.2 j hj
theorem ga_GL (V : GP g) (W : GH g) (L : GL g) (hn : gn g < 16) (p : Int) : GL (gadd g p) := by
  intro l hl h0
  have e1 : hh (gadd g p) l = hh g l := ga_o (by omega) (by omega) (by omega)
  have e2 : hN (gadd g p) = hN g := by
    unfold hN
    rw [ga_o (by omega) (by omega) (by omega)]
  rw [e2] at hl
  rw [e1] at h0 ⊢
  obtain ⟨x, ex, hx⟩ := hh_pin W hl h0
  have h1 := L l hl h0
  rw [ex, Int.toNat_natCast] at h1 ⊢
  unfold gal at h1 ⊢
  rw [ga_ga hn, if_neg (by omega)]
  exact h1
theorem M_comes {m5 : jMem} (V : GP g) (hn : gn g < 16) (hg : m5 148 = g) (p : Int) : ∃ m6, f_Mod_comes m5 p = some ((gn g : Int), m6) ∧ m6 148 = gadd g p ∧ ∀ q, q ≠ 148 → m6 q = m5 q := by
  have hV := V.n
  have e0 : m5 148 0 = ((gn g : Nat) : Int) := by rw [hg]; exact hV.1
  have h0 := jw2 (i := gn g) (by omega) 0 (by omega)
  have h1 : jw (jw (6 + jw (2 * ((gn g : Nat) : Int))) + 1) = ((7 + 2 * gn g : Nat) : Int) := (jw2 (i := gn g) (by omega) 1 (by omega)).trans (by omega)
  have h0' : jw (jw (6 + jw (2 * ((gn g : Nat) : Int))) + 0) = ((6 + 2 * gn g : Nat) : Int) := h0
  refine ⟨mset (mset (mset m5 148 0 ((gn g : Int) + 1)) 148 (6 + 2 * gn g) p) 148 (7 + 2 * gn g) 1, ?_, ?_, fun q hq => by rw [mset_ne hq, mset_ne hq, mset_ne hq]⟩
  · show oix (0 : Int) 138 (oix (0 : Int) 138 (oix (0 : Int) 138 (oix (jw ((jw (6 + (jw (2 * (m5 148 0))))) + 0)) 138 (oix (jw ((jw (6 + (jw (2 * (m5 148 0))))) + 1)) 138 (some (m5 148 0, mset (mset (mset m5 148 0 (jw ((m5 148 0) + 1))) 148 (jw ((jw (6 + (jw (2 * (m5 148 0))))) + 0)).toNat p) 148 (jw ((jw (6 + (jw (2 * (m5 148 0))))) + 1)).toNat 1))))))  = _
    rw [e0, h0', h1, oix0, oix0, oix0, oix_n (by omega), oix_n (by omega), Int.toNat_natCast, Int.toNat_natCast, jw_id (z := ((gn g : Nat) : Int) + 1) ⟨by omega, by omega⟩]
  · rw [mset_row, mset_row, mset_row, hg]
    rfl
theorem o_found (V : GP g) (W : GH g) (L : GL g) : ∃ o, AS f_Actions_newFounder g od ps (some o) ∧ MS (fun m => m) f_Mod_addFounder g 1 (some o) := by
  have hV := V.n
  by_cases hn : gn g < 16
  · refine ⟨.inl ((gn g : Int), gadd g (-1)), fun m P => ⟨show 0 ≤ (gn g : Int) by omega, ga_GL V W L hn _, ?_⟩, fun m hg m5 e5 hg5 => ?_⟩
    · obtain ⟨m2, od', ps', e, f, Q⟩ := A_add P hn (Or.inl rfl)
      refine ⟨m2, od', ps', ?_, f, Q⟩
      unfold f_Actions_newFounder
      rw [P.H.n, if_pos (by omega), e]
      rfl
    · obtain ⟨m6, e6, h6, q6⟩ := M_comes V hn hg5 (-1)
      refine ⟨m6, ?_, h6, q6⟩
      unfold f_Mod_addFounder
      rw [oix0, show (0 : Int).toNat = 0 from rfl, hg, if_neg (by omega), show f_Mod_keeps_148 m = some m5 from e5, Option.bind_some, e6]
      rfl
  · refine ⟨.inr (1, 16), fun m P => ⟨show (1 : Int) ≠ 12 ∧ (1 : Int) ≠ 0 by omega, ?_⟩, fun m hg => ?_⟩
    · unfold f_Actions_newFounder
      rw [P.H.n, if_neg (by omega)]
      rfl
    · show f_Mod_addFounder m = _
      unfold f_Mod_addFounder
      rw [oix0, show (0 : Int).toNat = 0 from rfl, hg, if_pos (by omega)]
      rfl
theorem o_child (V : GP g) (W : GH g) (L : GL g) {i : Nat} (hi : i < gn g) : ∃ o, AS (fun m => f_Actions_newChild m (i : Int)) g od ps (some o) ∧ MS Fz (fun m => f_Mod_addChild m (i : Int)) g 2 (some o) := by
  have hV := V.n
  by_cases ha : gal g i = true
  · by_cases hn : gn g < 16
    · refine ⟨.inl ((gn g : Int), gadd g (i : Int)), fun m P => ⟨show 0 ≤ (gn g : Int) by omega, ga_GL V W L hn _, ?_⟩, fun m hg m5 e5 hg5 => ?_⟩
      · obtain ⟨m2, od', ps', e, f, Q⟩ := A_add P hn (p := (i : Int)) (Or.inr ⟨by omega, by omega⟩)
        refine ⟨m2, od', ps', ?_, f, Q⟩
        show f_Actions_newChild m (i : Int) = _
        unfold f_Actions_newChild
        rw [P_has P.V P.H, if_pos (by omega), Option.bind_some, if_neg (by omega), P_liv P.V P.H hi, Option.bind_some, V.al hi, if_pos ha, if_neg (by omega), P.H.n, if_pos (by omega), e]
        rfl
      · obtain ⟨m6, e6, h6, q6⟩ := M_comes V hn hg5 (i : Int)
        refine ⟨m6, ?_, h6, q6⟩
        show f_Mod_addChild m (i : Int) = _
        unfold f_Mod_addChild
        rw [M_per_in V hg hi, Option.bind_some, if_neg (by omega), M_fails0, Option.bind_some]
        dsimp only
        rw [if_pos rfl, M_liv V (Fz_g hg) hi, Option.bind_some, V.al hi, if_pos ha, if_neg (by omega), oix0, show (0 : Int).toNat = 0 from rfl]
        show (if (Fm m 0) 148 0 = 16 then _ else _) = _
        rw [Fz_g hg, if_neg (by omega), show f_Mod_keeps_148 (Fm m 0) = some m5 from e5, Option.bind_some, e6]
        rfl
    · refine ⟨.inr (1, 16), fun m P => ⟨show (1 : Int) ≠ 12 ∧ (1 : Int) ≠ 0 by omega, ?_⟩, fun m hg => ?_⟩
      · show f_Actions_newChild m (i : Int) = _
        unfold f_Actions_newChild
        rw [P_has P.V P.H, if_pos (by omega), Option.bind_some, if_neg (by omega), P_liv P.V P.H hi, Option.bind_some, V.al hi, if_pos ha, if_neg (by omega), P.H.n, if_neg (by omega)]
        rfl
      · show f_Mod_addChild m (i : Int) = _
        unfold f_Mod_addChild
        rw [M_per_in V hg hi, Option.bind_some, if_neg (by omega), M_fails0, Option.bind_some]
        dsimp only
        rw [if_pos rfl, M_liv V (Fz_g hg) hi, Option.bind_some, V.al hi, if_pos ha, if_neg (by omega), oix0, show (0 : Int).toNat = 0 from rfl]
        show (if (Fm m 0) 148 0 = 16 then _ else _) = _
        rw [Fz_g hg, if_pos (by omega)]
        rfl
  · refine ⟨.inr (3, (i : Int)), fun m P => ⟨show (3 : Int) ≠ 12 ∧ (3 : Int) ≠ 0 by omega, ?_⟩, fun m hg => ?_⟩
    · show f_Actions_newChild m (i : Int) = _
      unfold f_Actions_newChild
      rw [P_has P.V P.H, if_pos (by omega), Option.bind_some, if_neg (by omega), P_liv P.V P.H hi, Option.bind_some, V.al hi, if_neg ha, if_pos rfl]
      rfl
    · show f_Mod_addChild m (i : Int) = _
      unfold f_Mod_addChild
      rw [M_per_in V hg hi, Option.bind_some, if_neg (by omega), M_fails0, Option.bind_some]
      dsimp only
      rw [if_pos rfl, M_liv V (Fz_g hg) hi, Option.bind_some, V.al hi, if_neg ha, if_pos rfl]
      rfl
end Add

/-! ===== people: common ancestors, heirs, places in the family ===== -/
/-- a person, or nobody -/
def okx (n : Nat) (x : Int) : Prop := x = -1 ∨ (0 ≤ x ∧ x < (n : Int))
def muX (par : Nat → Int) (x : Int) : Nat := if x < 0 then 0 else dp par x.toNat + 1
def pX (par : Nat → Int) (x : Int) : Int := if x < 0 then -1 else par x.toNat
def lcX (par : Nat → Int) (x y : Int) : Int := if x < 0 ∨ y < 0 then -1 else lc par x.toNat y.toNat
section People
variable {par : Nat → Int} {n : Nat}
theorem okx.cases {x : Int} (h : okx n x) : x = -1 ∨ ∃ i : Nat, x = (i : Int) ∧ i < n := by
  rcases h with h | ⟨h1, h2⟩
  · exact Or.inl h
  · exact Or.inr ⟨x.toNat, by omega, by omega⟩
theorem okx_p (f : fvp par n) {x : Int} (h : okx n x) : okx n (pX par x) := by
  rcases h.cases with rfl | ⟨i, rfl, hi⟩
  · exact Or.inl rfl
  · unfold pX
    rw [if_neg (by omega), Int.toNat_natCast]
    rcases f i hi with h1 | h1
    · exact Or.inl h1
    · exact Or.inr ⟨h1.1, by omega⟩
theorem okx_par (f : fvp par n) {i : Nat} (hi : i < n) : okx n (par i) := by
  rcases f i hi with h1 | h1
  · exact Or.inl h1
  · exact Or.inr ⟨h1.1, by omega⟩
theorem muX_p (f : fvp par n) {i : Nat} (hi : i < n) : muX par (i : Int) = muX par (par i) + 1 := by
  unfold muX
  rw [if_neg (by omega), Int.toNat_natCast]
  by_cases h : par i < 0
  · rw [dp_neg h, if_pos h]
  · rw [dp_pos f hi (by omega), if_neg h]
theorem lcX_eq (x : Int) (i : Nat) (h : x = (i : Int)) : lcX par x x = x := by
  subst h
  unfold lcX
  rw [if_neg (by omega), Int.toNat_natCast]
  exact lc_self (AB_refl _ _)
/-- one step up from the deeper one (or from the first) -/
theorem lcX_r (f : fvp par n) {x : Int} {j : Nat} (hx : okx n x) (hj : j < n) (h : muX par x < muX par (j : Int)) : lcX par x (j : Int) = lcX par x (par j) := by
  rcases hx.cases with rfl | ⟨i, rfl, hi⟩
  · unfold lcX
    rw [if_pos (Or.inl (by omega)), if_pos (Or.inl (by omega))]
  · have h1 : dp par i < dp par j := by
      unfold muX at h
      rw [if_neg (by omega), if_neg (by omega), Int.toNat_natCast, Int.toNat_natCast] at h
      omega
    have hab : ¬ AB par j i := fun hA => by
      have := (AB_dp f i hi hA).1
      omega
    unfold lcX
    rw [if_neg (by omega), Int.toNat_natCast, Int.toNat_natCast]
    by_cases hp : par j < 0
    · rw [if_pos (Or.inr hp), lc_comm f hi hj, lc_none hab hp]
    · have := f.lt hj (by omega)
      rw [if_neg (by omega), lc_comm f hi hj, lc_up f hj hab (by omega), lc_comm f (by omega) hi]
theorem lcX_l (f : fvp par n) {y : Int} {i : Nat} (hi : i < n) (hy : okx n y) (hne : (i : Int) ≠ y) (h : muX par y ≤ muX par (i : Int)) : lcX par (i : Int) y = lcX par (par i) y := by
  rcases hy.cases with rfl | ⟨j, rfl, hj⟩
  · unfold lcX
    rw [if_pos (Or.inr (by omega)), if_pos (Or.inr (by omega))]
  · have h1 : dp par j ≤ dp par i := by
      unfold muX at h
      rw [if_neg (by omega), if_neg (by omega), Int.toNat_natCast, Int.toNat_natCast] at h
      omega
    have hab : ¬ AB par i j := fun hA => by
      have h2 := AB_dp f j hj hA
      exact hne (by rw [h2.2 (by omega)])
    unfold lcX
    rw [if_neg (by omega), Int.toNat_natCast, Int.toNat_natCast]
    by_cases hp : par i < 0
    · rw [if_pos (Or.inl hp), lc_none hab hp]
    · rw [if_neg (by omega), lc_up f hi hab (by omega)]
end People
section People
variable {m : jMem} {g : Nat → Int} {od ps : Nat → Nat}
theorem P_depX (V : GP g) (H : RP 1 m g od ps) {x : Int} (hx : okx (gn g) x) : f_People_depth m x = some ((muX (gp g) x : Nat) - 1 : Int) := by
  rcases hx.cases with rfl | ⟨i, rfl, hi⟩
  · rw [P_dep_neg H]
    rfl
  · rw [P_dep V H hi]
    unfold muX
    rw [if_neg (by omega), Int.toNat_natCast]
    congr 1
    omega
theorem P_parX (V : GP g) (H : RP 1 m g od ps) {x : Int} (hx : okx (gn g) x) : f_People_parent m x = some (pX (gp g) x) := by
  rcases hx.cases with rfl | ⟨i, rfl, hi⟩
  · rw [P_par_neg H]
    rfl
  · rw [P_par V H hi]
    unfold pX
    rw [if_neg (by omega), Int.toNat_natCast]
theorem P_nsL (V : GP g) (H : RP 1 m g od ps) : ∀ (k N : Nat) (x y : Int) (c : Nat), okx (gn g) x → okx (gn g) y → muX (gp g) x + muX (gp g) y ≤ k → c + k ≤ 32 → k < N → f_People_nearestSharedL N m x y (c : Int) = some (lcX (gp g) x y)
  | _, 0, _, _, _, _, _, _, _, h => by omega
  | k, N + 1, x, y, c, hx, hy, hmu, hc, hN => by
    unfold f_People_nearestSharedL
    by_cases e : x = y
    · have hv : some x = some (lcX (gp g) x y) := by
        subst e
        rcases hx.cases with rfl | ⟨i, rfl, hi⟩
        · rfl
        · rw [lcX_eq _ i rfl]
      by_cases h32 : (c : Int) < 32
      · rw [if_pos h32, if_pos e, if_pos e]
        exact hv
      · rw [if_neg h32, if_pos e]
        exact hv
    · have hpos : 0 < muX (gp g) x + muX (gp g) y := by
        rcases hx.cases with rfl | ⟨i, rfl, hi⟩
        · rcases hy.cases with rfl | ⟨j, rfl, hj⟩
          · exact absurd rfl e
          · unfold muX
            rw [if_neg (by omega : ¬ ((j : Nat) : Int) < 0)]
            omega
        · unfold muX
          rw [if_neg (by omega : ¬ ((i : Nat) : Int) < 0)]
          omega
      rw [if_pos (by omega), if_neg e, P_depX V H hx, Option.bind_some, P_depX V H hy, Option.bind_some]
      cases k with
      | zero => omega
      | succ k =>
        by_cases hd : muX (gp g) x < muX (gp g) y
        · rw [if_pos (by omega), P_parX V H hy, Option.bind_some, jw_s (by omega)]
          rcases hy.cases with rfl | ⟨j, rfl, hj⟩
          · unfold muX at hd
            rw [if_pos (by omega : (-1 : Int) < 0)] at hd
            omega
          · have h1 := muX_p V.f hj
            have h2 : pX (gp g) (j : Int) = gp g j := by
              unfold pX
              rw [if_neg (by omega), Int.toNat_natCast]
            rw [lcX_r V.f hx hj hd, h2]
            exact P_nsL V H k N x (gp g j) (c + 1) hx (okx_par V.f hj) (by omega) (by omega) (by omega)
        · rw [if_neg (by omega), P_parX V H hx, Option.bind_some, jw_s (by omega)]
          rcases hx.cases with rfl | ⟨i, rfl, hi⟩
          · have h0 : muX (gp g) (-1) = 0 := rfl
            omega
          · have h1 := muX_p V.f hi
            have h2 : pX (gp g) (i : Int) = gp g i := by
              unfold pX
              rw [if_neg (by omega), Int.toNat_natCast]
            rw [lcX_l V.f hi hy e (by omega), h2]
            exact P_nsL V H k N (gp g i) y (c + 1) (okx_par V.f hi) hy (by omega) (by omega) (by omega)
theorem muX_le (V : GP g) {i : Nat} (hi : i < gn g) : muX (gp g) (i : Int) ≤ 16 := by
  have := V.dp_lt hi
  unfold muX
  rw [if_neg (by omega), Int.toNat_natCast]
  omega
theorem P_ns (V : GP g) (H : RP 1 m g od ps) {i j : Nat} (hi : i < gn g) (hj : j < gn g) : f_People_nearestShared m (i : Int) (j : Int) = some (lc (gp g) i j) := by
  have h1 := muX_le V hi
  have h2 := muX_le V hj
  have h3 := P_nsL V H 32 99999 (i : Int) (j : Int) 0 (Or.inr ⟨by omega, by omega⟩) (Or.inr ⟨by omega, by omega⟩) (by omega) (by omega) (by omega)
  have h4 : lcX (gp g) (i : Int) (j : Int) = lc (gp g) i j := by
    unfold lcX
    rw [if_neg (by omega), Int.toNat_natCast, Int.toNat_natCast]
  rw [h4] at h3
  exact h3
/-- the number of steps between two of a family -/
def apt (par : Nat → Int) (i j : Nat) : Int := if lc par i j = -1 then -1 else (dp par i : Int) + dp par j - 2 * dp par (lc par i j).toNat
theorem apt_lt (V : GP g) {i j : Nat} (hi : i < gn g) (hj : j < gn g) : apt (gp g) i j = -1 ∨ (0 ≤ apt (gp g) i j ∧ apt (gp g) i j < 32) := by
  have h1 := V.dp_lt hi
  have h2 := V.dp_lt hj
  unfold apt
  rcases lc_spec V.f (b := j) i hi with ⟨e, -⟩ | ⟨c, e, a1, a2, -⟩
  · rw [if_pos e]; exact Or.inl rfl
  · rw [e, if_neg (by omega), Int.toNat_natCast]
    have h3 := (AB_dp V.f i hi a1).1
    have h4 := (AB_dp V.f j hj a2).1
    exact Or.inr ⟨by omega, by omega⟩
theorem P_steps (V : GP g) (H : RP 1 m g od ps) {i j : Nat} (hi : i < gn g) (hj : j < gn g) : f_People_stepsBetween m (i : Int) (j : Int) = some (apt (gp g) i j) := by
  have h1 := V.dp_lt hi
  have h2 := V.dp_lt hj
  unfold f_People_stepsBetween apt
  rw [P_ns V H hi hj, Option.bind_some]
  rcases lc_spec V.f (b := j) i hi with ⟨e, -⟩ | ⟨c, e, a1, a2, -⟩
  · rw [e, if_pos rfl, if_pos rfl]
  · have hc : c < gn g := by have := AB_le V.f i hi a1; omega
    have h3 := (AB_dp V.f i hi a1).1
    have h4 := (AB_dp V.f j hj a2).1
    rw [e, if_neg (by omega), if_neg (by omega), P_dep V H hi, Option.bind_some, P_dep V H hj, Option.bind_some, P_dep V H hc, Option.bind_some, Int.toNat_natCast, jw_id (z := (dp (gp g) i : Int) + dp (gp g) j) ⟨by omega, by omega⟩, jw_id (z := 2 * (dp (gp g) c : Int)) ⟨by omega, by omega⟩, jw_id ⟨by omega, by omega⟩]
theorem P_neigh (V : GP g) (H : RP 1 m g od ps) {i j : Nat} (hi : i < gn g) (hj : j < gn g) : f_People_areNeighbours m (i : Int) (j : Int) = some (if gp g i = (j : Int) ∨ gp g j = (i : Int) then 1 else 0) := by
  unfold f_People_areNeighbours
  rw [P_par V H hi, Option.bind_some]
  by_cases h1 : gp g i = (j : Int)
  · rw [if_pos h1, if_pos (Or.inl h1)]
  · rw [if_neg h1, P_par V H hj, Option.bind_some]
    by_cases h2 : gp g j = (i : Int)
    · rw [if_pos h2, if_pos (Or.inr h2)]
    · rw [if_neg h2, if_neg (by omega)]
theorem okb_eq (g : Nat → Int) (x : Nat) : okb g (x : Int) = fun y => gal g y && !(Nat.beq y x) := by
  funext y
  unfold okb
  congr 2
  by_cases h : y = x
  · subst h
    rw [decide_eq_true rfl, Nat.beq_refl]
  · rw [decide_eq_false (by omega)]
    cases hb : Nat.beq y x
    · rfl
    · exact absurd (Nat.eq_of_beq_eq_true hb) h
theorem fb_own (V : GP g) (H : OD (gp g) (gn g) od ps) {r : Nat} (hr : r < gn g) (e : Int) (he : e = -1 ∨ e = (r : Int)) : fb (gp g) (gn g) od ps (okb g e) r = fb (gp g) (gn g) od ps (okb g (r : Int)) r := by
  have h2 := en_spec V.f H hr
  have h1 := H.2.1 r hr
  unfold fb
  refine sc_congr _ _ rfl fun q hq hq2 => ?_
  have h3 := H.1 q (by omega)
  have hne : od q ≠ r := fun e9 => by
    have := h3.2
    rw [e9] at this
    omega
  unfold okb
  rcases he with rfl | rfl
  · rw [decide_eq_false (by omega), decide_eq_false (by omega)]
  · rfl
theorem P_heirL (V : GP g) (H : RP 1 m g od ps) {x : Nat} : ∀ (k N c : Nat) (found p : Int), okx (gn g) found → okx (gn g) p → muX (gp g) p < k → c + k ≤ 17 → k ≤ N → f_People_heirL N m (x : Int) found p (c : Int) = some (hrF (gp g) (gn g) od ps (gal g) x k found p)
  | 0, _, _, _, _, _, _, h, _, _ => by omega
  | k + 1, 0, _, _, _, _, _, _, _, h => by omega
  | k + 1, N + 1, c, found, p, hf, hp, hmu, hc, hN => by
    unfold f_People_heirL hrF
    by_cases h16 : (c : Int) < 16
    · rw [if_pos h16]
      rcases hf.cases with rfl | ⟨y, rfl, hy⟩
      · rw [if_pos rfl]
        rcases hp.cases with rfl | ⟨q, rfl, hq⟩
        · rw [if_pos rfl, if_pos (Or.inr (by omega))]
        · rw [if_neg (by omega), if_neg (by omega), P_liv V H hq, Option.bind_some, V.al hq, Int.toNat_natCast, jw_s (by omega)]
          have hmq := muX_p V.f hq
          by_cases h1 : gal g q = true
          · rw [if_pos h1, if_neg (by omega), if_pos h1, P_par V H hq, Option.bind_some]
            exact P_heirL V H k N (c + 1) (q : Int) (gp g q) (Or.inr ⟨by omega, by omega⟩) (okx_par V.f hq) (by omega) (by omega) (by omega)
          · rw [if_neg h1, if_pos rfl, if_neg h1, P_first V H hq, Option.bind_some, P_par V H hq, Option.bind_some, ← okb_eq]
            exact P_heirL V H k N (c + 1) _ (gp g q) (fb_lt V.f H.o _ hq) (okx_par V.f hq) (by omega) (by omega) (by omega)
      · rw [if_neg (by omega), if_pos (Or.inl (by omega))]
    · rw [if_neg h16]
      have hk0 : k = 0 := by omega
      subst hk0
      have hp0 : muX (gp g) p = 0 := by omega
      have hpn : p < 0 := by
        unfold muX at hp0
        split at hp0
        · assumption
        · omega
      rw [if_pos (Or.inr hpn)]
theorem hrF_more (par : Nat → Int) (n : Nat) (od ps : Nat → Nat) (al : Nat → Bool) (x : Nat) (f : fvp par n) : ∀ (k k' : Nat) (found p : Int), okx n p → muX par p < k → muX par p < k' → hrF par n od ps al x k found p = hrF par n od ps al x k' found p
  | 0, _, _, _, _, h, _ => by omega
  | _, 0, _, _, _, _, h => by omega
  | k + 1, k' + 1, found, p, hp, h1, h2 => by
    unfold hrF
    by_cases h3 : 0 ≤ found ∨ p < 0
    · rw [if_pos h3, if_pos h3]
    · rw [if_neg h3, if_neg h3]
      rcases hp.cases with rfl | ⟨q, rfl, hq⟩
      · omega
      · rw [Int.toNat_natCast]
        have := muX_p f hq
        exact hrF_more par n od ps al x f k k' _ _ (okx_par f hq) (by omega) (by omega)
theorem muX_par (V : GP g) {x : Nat} (hx : x < gn g) : muX (gp g) (gp g x) < 16 := by
  have h1 := muX_le V hx
  have h2 := muX_p V.f hx
  omega
theorem P_heir (V : GP g) (H : RP 1 m g od ps) {x : Nat} (hx : x < gn g) : f_People_heir m (x : Int) = some (hr (gp g) (gn g) od ps (gal g) x) := by
  unfold f_People_heir hr
  rw [P_first V H hx, Option.bind_some, P_par V H hx, Option.bind_some, fb_own V H.o hx (-1) (Or.inl rfl), ← okb_eq]
  have h1 := muX_par V hx
  have h3 := okx_par V.f hx
  have h4 : muX (gp g) (gp g x) ≤ x := by
    rcases h3.cases with e | ⟨q, e, hq⟩
    · rw [e]
      exact Nat.zero_le _
    · have h5 := V.f.lt hx (by omega)
      have h6 := dp_le V.f q hq
      rw [e] at h5 ⊢
      unfold muX
      rw [if_neg (by omega)]
      rw [Int.toNat_natCast] at h5 ⊢
      omega
  refine (P_heirL V H (x := x) 17 99999 0 _ _ (fb_lt V.f H.o (okb g (x : Int)) hx) h3 (by omega) (by omega) (by omega)).trans ?_
  rw [hrF_more _ _ _ _ _ _ V.f 17 (gn g + 1) _ _ h3 (by omega) (by omega)]
/-- whose branch of the family -/
theorem P_famL (V : GP g) (H : RP 1 m g od ps) {x : Nat} (hx : x < gn g) : ∀ (q N : Nat), q < N → ps (rt (gp g) x) ≤ q → q ≤ ps x → f_People_placeInFamilyL N m ((ps x : Nat) : Int) (q : Int) = some ((ps x : Int) - ps (rt (gp g) x))
  | _, 0, h, _, _ => by omega
  | q, N + 1, hN, h1, h2 => by
    have hn := V.n
    obtain ⟨r1, r2⟩ := rt_spec V.f x hx
    have hrl := AB_le V.f x hx r1
    have hr1 := H.o.2.1 _ (show rt (gp g) x < gn g by omega)
    have hx1 := H.o.2.1 x hx
    have hq := H.o.1 q (by omega)
    unfold f_People_placeInFamilyL
    by_cases h0 : (0 : Int) < (q : Int)
    · rw [if_pos h0, P_at V H (by omega), Option.bind_some, P_dep V H hq.1, Option.bind_some]
      by_cases h3 : ps (rt (gp g) x) = q
      · have h4 : od q = rt (gp g) x := by rw [← h3, hr1.2]
        rw [h4, dp_neg r2, if_neg (by omega), h3, jw_id ⟨by omega, by omega⟩]
      · have h5 : AB (gp g) (rt (gp g) x) (od q) := (en_iff V.f H.o (by omega) hq.1).mpr (by
          rw [hq.2]
          have := (en_iff V.f H.o (by omega) hx).mp r1
          exact ⟨by omega, by omega⟩)
        have h6 : rt (gp g) x ≠ od q := fun e => h3 (by rw [e, hq.2])
        have h7 := AB_dp V.f _ hq.1 h5
        have h8 : dp (gp g) (rt (gp g) x) ≠ dp (gp g) (od q) := fun e => h6 (h7.2 e)
        rw [if_pos (by omega), jw_e (y := ((q - 1 : Nat) : Int)) (by omega) (by omega) (by omega)]
        exact P_famL V H hx (q - 1) N (by omega) (by omega) (by omega)
    · rw [if_neg h0, jw_id ⟨by omega, by omega⟩]
      congr 1
      omega
theorem P_fam (V : GP g) (H : RP 1 m g od ps) {x : Nat} (hx : x < gn g) : f_People_placeInFamily m (x : Int) = some ((ps x : Int) - ps (rt (gp g) x)) := by
  have hn := V.n
  have hx1 := H.o.2.1 x hx
  obtain ⟨r1, r2⟩ := rt_spec V.f x hx
  have hrl := AB_le V.f x hx r1
  have h1 := (en_iff V.f H.o (by omega) hx).mp r1
  unfold f_People_placeInFamily
  rw [P_place V H hx, Option.bind_some]
  exact P_famL V H hx (ps x) 99999 (by omega) h1.1 (Nat.le_refl _)
theorem P_before (V : GP g) (H : RP 1 m g od ps) {x y z : Nat} (hx : x < gn g) (hy : y < gn g) (hz : z < gn g) (ly : lc (gp g) y x ≠ -1) (lz : lc (gp g) z x ≠ -1) : ∃ v : Int, f_People_succeedsBefore m (y : Int) (z : Int) (x : Int) = some v ∧ (v = 0 ∨ v = 1) ∧ (v = 1 ↔ before (gp g) ps x y z) := by
  unfold f_People_succeedsBefore before
  rw [P_ns V H hy hx, Option.bind_some]
  rcases lc_lt V.f (b := x) hy with e | ⟨a1, a2⟩
  · exact absurd e ly
  rcases lc_lt V.f (b := x) hz with e | ⟨b1, b2⟩
  · exact absurd e lz
  obtain ⟨u, hu⟩ := Int.eq_ofNat_of_zero_le a1
  obtain ⟨w, hw⟩ := Int.eq_ofNat_of_zero_le b1
  rw [hu, P_dep V H (by omega), Option.bind_some, P_ns V H hz hx, Option.bind_some, hw, P_dep V H (by omega), Option.bind_some]
  show ∃ v : Int, (if ((dp (gp g) u : Nat) : Int) = ((dp (gp g) w : Nat) : Int) then _ else _) = some v ∧ _ ∧ (v = 1 ↔ dp (gp g) ((w : Nat) : Int).toNat < dp (gp g) ((u : Nat) : Int).toNat ∨ _ ∧ _)
  rw [Int.toNat_natCast, Int.toNat_natCast]
  by_cases h1 : dp (gp g) u = dp (gp g) w
  · rw [if_pos (by omega), P_place V H hy, Option.bind_some, P_place V H hz, Option.bind_some]
    by_cases h2 : ps y < ps z
    · exact ⟨1, by rw [if_pos (by omega)], Or.inr rfl, ⟨fun _ => Or.inr ⟨by omega, h2⟩, fun _ => rfl⟩⟩
    · exact ⟨0, by rw [if_neg (by omega)], Or.inl rfl, ⟨fun h => by omega, fun h => by omega⟩⟩
  · rw [if_neg (by omega)]
    by_cases h2 : dp (gp g) w < dp (gp g) u
    · exact ⟨1, by rw [if_pos (by omega)], Or.inr rfl, ⟨fun _ => Or.inl h2, fun _ => rfl⟩⟩
    · exact ⟨0, by rw [if_neg (by omega)], Or.inl rfl, ⟨fun h => by omega, fun h => by omega⟩⟩
/-- the best of those below i -/
def bst (g : Nat → Int) (ps : Nat → Nat) (x i : Nat) (a : Int) : Prop := (a = -1 ∧ ∀ z, z < i → ¬ elig (gp g) (gn g) (gal g) x z) ∨ ∃ y : Nat, a = (y : Int) ∧ y < i ∧ elig (gp g) (gn g) (gal g) x y ∧ ∀ z, z < i → elig (gp g) (gn g) (gal g) x z → z ≠ y → before (gp g) ps x y z
theorem bst_skip {x i : Nat} {a : Int} (h : bst g ps x i a) (hi : ¬ elig (gp g) (gn g) (gal g) x i) : bst g ps x (i + 1) a := by
  rcases h with ⟨e, h1⟩ | ⟨y, e, h0, h1, h2⟩
  · refine Or.inl ⟨e, fun z hz => ?_⟩
    by_cases hzi : z = i
    · rw [hzi]; exact hi
    · exact h1 z (by omega)
  · refine Or.inr ⟨y, e, by omega, h1, fun z hz he hne => ?_⟩
    by_cases hzi : z = i
    · rw [hzi] at he; exact absurd he hi
    · exact h2 z (by omega) he hne
theorem P_allL (V : GP g) (H : RP 1 m g od ps) {x : Nat} (hx : x < gn g) : ∀ (k i N : Nat) (a : Int), i + k = gn g → k < N → bst g ps x i a → ∃ v, f_People_heirAmongAllL N m (x : Int) a (i : Int) = some v ∧ bst g ps x (gn g) v
  | _, _, 0, _, _, h, _ => by omega
  | 0, i, N + 1, a, hk, _, hb => by
    have hn := V.n
    unfold f_People_heirAmongAllL
    rw [H.n, if_neg (by omega)]
    exact ⟨a, rfl, by rw [show gn g = i by omega]; exact hb⟩
  | k + 1, i, N + 1, a, hk, hN, hb => by
    have hn := V.n
    have hi : i < gn g := by omega
    unfold f_People_heirAmongAllL
    rw [H.n, if_pos (by omega), jw_s (by omega)]
    by_cases h1 : i = x
    · rw [if_pos (by omega)]
      exact P_allL V H hx k (i + 1) N a (by omega) (by omega) (bst_skip hb fun h => h.2.1 h1)
    · rw [if_neg (by omega), oix_n (by omega), Int.toNat_natCast, H.liv hi, V.al hi]
      by_cases h2 : gal g i = true
      · rw [if_pos h2, if_neg (by omega), P_ns V H hi hx, Option.bind_some]
        by_cases h3 : lc (gp g) i x = -1
        · rw [if_pos h3]
          exact P_allL V H hx k (i + 1) N a (by omega) (by omega) (bst_skip hb fun h => h.2.2.2 h3)
        · have he : elig (gp g) (gn g) (gal g) x i := ⟨hi, h1, h2, h3⟩
          rw [if_neg h3]
          rcases hb with ⟨e, h4⟩ | ⟨y, e, h0, h4, h5⟩
          · rw [if_pos e]
            refine P_allL V H hx k (i + 1) N _ (by omega) (by omega) (Or.inr ⟨i, rfl, by omega, he, fun z hz hze hne => ?_⟩)
            exact absurd hze (h4 z (by omega))
          · rw [if_neg (by omega), e]
            obtain ⟨v, e1, e2, e3⟩ := P_before V H hx hi h4.1 h3 h4.2.2.2
            rw [e1, Option.bind_some]
            rcases e2 with rfl | rfl
            · rw [if_pos rfl]
              have h6 : before (gp g) ps x y i := before_total H.o hi h4.1 (by omega) (fun h => by have := e3.mpr h; omega)
              refine P_allL V H hx k (i + 1) N _ (by omega) (by omega) (Or.inr ⟨y, rfl, by omega, h4, fun z hz hze hne => ?_⟩)
              by_cases hzi : z = i
              · rw [hzi]; exact h6
              · exact h5 z (by omega) hze hne
            · rw [if_neg (by omega)]
              have h6 := e3.mp rfl
              refine P_allL V H hx k (i + 1) N _ (by omega) (by omega) (Or.inr ⟨i, rfl, by omega, he, fun z hz hze hne => ?_⟩)
              by_cases hzy : z = y
              · rw [hzy]; exact h6
              · exact before_trans h6 (h5 z (by omega) hze hzy)
      · rw [if_neg h2, if_pos rfl]
        exact P_allL V H hx k (i + 1) N a (by omega) (by omega) (bst_skip hb fun h => h2 h.2.2.1)
theorem P_all (V : GP g) (H : RP 1 m g od ps) {x : Nat} (hx : x < gn g) : f_People_heirAmongAll m (x : Int) = some (hr (gp g) (gn g) od ps (gal g) x) := by
  have hn := V.n
  obtain ⟨v, e, h1⟩ := P_allL V H hx (gn g) 0 99999 (-1) (by omega) (by omega) (Or.inl ⟨rfl, fun z hz => by omega⟩)
  have e' : f_People_heirAmongAll m (x : Int) = some v := e
  rw [e']
  congr 1
  rcases hr_spec (al := gal g) V.f H.o hx with ⟨e2, h2⟩ | ⟨y, e2, h2, h3⟩
  · rw [e2]
    rcases h1 with ⟨e3, -⟩ | ⟨z, -, -, h4, -⟩
    · exact e3
    · exact absurd h4 (h2 z)
  · rw [e2]
    rcases h1 with ⟨-, h4⟩ | ⟨z, e3, h0, h4, h5⟩
    · exact absurd h2 (h4 y h2.1)
    · by_cases hzy : y = z
      · rw [e3, hzy]
      · exact (before_asymm (h3 z h4 (fun h => hzy h.symm)) (h5 y h2.1 h2 hzy)).elim
end People

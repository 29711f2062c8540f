/-! ===== the model's people ===== -/
section Model
variable {m : jMem} {g : Nat → Int} {od ps : Nat → Nat}
theorem jw2 {i : Nat} (h : i < 1000) (k : Nat) (hk : k < 1000) : jw (jw (6 + jw (2 * (i : Int))) + (k : Int)) = ((6 + 2 * i + k : Nat) : Int) := by
  rw [jw_id (z := 2 * (i : Int)) ⟨by omega, by omega⟩, jw_id (z := 6 + 2 * (i : Int)) ⟨by omega, by omega⟩, jw_id ⟨by omega, by omega⟩]
  omega
theorem M_person (V : GP g) (hg : m 148 = g) (x : Int) : f_Mod_isPerson m x = some (if 0 ≤ x ∧ x < g 0 then 1 else 0) := by
  have h1 := V.1
  have h2 := V.2.1
  unfold f_Mod_isPerson f_Mod_in
  rw [oix_i (by omega) (by omega), show (0 : Int).toNat = 0 from rfl, hg, jw_id ⟨by omega, by omega⟩]
  by_cases h3 : x < 0
  · rw [if_pos h3, if_neg (by omega)]
    rfl
  · rw [if_neg h3]
    by_cases h4 : x < g 0
    · rw [if_neg (by omega), if_pos ⟨by omega, h4⟩]
      rfl
    · rw [if_pos (by omega), if_neg (by omega)]
      rfl
theorem M_par (hg : m 148 = g) {i : Nat} (hi : i < 16) : f_Mod_parent m (i : Int) = some (gp g i) := by
  unfold f_Mod_parent
  have h := jw2 (i := i) (by omega) 0 (by omega)
  have h' : jw (jw (6 + jw (2 * (i : Int))) + 0) = ((6 + 2 * i : Nat) : Int) := h
  rw [h', oix_n (by omega), Int.toNat_natCast, hg, gp_e (g := g) hi]
theorem M_liv (V : GP g) (hg : m 148 = g) {i : Nat} (hi : i < gn g) : f_Mod_lives m (i : Int) = some (ga g i) := by
  have hn := V.n
  unfold f_Mod_lives
  have h := jw2 (i := i) (by omega) 1 (by omega)
  have h' : jw (jw (6 + jw (2 * (i : Int))) + 1) = ((7 + 2 * i : Nat) : Int) := by
    refine h.trans ?_
    omega
  rw [h', oix_n (by omega), Int.toNat_natCast, hg, ga_e (g := g) (i := i) (by omega)]
  rcases V.2.2.2 i hi with h | h <;> rw [h] <;> rfl
theorem M_cbL (V : GP g) (hg : m 148 = g) (p : Int) : ∀ (k i N : Nat), i + k = gn g → k < N → f_Mod_childBehindL N m p (i : Int) = some (cbF (gp g) p k i)
  | _, _, 0, _, h => by omega
  | 0, i, N + 1, hk, _ => by
    have hn := V.n
    unfold f_Mod_childBehindL
    rw [oix_i (by omega) (by omega), show (0 : Int).toNat = 0 from rfl, hg, if_neg (by omega)]
    rfl
  | k + 1, i, N + 1, hk, hN => by
    have hn := V.n
    unfold f_Mod_childBehindL cbF
    rw [oix_i (by omega) (by omega), show (0 : Int).toNat = 0 from rfl, hg, if_pos (by omega), M_par hg (by omega), Option.bind_some]
    by_cases h : gp g i = p
    · rw [if_pos h, if_pos h]
    · rw [if_neg h, if_neg h, jw_s (by omega)]
      exact M_cbL V hg p k (i + 1) N (by omega) (by omega)
theorem M_cb (V : GP g) (hg : m 148 = g) (p : Int) {i : Nat} (hi : i < gn g) : f_Mod_childBehind m p (i : Int) = some (cb (gp g) (gn g) p i) := by
  have hn := V.n
  unfold f_Mod_childBehind
  rw [jw_s (by omega)]
  exact M_cbL V hg p (gn g - (i + 1)) (i + 1) 99999 (by omega) (by omega)
theorem M_flL (V : GP g) (hg : m 148 = g) {r : Nat} : ∀ (k N p : Nat), p < gn g → AB (gp g) r p → p < k → k ≤ N → f_Mod_followerL N m (r : Int) (p : Int) = some (flF (gp g) (gn g) r k p)
  | 0, _, _, _, _, h, _ => by omega
  | k + 1, 0, _, _, _, _, h => by omega
  | k + 1, N + 1, p, hp, hA, hk, hN => by
    have hn := V.n
    unfold f_Mod_followerL flF
    by_cases h : p = r
    · rw [if_pos (by omega), if_pos h]
    · obtain ⟨h1, h2⟩ := AB_ne V.f hp hA (fun e => h e.symm)
      have h3 := V.f.lt hp h1
      obtain ⟨u, hu⟩ := Int.eq_ofNat_of_zero_le h1
      rw [if_neg (by omega), if_neg h, M_par hg (by omega), Option.bind_some, M_cb V hg _ hp, Option.bind_some]
      by_cases h4 : cb (gp g) (gn g) (gp g p) p < 0
      · rw [if_pos h4, if_pos h4, Option.bind_some, hu]
        rw [hu] at h2 h3
        exact M_flL V hg k N u (by omega) h2 (by omega) (by omega)
      · rw [if_neg h4, if_neg h4]
theorem M_fol (V : GP g) (hg : m 148 = g) {r i : Nat} (hi : i < gn g) (hA : AB (gp g) r i) : f_Mod_follower m (i : Int) (r : Int) = some (fol (gp g) (gn g) i r) := by
  have hn := V.n
  unfold f_Mod_follower fol
  rw [M_cb V hg _ hi, Option.bind_some]
  by_cases h : cb (gp g) (gn g) (i : Int) i < 0
  · rw [if_pos h, if_pos h]
    have := M_flL V hg (i + 1) 99999 i hi hA (by omega) (by omega)
    exact this
  · rw [if_neg h, if_neg h]
/-- who stands at a place of a branch, or nobody behind its end -/
def atq (od : Nat → Nat) (q e : Nat) : Int := if q < e then ((od q : Nat) : Int) else -1
theorem M_firstL (V : GP g) (hg : m 148 = g) (H : OD (gp g) (gn g) od ps) {r : Nat} (hr : r < gn g) (x : Int) : ∀ (k q N : Nat), en (gp g) (gn g) od ps r - q = k → ps r ≤ q → k < N → f_Mod_firstLivingL N m (r : Int) x (atq od q (en (gp g) (gn g) od ps r)) = some (sc od (okb g x) q (en (gp g) (gn g) od ps r))
  | _, _, 0, _, _, h => by omega
  | 0, q, N + 1, hk, _, _ => by
    unfold f_Mod_firstLivingL atq
    rw [if_neg (show ¬ q < en (gp g) (gn g) od ps r by omega), if_pos (show (-1 : Int) < 0 by omega), sc_end (by omega)]
  | k + 1, q, N + 1, hk, hq, hN => by
    have hn := V.n
    obtain ⟨e1, e2, e3, e4⟩ := en_spec V.f H hr
    have h1 := H.1 q (by omega)
    have hA := e3 q hq (by omega)
    have hf := fol_next V.f H (q := q) (r := r) (by omega) hr hA
    have ih := M_firstL V hg H hr x k (q + 1) N (by omega) (by omega) (by omega)
    unfold atq at ih
    unfold f_Mod_firstLivingL atq
    rw [if_pos (by omega : q < en (gp g) (gn g) od ps r), if_neg (by omega), M_liv V hg h1.1, Option.bind_some, V.al h1.1, M_fol V hg h1.1 hA, Option.bind_some, hf]
    by_cases h3 : gal g (od q) = true
    · rw [if_pos h3, if_neg (by omega)]
      by_cases h4 : ((od q : Nat) : Int) = x
      · rw [if_pos h4, ih, sc_miss (q := q) (by omega) (by unfold okb; rw [decide_eq_true h4]; simp)]
      · rw [if_neg h4, sc_hit (by omega) (by unfold okb; rw [h3, decide_eq_false h4]; rfl)]
    · rw [if_neg h3, if_pos rfl, ih, sc_miss (q := q) (by omega) (by unfold okb; rw [Bool.eq_false_iff.mpr h3]; simp)]
theorem M_first (V : GP g) (hg : m 148 = g) (H : OD (gp g) (gn g) od ps) {r : Nat} (hr : r < gn g) (x : Int) : f_Mod_firstLiving m (r : Int) x = some (fb (gp g) (gn g) od ps (okb g x) r) := by
  have hn := V.n
  have h1 := H.2.1 r hr
  have h2 := en_spec V.f H hr
  have hf := fol_next V.f H (q := ps r) (r := r) (by omega) hr (by rw [h1.2]; exact AB_refl _ _)
  rw [h1.2] at hf
  unfold f_Mod_firstLiving
  rw [M_fol V hg hr (AB_refl _ _), Option.bind_some, hf]
  exact M_firstL V hg H hr x _ (ps r + 1) 99999 rfl (by omega) (by omega)
theorem M_heirL (V : GP g) (hg : m 148 = g) (H : OD (gp g) (gn g) od ps) {x : Nat} : ∀ (k N : Nat) (found p : Int), okx (gn g) found → okx (gn g) p → muX (gp g) p < k → k ≤ N → f_Mod_heirL N m (x : Int) found p = some (hrF (gp g) (gn g) od ps (gal g) x k found p)
  | 0, _, _, _, _, _, h, _ => by omega
  | k + 1, 0, _, _, _, _, _, h => by omega
  | k + 1, N + 1, found, p, hf, hp, hmu, hN => by
    have hn := V.n
    unfold f_Mod_heirL hrF
    rcases hf.cases with rfl | ⟨y, rfl, hy⟩
    · rw [if_pos (by omega)]
      rcases hp.cases with rfl | ⟨q, rfl, hq⟩
      · rw [if_pos (by omega), if_pos (Or.inr (by omega))]
      · rw [if_neg (by omega), if_neg (by omega), M_liv V hg hq, Option.bind_some, V.al hq, Int.toNat_natCast]
        have hmq := muX_p V.f hq
        by_cases h1 : gal g q = true
        · rw [if_pos h1, if_neg (by omega), if_pos h1, M_par hg (by omega), Option.bind_some]
          exact M_heirL V hg H k N (q : Int) (gp g q) (Or.inr ⟨by omega, by omega⟩) (okx_par V.f hq) (by omega) (by omega)
        · rw [if_neg h1, if_pos rfl, if_neg h1, M_first V hg H hq, Option.bind_some, M_par hg (by omega), Option.bind_some, ← okb_eq]
          exact M_heirL V hg H k N _ (gp g q) (fb_lt V.f H _ hq) (okx_par V.f hq) (by omega) (by omega)
    · rw [if_neg (by omega), if_pos (Or.inl (by omega))]
theorem M_heir (V : GP g) (hg : m 148 = g) (H : OD (gp g) (gn g) od ps) {x : Nat} (hx : x < gn g) : f_Mod_heir m (x : Int) = some (hr (gp g) (gn g) od ps (gal g) x) := by
  have hn := V.n
  unfold f_Mod_heir hr
  rw [M_first V hg H hx, Option.bind_some, M_par hg (by omega), Option.bind_some, ← okb_eq]
  have h1 := muX_par V hx
  have h3 := okx_par V.f hx
  refine (M_heirL V hg H (x := x) 17 99999 _ _ (fb_lt V.f H (okb g (x : Int)) hx) h3 (by omega) (by omega)).trans ?_
  have h4 : muX (gp g) (gp g x) ≤ x := by
    rcases h3.cases with e | ⟨q, e, hq⟩
    · rw [e]
      exact Nat.zero_le _
    · have h5 := V.f.lt hx (by omega)
      have h6 := dp_le V.f q hq
      rw [e] at h5 ⊢
      unfold muX
      rw [if_neg (by omega)]
      rw [Int.toNat_natCast] at h5 ⊢
      omega
  rw [hrF_more _ _ _ _ _ _ V.f 17 (gn g + 1) _ _ h3 (by omega) (by omega)]
theorem M_depL (V : GP g) (hg : m 148 = g) : ∀ (k N c : Nat) (x : Int), okx (gn g) x → muX (gp g) x ≤ k → k < N → c + k < 1000 → f_Mod_depthL N m (c : Int) x = some ((c + muX (gp g) x : Nat) : Int)
  | _, 0, _, _, _, _, h, _ => by omega
  | k, N + 1, c, x, hx, hmu, hN, hc => by
    have hn := V.n
    unfold f_Mod_depthL
    rcases hx.cases with rfl | ⟨i, rfl, hi⟩
    · rw [if_pos (by omega)]
      rfl
    · have h1 := muX_p V.f hi
      rw [if_neg (by omega), M_par hg (by omega), Option.bind_some, jw_s (by omega)]
      cases k with
      | zero => omega
      | succ k =>
        rw [M_depL V hg k N (c + 1) (gp g i) (okx_par V.f hi) (by omega) (by omega) (by omega)]
        congr 2
        omega
theorem M_dep (V : GP g) (hg : m 148 = g) {i : Nat} (hi : i < gn g) : f_Mod_depth m (i : Int) = some ((dp (gp g) i : Nat) : Int) := by
  have hn := V.n
  have h1 := muX_par V hi
  have h2 := muX_p V.f hi
  unfold f_Mod_depth
  rw [M_par hg (by omega), Option.bind_some]
  refine (M_depL V hg 16 99999 0 (gp g i) (okx_par V.f hi) (by omega) (by omega) (by omega)).trans ?_
  congr 2
  unfold muX at h2
  rw [if_neg (by omega), Int.toNat_natCast] at h2
  unfold muX
  omega
theorem M_abL (V : GP g) (hg : m 148 = g) {a : Nat} : ∀ (k N : Nat) (x : Int), okx (gn g) x → muX (gp g) x ≤ k → k < N → f_Mod_isAboveL N m (a : Int) x = some (if 0 ≤ x ∧ abF (gp g) a (x.toNat + 1) x.toNat = true then 1 else 0)
  | _, 0, _, _, _, h => by omega
  | k, N + 1, x, hx, hmu, hN => by
    have hn := V.n
    unfold f_Mod_isAboveL
    rcases hx.cases with rfl | ⟨i, rfl, hi⟩
    · rw [if_pos (by omega), if_pos (by omega), if_neg (by omega)]
    · have h1 := muX_p V.f hi
      rw [if_neg (by omega)]
      by_cases h2 : i = a
      · rw [if_pos (by omega), if_neg (by omega), if_pos ⟨by omega, by rw [Int.toNat_natCast, h2]; exact AB_refl _ _⟩]
      · rw [if_neg (by omega), M_par hg (by omega), Option.bind_some]
        cases k with
        | zero => omega
        | succ k =>
          rw [M_abL V hg k N (gp g i) (okx_par V.f hi) (by omega) (by omega), Int.toNat_natCast]
          congr 1
          by_cases h3 : 0 ≤ gp g i ∧ abF (gp g) a ((gp g i).toNat + 1) (gp g i).toNat = true
          · rw [if_pos h3, if_pos ⟨by omega, AB_up V.f hi h3.1 h3.2⟩]
          · rw [if_neg h3, if_neg (fun h4 => h3 (AB_ne V.f hi h4.2 (fun e => h2 e.symm)))]
theorem M_above (V : GP g) (hg : m 148 = g) {a i : Nat} (hi : i < gn g) : f_Mod_isAbove m (a : Int) (i : Int) = some (if abF (gp g) a (i + 1) i = true ∧ a ≠ i then 1 else 0) := by
  have hn := V.n
  have h1 := muX_par V hi
  unfold f_Mod_isAbove
  rw [M_par hg (by omega), Option.bind_some]
  refine (M_abL V hg 16 99999 (gp g i) (okx_par V.f hi) (by omega) (by omega)).trans ?_
  congr 1
  by_cases h3 : abF (gp g) a (i + 1) i = true ∧ a ≠ i
  · have h9 : 0 ≤ gp g i ∧ abF (gp g) a ((gp g i).toNat + 1) (gp g i).toNat = true := AB_ne V.f hi h3.1 h3.2
    rw [if_pos h3, if_pos h9]
  · rw [if_neg h3, if_neg (fun h4 => h3 ⟨AB_up V.f hi h4.1 h4.2, fun e => by
      subst e
      have h5 := AB_le V.f _ (by have := V.f.lt hi h4.1; omega) h4.2
      have h6 := V.f.lt hi h4.1
      omega⟩)]
theorem M_comL (V : GP g) (hg : m 148 = g) {j : Nat} (hj : j < gn g) : ∀ (k N i : Nat), i < gn g → i < k → k < N → f_Mod_commonL N m (j : Int) (i : Int) = some (lcF (gp g) j k i)
  | 0, _, _, _, h, _ => by omega
  | k + 1, 0, _, _, _, h => by omega
  | k + 1, N + 1, i, hi, hk, hN => by
    have hn := V.n
    unfold f_Mod_commonL lcF
    rw [if_neg (by omega)]
    by_cases h1 : i = j
    · have hab : abF (gp g) i (j + 1) j = true := by rw [h1]; exact AB_refl _ _
      rw [if_pos (by omega), if_pos hab]
    · rw [if_neg (by omega), M_above V hg hj, Option.bind_some]
      by_cases h2 : AB (gp g) i j
      · have hab : abF (gp g) i (j + 1) j = true := h2
        have hv : (if abF (gp g) i (j + 1) j = true ∧ i ≠ j then (1 : Int) else 0) = 1 := if_pos ⟨h2, h1⟩
        rw [hv, if_neg (by omega), if_pos hab]
      · have hab : ¬ abF (gp g) i (j + 1) j = true := h2
        have hv : (if abF (gp g) i (j + 1) j = true ∧ i ≠ j then (1 : Int) else 0) = 0 := if_neg (fun h => h2 h.1)
        rw [hv, if_pos rfl, M_par hg (by omega), Option.bind_some, if_neg hab]
        by_cases h3 : gp g i < 0
        · rw [if_pos h3]
          cases N with
          | zero => omega
          | succ N =>
            unfold f_Mod_commonL
            rw [if_pos h3]
            rcases V.f i hi with h4 | h4
            · rw [h4]
            · omega
        · rw [if_neg h3]
          have h4 := V.f.lt hi (by omega)
          obtain ⟨u, hu⟩ := Int.eq_ofNat_of_zero_le (show 0 ≤ gp g i by omega)
          rw [hu] at h4 ⊢
          exact M_comL V hg hj k N u (by omega) (by rw [Int.toNat_natCast] at h4; omega) (by omega)
theorem M_com (V : GP g) (hg : m 148 = g) {i j : Nat} (hi : i < gn g) (hj : j < gn g) : f_Mod_common m (i : Int) (j : Int) = some (lc (gp g) i j) := by
  have hn := V.n
  unfold f_Mod_common lc
  have h1 := M_comL V hg hj (i + 1) 99999 i hi (by omega) (by omega)
  exact h1
theorem M_apart (V : GP g) (hg : m 148 = g) {i j : Nat} (hi : i < gn g) (hj : j < gn g) : f_Mod_apart m (i : Int) (j : Int) = some (apt (gp g) i j) := by
  have h1 := V.dp_lt hi
  have h2 := V.dp_lt hj
  unfold f_Mod_apart apt
  rw [M_com V hg hi hj, Option.bind_some]
  rcases lc_spec V.f (b := j) i hi with ⟨e, -⟩ | ⟨c, e, a1, a2, -⟩
  · rw [e, if_pos (by omega), if_pos rfl]
  · have hc : c < gn g := by have := AB_le V.f i hi a1; omega
    have h3 := (AB_dp V.f i hi a1).1
    have h4 := (AB_dp V.f j hj a2).1
    rw [e, if_neg (by omega), if_neg (by omega), M_dep V hg hi, Option.bind_some, M_dep V hg hj, Option.bind_some, Option.bind_some, M_dep V hg hc, Option.bind_some, Int.toNat_natCast, jw_id (z := (dp (gp g) i : Int) + dp (gp g) j) ⟨by omega, by omega⟩, jw_id (z := 2 * (dp (gp g) c : Int)) ⟨by omega, by omega⟩, jw_id ⟨by omega, by omega⟩]
theorem sp1 (N : Nat) (m : jMem) (a1 a2 a3 a4 : Int) : f_Mod_successionPositionL (N + 1) 1 m a1 a2 a3 a4 = if a4 = a1 then some (a3, m) else (f_Mod_follower m a4 a2).bind fun x4 => f_Mod_successionPositionL N 1 m a1 a2 (jw (a3 + 1)) x4 := rfl
theorem sp0 (N : Nat) (m : jMem) (a1 a2 a3 a4 : Int) : f_Mod_successionPositionL (N + 1) 0 m a1 a2 a3 a4 = (f_Mod_parent m a2).bind fun x2 => if x2 < 0 then f_Mod_successionPositionL N 1 m a1 a2 0 a2 else (f_Mod_parent m a2).bind fun x3 => f_Mod_successionPositionL N 0 m a1 x3 0 0 := rfl
theorem M_posL1 (V : GP g) (hg : m 148 = g) (H : OD (gp g) (gn g) od ps) {x : Nat} (hx : x < gn g) : ∀ (k q N c : Nat), q + k = ps x → ps (rt (gp g) x) ≤ q → k < N → c + k < 1000 → f_Mod_successionPositionL N 1 m (x : Int) ((rt (gp g) x : Nat) : Int) (c : Int) ((od q : Nat) : Int) = some (((c + k : Nat) : Int), m)
  | _, _, 0, _, _, _, h, _ => by omega
  | 0, q, N + 1, c, hq, _, _, _ => by
    have h1 := H.2.1 x hx
    rw [sp1, if_pos (by rw [show q = ps x by omega, h1.2])]
    rfl
  | k + 1, q, N + 1, c, hq, hr, hN, hc => by
    have hn := V.n
    have h1 := H.2.1 x hx
    obtain ⟨r1, r2⟩ := rt_spec V.f x hx
    have hrl := AB_le V.f x hx r1
    have h2 := H.1 q (by omega)
    have h3 := (en_iff V.f H (show rt (gp g) x < gn g by omega) hx).mp r1
    have hA : AB (gp g) (rt (gp g) x) (od q) := (en_iff V.f H (by omega) h2.1).mpr (by rw [h2.2]; exact ⟨hr, by omega⟩)
    rw [sp1, if_neg (fun e => by
      have e' : od q = x := by omega
      rw [← e', h2.2] at hq
      omega), M_fol V hg h2.1 hA, Option.bind_some, fol_next V.f H (by omega) (by omega) hA, if_pos (by omega), jw_s (by omega), M_posL1 V hg H hx k (q + 1) N (c + 1) (by omega) (by omega) (by omega) (by omega)]
    congr 3
    omega
theorem M_posL0 (V : GP g) (hg : m 148 = g) (H : OD (gp g) (gn g) od ps) {x : Nat} (hx : x < gn g) : ∀ (k N y : Nat), y < gn g → y < k → k + 100 < N → rt (gp g) y = rt (gp g) x → f_Mod_successionPositionL N 0 m (x : Int) (y : Int) 0 0 = some ((ps x : Int) - ps (rt (gp g) x), m)
  | 0, _, _, _, h, _, _ => by omega
  | k + 1, 0, _, _, _, h, _ => by omega
  | k + 1, N + 1, y, hy, hk, hN, hr => by
    have hn := V.n
    have h1 := H.2.1 x hx
    obtain ⟨r1, r2⟩ := rt_spec V.f x hx
    have hrl := AB_le V.f x hx r1
    have h3 := (en_iff V.f H (show rt (gp g) x < gn g by omega) hx).mp r1
    rw [sp0, M_par hg (by omega), Option.bind_some]
    by_cases h2 : gp g y < 0
    · rw [if_pos h2]
      have e : y = rt (gp g) x := by rw [← hr, rt_neg h2]
      have hr1 := H.2.1 (rt (gp g) x) (by omega)
      have h4 := M_posL1 V hg H hx (ps x - ps (rt (gp g) x)) (ps (rt (gp g) x)) N 0 (by omega) (by omega) (by omega) (by omega)
      rw [hr1.2] at h4
      rw [e]
      refine h4.trans ?_
      congr 2
      omega
    · rw [if_neg h2, Option.bind_some]
      have h4 := V.f.lt hy (by omega)
      have h5 := rt_pos V.f hy (by omega)
      obtain ⟨u, hu⟩ := Int.eq_ofNat_of_zero_le (show 0 ≤ gp g y by omega)
      rw [hu] at h4 h5 ⊢
      rw [Int.toNat_natCast] at h4 h5
      exact M_posL0 V hg H hx k N u (by omega) (by omega) (by omega) (by rw [← h5, hr])
theorem M_pos (V : GP g) (hg : m 148 = g) (H : OD (gp g) (gn g) od ps) {x : Nat} (hx : x < gn g) : f_Mod_successionPositionL 99999 0 m (x : Int) (x : Int) 0 0 = some ((ps x : Int) - ps (rt (gp g) x), m) := by
  have hn := V.n
  exact M_posL0 V hg H hx (x + 1) 99999 x hx (by omega) (by omega) rfl
end Model

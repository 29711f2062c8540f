/-! ===== sums by people, ranks of people; the model's habits ===== -/
def ahd (g : Nat → Int) (x y : Nat) : Bool := decide (hsm g (y : Int) < hsm g (x : Int)) || (decide (hsm g (x : Int) = hsm g (y : Int)) && (decide (dp (gp g) x < dp (gp g) y) || (decide (dp (gp g) x = dp (gp g) y) && Nat.blt x y)))
def pbf (g : Nat → Int) (x : Nat) (y : Nat) : Bool := gal g y && ahd g y x
def prk (g : Nat → Int) (x : Nat) : Nat := cntF idn (pbf g x) (gn g) 0
theorem fnt : ¬ (false = true) := by decide
section Both
variable {m : jMem} {g : Nat → Int} {od ps : Nat → Nat}
theorem sum_people (V : GP g) (W : GH g) : suF (fun i => hsm g (i : Int)) (gn g) 0 = sumN (hsN g) (hN g) := by
  rw [suF_0]
  have h1 : sumN (fun i => hsm g (i : Int)) (gn g) = sumN (fun i => sumN (fun k => if hh g k = (i : Int) then hsN g k else 0) (hN g)) (gn g) := sumN_congr _ fun i _ => suF_0 _ _
  rw [h1, sumN_swap]
  refine sumN_congr _ fun k hk => ?_
  have B := W.hb hk
  rcases B.h.cases with e | ⟨x, e, hx⟩
  · have h2 : sumN (fun i => if hh g k = ((i : Nat) : Int) then hsN g k else 0) (gn g) = sumN (fun _ => 0) (gn g) := sumN_congr _ fun i _ => if_neg (by omega)
    have h3 := B.s
    have h4 := B.sN
    rw [h2, sumN_zero]
    omega
  · have h2 : sumN (fun i => if hh g k = ((i : Nat) : Int) then hsN g k else 0) (gn g) = sumN (fun i => if i = x then hsN g k else 0) (gn g) := sumN_congr _ fun i _ => by
      by_cases h3 : i = x
      · rw [if_pos h3, if_pos (by omega)]
      · rw [if_neg h3, if_neg (by omega)]
    rw [h2, sumN_one, if_pos hx]
theorem P_sbpL (V : GP g) (H : RP 1 m g od ps) (W : GH g) (R : RH 1 m g) : ∀ (j k N c : Nat), k + j = gn g → j < N → c + 180 * j < 10000 → f_State_sumByPeopleL N m (c : Int) (k : Int) = some ((c + suF (fun i => hsm g (i : Int)) j k : Nat) : Int)
  | _, _, 0, _, _, h, _ => by omega
  | 0, k, N + 1, c, hk, _, _ => by
    have hn := V.n
    unfold f_State_sumByPeopleL
    rw [H.n, if_neg (by omega)]
    rfl
  | j + 1, k, N + 1, c, hkk, hNN, hc => by
    have hn := V.n
    have h9 := hsm_le W (k : Int)
    unfold f_State_sumByPeopleL suF
    rw [H.n, if_pos (by omega), H_sum W R, Option.bind_some, jw_s (by omega), jw_e (y := ((c + hsm g (k : Int) : Nat) : Int)) (by omega) (by omega) (by omega), P_sbpL V H W R j (k + 1) N (c + hsm g (k : Int)) (by omega) (by omega) (by omega), Nat.add_assoc]
theorem P_sbp (V : GP g) (H : RP 1 m g od ps) (W : GH g) (R : RH 1 m g) : f_State_sumByPeople m = some ((sumN (hsN g) (hN g) : Nat) : Int) := by
  have hn := V.n
  have h := P_sbpL V H W R (gn g) 0 99999 0 (by omega) (by omega) (by omega)
  rw [Nat.zero_add, sum_people V W] at h
  exact h
/-- the comparison's answer -/
theorem ahd_if (g : Nat → Int) (x y : Nat) (hx : hsm g (x : Int) ≤ 180) (hy : hsm g (y : Int) ≤ 180) (dx : dp (gp g) x < 16) (dy : dp (gp g) y < 16) : (if jw (((hsm g (x : Int) : Nat) : Int) - ((hsm g (y : Int) : Nat) : Int)) = 0 then (if jw (((dp (gp g) x : Nat) : Int) - ((dp (gp g) y : Nat) : Int)) < 0 then some (1 : Int) else if jw (((dp (gp g) x : Nat) : Int) - ((dp (gp g) y : Nat) : Int)) = 0 then (if (x : Int) < (y : Int) then some 1 else some 0) else some 0) else if 0 < jw (((hsm g (x : Int) : Nat) : Int) - ((hsm g (y : Int) : Nat) : Int)) then some 1 else some 0) = some (if ahd g x y = true then 1 else 0) := by
  rw [jw_id ⟨by omega, by omega⟩, jw_id ⟨by omega, by omega⟩]
  unfold ahd
  by_cases h1 : hsm g (x : Int) = hsm g (y : Int)
  · rw [if_pos (by omega), decide_eq_false (show ¬ hsm g (y : Int) < hsm g (x : Int) by omega), decide_eq_true h1, Bool.false_or, Bool.true_and]
    by_cases h2 : dp (gp g) x < dp (gp g) y
    · rw [if_pos (by omega), decide_eq_true h2, Bool.true_or, if_pos rfl]
    · rw [if_neg (by omega), decide_eq_false h2, Bool.false_or]
      by_cases h3 : dp (gp g) x = dp (gp g) y
      · rw [if_pos (by omega), decide_eq_true h3, Bool.true_and]
        by_cases h4 : x < y
        · rw [if_pos (by omega), if_pos (Nat.blt_eq.mpr h4)]
        · rw [if_neg (by omega), if_neg (fun h => h4 (Nat.blt_eq.mp h))]
      · rw [if_neg (by omega), decide_eq_false h3, Bool.false_and, if_neg (by decide)]
  · rw [if_neg (by omega), decide_eq_false h1, Bool.false_and, Bool.or_false]
    by_cases h2 : hsm g (y : Int) < hsm g (x : Int)
    · rw [if_pos (by omega), decide_eq_true h2, if_pos rfl]
    · rw [if_neg (by omega), decide_eq_false h2, if_neg (by decide)]
theorem P_ahead (V : GP g) (H : RP 1 m g od ps) (W : GH g) (R : RH 1 m g) {x y : Nat} (hx : x < gn g) (hy : y < gn g) : f_State_isAhead m (x : Int) (y : Int) = some (if ahd g x y = true then 1 else 0) := by
  unfold f_State_isAhead
  rw [H_sum W R, Option.bind_some, H_sum W R, Option.bind_some, P_dep V H hx, Option.bind_some, P_dep V H hy, Option.bind_some]
  exact ahd_if g x y (hsm_le W _) (hsm_le W _) (V.dp_lt hx) (V.dp_lt hy)
theorem P_rankL (V : GP g) (H : RP 1 m g od ps) (W : GH g) (R : RH 1 m g) {x : Nat} (hx : x < gn g) : ∀ (j k N c : Nat), k + j = gn g → j < N → c + j < 10000 → f_State_rankL N m (x : Int) (c : Int) (k : Int) = some ((c + cntF idn (pbf g x) j k : Nat) : Int)
  | _, _, 0, _, _, h, _ => by omega
  | 0, k, N + 1, c, hk, _, _ => by
    have hn := V.n
    unfold f_State_rankL
    rw [H.n, if_neg (by omega)]
    rfl
  | j + 1, k, N + 1, c, hkk, hNN, hc => by
    have hn := V.n
    unfold f_State_rankL cntF
    have ih1 := P_rankL V H W R hx j (k + 1) N (c + 1) (by omega) (by omega) (by omega)
    have ih0 := P_rankL V H W R hx j (k + 1) N c (by omega) (by omega) (by omega)
    rw [H.n, if_pos (by omega), P_liv V H (by omega), Option.bind_some, V.al (by omega), jw_s (by omega), P_ahead V H W R (by omega) hx, Option.bind_some, ih0]
    show _ = some ((c + ((if (gal g k && ahd g k x) = true then 1 else 0) + _) : Nat) : Int)
    by_cases h1 : gal g k = true
    · rw [if_pos h1, if_neg (by omega), h1, Bool.true_and]
      by_cases h2 : ahd g k x = true
      · rw [if_pos h2, if_neg (by omega), if_pos h2, jw_s (by omega), ih1, Nat.add_assoc]
      · rw [if_neg h2, if_pos rfl, if_neg h2, Nat.zero_add]
    · rw [if_neg h1, if_pos rfl, Bool.eq_false_iff.mpr h1, Bool.false_and, if_neg fnt, Nat.zero_add]
theorem P_rank (V : GP g) (H : RP 1 m g od ps) (W : GH g) (R : RH 1 m g) {x : Nat} (hx : x < gn g) : f_State_rank m (x : Int) = some ((prk g x : Nat) : Int) := by
  have hn := V.n
  have h := P_rankL V H W R hx (gn g) 0 99999 0 (by omega) (by omega) (by omega)
  rw [Nat.zero_add] at h
  exact h
theorem P_rkdL (V : GP g) (H : RP 1 m g od ps) (W : GH g) (R : RH 1 m g) (a : Int) : ∀ (j k N : Nat), k + j = gn g → j < N → f_State_rankedPersonL N m a (k : Int) = some (rkF (gal g) (prk g) a j k)
  | _, _, 0, _, h => by omega
  | 0, k, N + 1, hk, _ => by
    have hn := V.n
    unfold f_State_rankedPersonL
    rw [H.n, if_neg (by omega)]
    rfl
  | j + 1, k, N + 1, hkk, hNN => by
    have hn := V.n
    unfold f_State_rankedPersonL rkF
    rw [H.n, if_pos (by omega), P_liv V H (by omega), Option.bind_some, V.al (by omega), jw_s (by omega), P_rank V H W R (by omega), Option.bind_some, P_rkdL V H W R a j (k + 1) N (by omega) (by omega)]
    by_cases h1 : gal g k = true
    · rw [if_pos h1, if_neg (by omega), if_pos h1]
      by_cases h2 : ((prk g k : Nat) : Int) = a
      · rw [if_pos h2, if_pos h2]
      · rw [if_neg h2, if_neg h2]
    · rw [if_neg h1, if_pos rfl, if_neg h1]
theorem P_rkd (V : GP g) (H : RP 1 m g od ps) (W : GH g) (R : RH 1 m g) (a : Int) : f_State_rankedPerson m a = some (rkF (gal g) (prk g) a (gn g) 0) := by
  have hn := V.n
  exact P_rkdL V H W R a (gn g) 0 99999 (by omega) (by omega)
theorem P_hlL (V : GP g) (H : RP 1 m g od ps) (W : GH g) (R : RH 1 m g) (L : GL g) : ∀ (j k N : Nat), k + j = hN g → j < N → f_State_holdersLiveL N m (k : Int) = some 1
  | _, _, 0, _, h => by omega
  | 0, k, N + 1, hk, _ => by
    have hn := W.n
    unfold f_State_holdersLiveL
    rw [R.n, if_neg (by omega)]
  | j + 1, k, N + 1, hkk, hNN => by
    have hn := W.n
    have ih := P_hlL V H W R L j (k + 1) N (by omega) (by omega)
    unfold f_State_holdersLiveL
    rw [R.n, if_pos (by omega), H_held W R (by omega), Option.bind_some, jw_s (by omega), ih]
    by_cases h1 : 0 ≤ hh g k
    · rw [if_pos h1, if_neg (by omega), H_hold W R (by omega), Option.bind_some]
      have h2 := L k (by omega) h1
      rcases (W.hb (show k < hN g by omega)).h.cases with e | ⟨x, e, hx⟩
      · omega
      · rw [e] at h2 ⊢
        rw [Int.toNat_natCast] at h2
        rw [P_liv V H hx, Option.bind_some, V.al hx, if_pos h2, if_neg (by omega)]
    · rw [if_neg h1, if_pos rfl]
theorem P_hl (V : GP g) (H : RP 1 m g od ps) (W : GH g) (R : RH 1 m g) (L : GL g) : f_State_holdersLive m = some 1 := by
  have hn := W.n
  exact P_hlL V H W R L (hN g) 0 99999 (by omega) (by omega)
theorem hf_self (W : GH g) {k : Nat} (h : k < hN g) (h0 : 0 ≤ hh g k) : hf g (hh g k) (hk g k) = (k : Int) := by
  rcases hf_spec g (hh g k) (hk g k) with ⟨-, h1⟩ | ⟨l, e, h1, h2, h3⟩
  · exact absurd rfl (h1 k h rfl)
  · rw [e, W.2.2.1 k l h h1 h0 h2.symm h3.symm]
theorem P_ksL (W : GH g) (R : RH 1 m g) : ∀ (j k N : Nat), k + j = hN g → j < N → f_State_kindsAreSingleL N m (k : Int) = some 1
  | _, _, 0, _, h => by omega
  | 0, k, N + 1, hk, _ => by
    have hn := W.n
    unfold f_State_kindsAreSingleL
    rw [R.n, if_neg (by omega)]
  | j + 1, k, N + 1, hkk, hNN => by
    have hn := W.n
    have ih := P_ksL W R j (k + 1) N (by omega) (by omega)
    unfold f_State_kindsAreSingleL
    rw [R.n, if_pos (by omega), H_held W R (by omega), Option.bind_some, jw_s (by omega), ih]
    by_cases h1 : 0 ≤ hh g k
    · rw [if_pos h1, if_neg (by omega), H_hold W R (by omega), Option.bind_some, H_kind W R (by omega), Option.bind_some, H_find W R h1 (W.hb (show k < hN g by omega)).2, Option.bind_some, hf_self W (by omega) h1, if_pos rfl]
    · rw [if_neg h1, if_pos rfl]
theorem P_ks (W : GH g) (R : RH 1 m g) : f_State_kindsAreSingle m = some 1 := by
  have hn := W.n
  exact P_ksL W R (hN g) 0 99999 (by omega) (by omega)
theorem jw5 {i : Nat} (h : i < 1000) (k : Nat) (hk : k < 1000) : jw (jw (38 + jw (5 * (i : Int))) + (k : Int)) = ((38 + 5 * i + k : Nat) : Int) := by
  rw [jw_id (z := 5 * (i : Int)) ⟨by omega, by omega⟩, jw_id (z := 38 + 5 * (i : Int)) ⟨by omega, by omega⟩, jw_id ⟨by omega, by omega⟩]
  omega
theorem M_of (hg : m 148 = g) {k : Nat} (h : k < 20) (j : Nat) (hj : j < 5) : f_Mod_of m (k : Int) (j : Int) = some (g (38 + 5 * k + j)) := by
  unfold f_Mod_of
  rw [jw5 (by omega) j (by omega), oix_n (by omega), Int.toNat_natCast, hg]
theorem M_hh (hg : m 148 = g) {k : Nat} (h : k < 20) : f_Mod_of m (k : Int) 0 = some (hh g k) := M_of hg h 0 (by omega)
theorem M_hk (hg : m 148 = g) {k : Nat} (h : k < 20) : f_Mod_of m (k : Int) 1 = some (hk g k) := (M_of hg h 1 (by omega)).trans (by unfold hk; rw [show 38 + 5 * k + 1 = 39 + 5 * k by omega])
theorem M_hs (hg : m 148 = g) {k : Nat} (h : k < 20) : f_Mod_of m (k : Int) 2 = some (hs g k) := (M_of hg h 2 (by omega)).trans (by unfold hs; rw [show 38 + 5 * k + 2 = 40 + 5 * k by omega])
theorem M_he (hg : m 148 = g) {k : Nat} (h : k < 20) : f_Mod_of m (k : Int) 3 = some (he g k) := (M_of hg h 3 (by omega)).trans (by unfold he; rw [show 38 + 5 * k + 3 = 41 + 5 * k by omega])
theorem M_hp (hg : m 148 = g) {k : Nat} (h : k < 20) : f_Mod_of m (k : Int) 4 = some (hpr g k) := (M_of hg h 4 (by omega)).trans (by unfold hpr; rw [show 38 + 5 * k + 4 = 42 + 5 * k by omega])
theorem oix1 {β : Type} {r : Option β} : oix (1 : Int) 138 r = r := rfl
theorem M_habit (W : GH g) (hg : m 148 = g) (x : Int) : f_Mod_isHabit m x = some (if 0 ≤ x ∧ x < g 1 then 1 else 0) := by
  have h1 := W.1.1
  have h2 := W.1.2
  unfold f_Mod_isHabit f_Mod_in
  rw [oix1, show (1 : Int).toNat = 1 from rfl, hg, jw_id ⟨by omega, by omega⟩]
  by_cases h3 : x < 0
  · rw [if_pos h3, if_neg (by omega)]
    rfl
  · rw [if_neg h3]
    by_cases h4 : x < g 1
    · rw [if_neg (by omega), if_pos ⟨by omega, h4⟩]
      rfl
    · rw [if_pos (by omega), if_neg (by omega)]
      rfl
theorem M_gone (W : GH g) (hg : m 148 = g) {k : Nat} (h : k < hN g) : f_Mod_isGone m (k : Int) = some (if 0 ≤ hh g k then 0 else 1) := by
  have hn := W.n
  unfold f_Mod_isGone
  rw [M_hh hg (by omega), Option.bind_some]
  by_cases h1 : 0 ≤ hh g k
  · rw [if_pos h1, if_neg (by omega)]
  · rw [if_neg h1, if_pos (by omega)]
theorem M_heldL (W : GH g) (hg : m 148 = g) (x t : Int) : ∀ (j k N : Nat), k + j = hN g → j < N → f_Mod_heldL N m x t (k : Int) = some (hfF g x t j k)
  | _, _, 0, _, h => by omega
  | 0, k, N + 1, hk, _ => by
    have hn := W.n
    unfold f_Mod_heldL
    rw [oix1, show (1 : Int).toNat = 1 from rfl, hg, if_neg (by omega)]
    rfl
  | j + 1, k, N + 1, hkk, hNN => by
    have hn := W.n
    unfold f_Mod_heldL hfF
    rw [oix1, show (1 : Int).toNat = 1 from rfl, hg, if_pos (by omega), M_hh hg (by omega), Option.bind_some, M_hk hg (by omega), Option.bind_some, jw_s (by omega), M_heldL W hg x t j (k + 1) N (by omega) (by omega)]
    by_cases h1 : hh g k = x
    · rw [if_pos h1, if_pos h1]
      by_cases h2 : hk g k = t
      · rw [if_pos h2, if_pos h2]
      · rw [if_neg h2, if_neg h2]
    · rw [if_neg h1, if_neg h1]
theorem M_held (W : GH g) (hg : m 148 = g) (x t : Int) : f_Mod_held m x t = some (hf g x t) := by
  have hn := W.n
  exact M_heldL W hg x t (hN g) 0 99999 (by omega) (by omega)
theorem M_sumL (W : GH g) (hg : m 148 = g) (x : Int) : ∀ (j k N c : Nat), k + j = hN g → j < N → c + 9 * j < 10000 → f_Mod_sumOfL N m x (c : Int) (k : Int) = some ((c + suF (fun k => if hh g k = x then hsN g k else 0) j k : Nat) : Int)
  | _, _, 0, _, _, h, _ => by omega
  | 0, k, N + 1, c, hk, _, _ => by
    have hn := W.n
    unfold f_Mod_sumOfL
    rw [oix1, show (1 : Int).toNat = 1 from rfl, hg, if_neg (by omega)]
    rfl
  | j + 1, k, N + 1, c, hkk, hNN, hc => by
    have hn := W.n
    have B := W.hb (show k < hN g by omega)
    have h9 := hsN_le g k
    unfold f_Mod_sumOfL suF
    rw [oix1, show (1 : Int).toNat = 1 from rfl, hg, if_pos (by omega), M_hh hg (by omega), Option.bind_some, M_hs hg (by omega), Option.bind_some, jw_s (by omega), B.sN]
    by_cases h1 : hh g k = x
    · rw [if_pos h1, if_pos h1, jw_e (y := ((c + hsN g k : Nat) : Int)) (by omega) (by omega) (by omega), M_sumL W hg x j (k + 1) N (c + hsN g k) (by omega) (by omega) (by omega), Nat.add_assoc]
    · rw [if_neg h1, if_neg h1, jw_e (y := (c : Int)) (by omega) (by omega) (by omega), M_sumL W hg x j (k + 1) N c (by omega) (by omega) (by omega), Nat.zero_add]
theorem M_sum (W : GH g) (hg : m 148 = g) (x : Int) : f_Mod_sumOf m x = some ((hsm g x : Nat) : Int) := by
  have hn := W.n
  have h := M_sumL W hg x (hN g) 0 99999 0 (by omega) (by omega) (by omega)
  rw [Nat.zero_add] at h
  exact h
theorem M_totL (W : GH g) (hg : m 148 = g) : ∀ (j k N c : Nat), k + j = hN g → j < N → c + 9 * j < 10000 → f_Mod_totalL N m (c : Int) (k : Int) = some ((c + suF (hsN g) j k : Nat) : Int)
  | _, _, 0, _, _, h, _ => by omega
  | 0, k, N + 1, c, hk, _, _ => by
    have hn := W.n
    unfold f_Mod_totalL
    rw [oix1, show (1 : Int).toNat = 1 from rfl, hg, if_neg (by omega)]
    rfl
  | j + 1, k, N + 1, c, hkk, hNN, hc => by
    have hn := W.n
    have B := W.hb (show k < hN g by omega)
    have h9 := hsN_le g k
    unfold f_Mod_totalL suF
    rw [oix1, show (1 : Int).toNat = 1 from rfl, hg, if_pos (by omega), M_hs hg (by omega), Option.bind_some, jw_s (by omega), B.sN, jw_e (y := ((c + hsN g k : Nat) : Int)) (by omega) (by omega) (by omega), M_totL W hg j (k + 1) N (c + hsN g k) (by omega) (by omega) (by omega), Nat.add_assoc]
theorem M_tot (W : GH g) (hg : m 148 = g) : f_Mod_total m = some ((sumN (hsN g) (hN g) : Nat) : Int) := by
  have hn := W.n
  have h := M_totL W hg (hN g) 0 99999 0 (by omega) (by omega) (by omega)
  rw [Nat.zero_add, suF_0] at h
  exact h
theorem M_lasL (W : GH g) (hg : m 148 = g) : ∀ (j k N c : Nat), k + j = hN g → j < N → c + j < 10000 → f_Mod_lastingL N m (c : Int) (k : Int) = some ((c + cntF idn (hld g) j k : Nat) : Int)
  | _, _, 0, _, _, h, _ => by omega
  | 0, k, N + 1, c, hk, _, _ => by
    have hn := W.n
    unfold f_Mod_lastingL
    rw [oix1, show (1 : Int).toNat = 1 from rfl, hg, if_neg (by omega)]
    rfl
  | j + 1, k, N + 1, c, hkk, hNN, hc => by
    have hn := W.n
    unfold f_Mod_lastingL cntF
    rw [oix1, show (1 : Int).toNat = 1 from rfl, hg, if_pos (by omega), M_gone W hg (by omega), Option.bind_some, jw_s (i := k) (by omega)]
    show _ = some ((c + ((if hld g k = true then 1 else 0) + _) : Nat) : Int)
    by_cases h1 : 0 ≤ hh g k
    · rw [if_pos h1, if_pos rfl, if_pos (show hld g k = true from decide_eq_true h1), jw_s (by omega), M_lasL W hg j (k + 1) N (c + 1) (by omega) (by omega) (by omega), Nat.add_assoc]
    · rw [if_neg h1, if_neg (by omega), if_neg (by unfold hld; rw [decide_eq_false h1]; decide), jw_e (y := (c : Int)) (by omega) (by omega) (by omega), M_lasL W hg j (k + 1) N c (by omega) (by omega) (by omega), Nat.zero_add]
theorem M_las (W : GH g) (hg : m 148 = g) : f_Mod_lasting m = some ((cntF idn (hld g) (hN g) 0 : Nat) : Int) := by
  have hn := W.n
  have h := M_lasL W hg (hN g) 0 99999 0 (by omega) (by omega) (by omega)
  rw [Nat.zero_add] at h
  exact h
theorem M_ahead (V : GP g) (W : GH g) (hg : m 148 = g) {x y : Nat} (hx : x < gn g) (hy : y < gn g) : f_Mod_isAhead m (x : Int) (y : Int) = some (if ahd g x y = true then 1 else 0) := by
  unfold f_Mod_isAhead
  rw [M_sum W hg, Option.bind_some, M_sum W hg, Option.bind_some, M_dep V hg hx, Option.bind_some, M_dep V hg hy, Option.bind_some]
  exact ahd_if g x y (hsm_le W _) (hsm_le W _) (V.dp_lt hx) (V.dp_lt hy)
theorem B_l0 (N : Nat) (m : jMem) (a1 a2 a3 a4 : Int) : f_Mod_habitByStrengthL (N + 1) 0 m a1 a2 a3 a4 = oix (1 : Int) 138 (if a2 < (m 148 (1 : Int).toNat) then (f_Mod_isGone m a2).bind fun x1 => if x1 = 0 then f_Mod_habitByStrengthL N 1 m a1 a2 0 0 else f_Mod_habitByStrengthL N 0 m a1 (jw (a2 + 1)) 0 0 else some (0, mset m 147 8 1)) := rfl
theorem B_l1 (N : Nat) (m : jMem) (a1 a2 a3 a4 : Int) : f_Mod_habitByStrengthL (N + 1) 1 m a1 a2 a3 a4 = oix (1 : Int) 138 (if a4 < (m 148 (1 : Int).toNat) then (f_Mod_of m a4 2).bind fun x2 => (f_Mod_of m a2 2).bind fun x3 => if x3 < x2 then f_Mod_habitByStrengthL N 1 m a1 a2 (jw (a3 + 1)) (jw (a4 + 1)) else (f_Mod_of m a4 2).bind fun x4 => (f_Mod_of m a2 2).bind fun x5 => if x4 = x5 then if a4 < a2 then f_Mod_habitByStrengthL N 1 m a1 a2 (jw (a3 + 1)) (jw (a4 + 1)) else f_Mod_habitByStrengthL N 1 m a1 a2 (jw (a3 + 0)) (jw (a4 + 1)) else f_Mod_habitByStrengthL N 1 m a1 a2 (jw (a3 + 0)) (jw (a4 + 1)) else if a3 = a1 then some (a2, mset m 147 8 0) else f_Mod_habitByStrengthL N 0 m a1 (jw (a2 + 1)) 0 0) := rfl
theorem M_hb1 (W : GH g) (hg : m 148 = g) (a : Int) {x : Nat} (hx : x < hN g) : ∀ (j k N c : Nat), k + j = hN g → c + j < 10000 → f_Mod_habitByStrengthL (N + (j + 1)) 1 m a (x : Int) (c : Int) (k : Int) = if ((c + cntF idn (hbf g x) j k : Nat) : Int) = a then some ((x : Int), mset m 147 8 0) else f_Mod_habitByStrengthL N 0 m a ((x + 1 : Nat) : Int) 0 0
  | 0, k, N, c, hk, _ => by
    have hn := W.n
    rw [B_l1, oix1, show (1 : Int).toNat = 1 from rfl, hg, if_neg (by omega), jw_s (by omega)]
    rfl
  | j + 1, k, N, c, hkk, hc => by
    have hn := W.n
    have ih1 := M_hb1 W hg a hx j (k + 1) N (c + 1) (by omega) (by omega)
    have ih0 := M_hb1 W hg a hx j (k + 1) N c (by omega) (by omega)
    rw [show N + (j + 1 + 1) = (N + (j + 1)) + 1 by omega, B_l1, oix1, show (1 : Int).toNat = 1 from rfl, hg, if_pos (by omega), M_hs hg (by omega), Option.bind_some, M_hs hg (by omega), Option.bind_some, Option.bind_some, Option.bind_some, jw_s (by omega), jw_s (by omega), jw_e (y := (c : Int)) (by omega) (by omega) (by omega), ih1, ih0]
    show _ = if ((c + ((if hbf g x k = true then 1 else 0) + cntF idn (hbf g x) j (k + 1)) : Nat) : Int) = a then _ else _
    by_cases h1 : hs g x < hs g k
    · have hb : hbf g x k = true := by unfold hbf; rw [decide_eq_true h1, Bool.true_or]
      rw [if_pos h1, if_pos hb, Nat.add_assoc]
    · rw [if_neg h1]
      have e1 : decide (hs g x < hs g k) = false := decide_eq_false h1
      by_cases h2 : hs g k = hs g x
      · rw [if_pos h2]
        by_cases h3 : k < x
        · have hb : hbf g x k = true := by unfold hbf; rw [e1, decide_eq_true h2, Nat.blt_eq.mpr h3]; rfl
          rw [if_pos (by omega), if_pos hb, Nat.add_assoc]
        · have hb : hbf g x k = false := by
            unfold hbf
            rw [e1, decide_eq_true h2]
            cases hb : Nat.blt k x with
            | false => rfl
            | true => exact absurd (Nat.blt_eq.mp hb) h3
          rw [if_neg (by omega), hb, if_neg fnt, Nat.zero_add]
      · have hb : hbf g x k = false := by unfold hbf; rw [e1, decide_eq_false h2]; rfl
        rw [if_neg h2, hb, if_neg fnt, Nat.zero_add]
/-- the model's answer from a rank -/
def rkA (m : jMem) (v : Int) : Option (Int × jMem) := if v < 0 then some (0, mset m 147 8 1) else some (v, mset m 147 8 0)
theorem M_hb0 (W : GH g) (hg : m 148 = g) (a : Int) : ∀ (j k N : Nat), k + j = hN g → 30 * (j + 1) ≤ N → f_Mod_habitByStrengthL N 0 m a (k : Int) 0 0 = rkA m (rkF (hld g) (hrk g) a j k)
  | _, _, 0, _, h => by omega
  | 0, k, N + 1, hk, _ => by
    have hn := W.n
    rw [B_l0, oix1, show (1 : Int).toNat = 1 from rfl, hg, if_neg (by omega)]
    rfl
  | j + 1, k, N + 1, hkk, hNN => by
    have hn := W.n
    have h1 := M_hb1 W hg a (show k < hN g by omega) (hN g) 0 (N - (hN g + 1)) 0 (by omega) (by omega)
    rw [show N - (hN g + 1) + (hN g + 1) = N by omega] at h1
    have h1' : f_Mod_habitByStrengthL N 1 m a (k : Int) 0 0 = _ := h1
    rw [Nat.zero_add] at h1'
    have ih := M_hb0 W hg a j (k + 1) (N - (hN g + 1)) (by omega) (by omega)
    have ih2 := M_hb0 W hg a j (k + 1) N (by omega) (by omega)
    unfold rkF
    rw [B_l0, oix1, show (1 : Int).toNat = 1 from rfl, hg, if_pos (by omega), M_gone W hg (by omega), Option.bind_some, jw_s (by omega), h1', ih, ih2]
    by_cases h2 : 0 ≤ hh g k
    · rw [if_pos h2, if_pos rfl, if_pos (show hld g k = true from decide_eq_true h2)]
      by_cases h3 : ((hrk g k : Nat) : Int) = a
      · rw [if_pos h3]
        unfold hrk at h3
        rw [if_pos h3]
        unfold rkA
        rw [if_neg (by omega)]
      · rw [if_neg h3]
        unfold hrk at h3
        rw [if_neg h3]
    · rw [if_neg h2, if_neg (by omega), if_neg (by unfold hld; rw [decide_eq_false h2]; decide)]
theorem M_hbs (W : GH g) (hg : m 148 = g) (a : Int) : f_Mod_habitByStrength m a = rkA m (rkF (hld g) (hrk g) a (hN g) 0) := by
  have hn := W.n
  exact M_hb0 W hg a (hN g) 0 99999 (by omega) (by omega)
theorem Q_l0 (N : Nat) (m : jMem) (a1 a2 a3 a4 : Int) : f_Mod_personByStrengthL (N + 1) 0 m a1 a2 a3 a4 = oix (0 : Int) 138 (if a2 < (m 148 (0 : Int).toNat) then (f_Mod_lives m a2).bind fun x1 => if x1 = 0 then f_Mod_personByStrengthL N 0 m a1 (jw (a2 + 1)) 0 0 else f_Mod_personByStrengthL N 1 m a1 a2 0 0 else some (0, mset m 147 8 1)) := rfl
theorem Q_l1 (N : Nat) (m : jMem) (a1 a2 a3 a4 : Int) : f_Mod_personByStrengthL (N + 1) 1 m a1 a2 a3 a4 = oix (0 : Int) 138 (if a4 < (m 148 (0 : Int).toNat) then (f_Mod_lives m a4).bind fun x2 => if x2 = 0 then f_Mod_personByStrengthL N 1 m a1 a2 (jw (a3 + 0)) (jw (a4 + 1)) else (f_Mod_isAhead m a4 a2).bind fun x3 => if x3 = 0 then f_Mod_personByStrengthL N 1 m a1 a2 (jw (a3 + 0)) (jw (a4 + 1)) else f_Mod_personByStrengthL N 1 m a1 a2 (jw (a3 + 1)) (jw (a4 + 1)) else if a3 = a1 then some (a2, mset m 147 8 0) else f_Mod_personByStrengthL N 0 m a1 (jw (a2 + 1)) 0 0) := rfl
theorem oix0 {β : Type} {r : Option β} : oix (0 : Int) 138 r = r := rfl
theorem M_pb1 (V : GP g) (W : GH g) (hg : m 148 = g) (a : Int) {x : Nat} (hx : x < gn g) : ∀ (j k N c : Nat), k + j = gn g → c + j < 10000 → f_Mod_personByStrengthL (N + (j + 1)) 1 m a (x : Int) (c : Int) (k : Int) = if ((c + cntF idn (pbf g x) j k : Nat) : Int) = a then some ((x : Int), mset m 147 8 0) else f_Mod_personByStrengthL N 0 m a ((x + 1 : Nat) : Int) 0 0
  | 0, k, N, c, hk, _ => by
    have hn := V.n
    rw [Q_l1, oix0, show (0 : Int).toNat = 0 from rfl, hg, if_neg (by omega), jw_s (by omega)]
    rfl
  | j + 1, k, N, c, hkk, hc => by
    have hn := V.n
    have ih1 := M_pb1 V W hg a hx j (k + 1) N (c + 1) (by omega) (by omega)
    have ih0 := M_pb1 V W hg a hx j (k + 1) N c (by omega) (by omega)
    rw [show N + (j + 1 + 1) = (N + (j + 1)) + 1 by omega, Q_l1, oix0, show (0 : Int).toNat = 0 from rfl, hg, if_pos (by omega), M_liv V hg (by omega), Option.bind_some, V.al (by omega), M_ahead V W hg (by omega) hx, Option.bind_some, jw_s (by omega), jw_s (by omega), jw_e (y := (c : Int)) (by omega) (by omega) (by omega), ih1, ih0]
    show _ = if ((c + ((if (gal g k && ahd g k x) = true then 1 else 0) + cntF idn (pbf g x) j (k + 1)) : Nat) : Int) = a then _ else _
    by_cases h1 : gal g k = true
    · rw [if_pos h1, if_neg (by omega), h1, Bool.true_and]
      by_cases h2 : ahd g k x = true
      · rw [if_pos h2, if_neg (by omega), if_pos h2, Nat.add_assoc]
      · rw [if_neg h2, if_pos rfl, if_neg h2, Nat.zero_add]
    · rw [if_neg h1, if_pos rfl, Bool.eq_false_iff.mpr h1, Bool.false_and, if_neg fnt, Nat.zero_add]
theorem M_pb0 (V : GP g) (W : GH g) (hg : m 148 = g) (a : Int) : ∀ (j k N : Nat), k + j = gn g → 30 * (j + 1) ≤ N → f_Mod_personByStrengthL N 0 m a (k : Int) 0 0 = rkA m (rkF (gal g) (prk g) a j k)
  | _, _, 0, _, h => by omega
  | 0, k, N + 1, hk, _ => by
    have hn := V.n
    rw [Q_l0, oix0, show (0 : Int).toNat = 0 from rfl, hg, if_neg (by omega)]
    rfl
  | j + 1, k, N + 1, hkk, hNN => by
    have hn := V.n
    have h1 := M_pb1 V W hg a (show k < gn g by omega) (gn g) 0 (N - (gn g + 1)) 0 (by omega) (by omega)
    rw [show N - (gn g + 1) + (gn g + 1) = N by omega] at h1
    have h1' : f_Mod_personByStrengthL N 1 m a (k : Int) 0 0 = _ := h1
    rw [Nat.zero_add] at h1'
    have ih := M_pb0 V W hg a j (k + 1) (N - (gn g + 1)) (by omega) (by omega)
    have ih2 := M_pb0 V W hg a j (k + 1) N (by omega) (by omega)
    unfold rkF
    rw [Q_l0, oix0, show (0 : Int).toNat = 0 from rfl, hg, if_pos (by omega), M_liv V hg (by omega), Option.bind_some, V.al (by omega), jw_s (by omega), h1', ih, ih2]
    by_cases h2 : gal g k = true
    · rw [if_pos h2, if_neg (by omega), if_pos h2]
      by_cases h3 : ((prk g k : Nat) : Int) = a
      · rw [if_pos h3]
        unfold prk at h3
        rw [if_pos h3]
        unfold rkA
        rw [if_neg (by omega)]
      · rw [if_neg h3]
        unfold prk at h3
        rw [if_neg h3]
    · rw [if_neg h2, if_pos rfl, if_neg h2]
theorem M_pbs (V : GP g) (W : GH g) (hg : m 148 = g) (a : Int) : f_Mod_personByStrength m a = rkA m (rkF (gal g) (prk g) a (gn g) 0) := by
  have hn := V.n
  exact M_pb0 V W hg a (gn g) 0 99999 (by omega) (by omega)
end Both

/-! ===== the two heirs agree, and the two distances ===== -/
section Agree
variable {m : jMem} {g : Nat → Int} {od ps : Nat → Nat}
theorem P_haL (V : GP g) (H : RP 1 m g od ps) : ∀ (k i N : Nat), i + k = gn g → k < N → f_State_heirsAgreeL N m (i : Int) = some 1
  | _, _, 0, _, h => by omega
  | 0, i, N + 1, hk, _ => by
    have hn := V.n
    unfold f_State_heirsAgreeL
    rw [H.n, if_neg (by omega)]
  | k + 1, i, N + 1, hk, hN => by
    have hn := V.n
    unfold f_State_heirsAgreeL
    rw [H.n, if_pos (by omega), P_heir V H (by omega), Option.bind_some, P_all V H (by omega), Option.bind_some, if_pos rfl, jw_s (by omega)]
    exact P_haL V H k (i + 1) N (by omega) (by omega)
theorem P_heirs (V : GP g) (H : RP 1 m g od ps) : f_State_heirsAgree m = some 1 := by
  have hn := V.n
  exact P_haL V H (gn g) 0 99999 (by omega) (by omega)
theorem D_l0 (N : Nat) (m : jMem) (a1 a2 a3 : Int) : f_Reg_distancesAgreeL (N + 1) 0 m a1 a2 a3 = if a2 < a1 then (f_Search_startFrom m a2).bind fun m1 => f_Reg_distancesAgreeL N 1 m1 a1 a2 0 else some (1, m) := rfl
theorem D_l1 (N : Nat) (m : jMem) (a1 a2 a3 : Int) : f_Reg_distancesAgreeL (N + 1) 1 m a1 a2 a3 = if a3 < a1 then (f_Search_stepsTo m a3).bind fun x2 => (f_People_stepsBetween m a2 a3).bind fun x3 => if x2 = x3 then f_Reg_distancesAgreeL N 1 m a1 a2 (jw (a3 + 1)) else some (0, m) else f_Reg_distancesAgreeL N 0 m a1 (jw (a2 + 1)) 0 := rfl
theorem P_daR (V : GP g) (H : RP 1 m g od ps) {i : Nat} (hi : i < gn g) (h : ∀ j, j < gn g → m 15 j = apt (gp g) i j) : ∀ (k j N : Nat), j + k = gn g → f_Reg_distancesAgreeL (N + (k + 1)) 1 m (gn g : Int) (i : Int) (j : Int) = f_Reg_distancesAgreeL N 0 m (gn g : Int) ((i + 1 : Nat) : Int) 0
  | 0, j, N, hk => by
    have hn := V.n
    rw [D_l1, if_neg (by omega), jw_s (by omega)]
  | k + 1, j, N, hk => by
    have hn := V.n
    rw [show N + (k + 1 + 1) = (N + (k + 1)) + 1 by omega, D_l1, if_pos (by omega), S_to m (by omega), Option.bind_some, P_steps V H hi (by omega), Option.bind_some, if_pos (h j (by omega)), jw_s (by omega)]
    exact P_daR V H hi h k (j + 1) N (by omega)
theorem P_daL (V : GP g) : ∀ (k i N : Nat) (m : jMem), i + k = gn g → 20 * (k + 1) ≤ N → RP 1 m g od ps → ∃ m', f_Reg_distancesAgreeL N 0 m (gn g : Int) (i : Int) 0 = some (1, m') ∧ (∀ q, q ≠ 14 → q ≠ 15 → q ≠ 16 → m' q = m q)
  | _, _, 0, _, _, h, _ => by omega
  | 0, i, N + 1, m, hk, _, _ => by
    refine ⟨m, ?_, fun _ _ _ _ => rfl⟩
    rw [D_l0, if_neg (by omega)]
  | k + 1, i, N + 1, m, hk, hN, H => by
    have hn := V.n
    obtain ⟨m1, e1, r1, k1⟩ := S_start V H (show i < gn g by omega)
    have H1 : RP 1 m1 g od ps := H.mv fun q a b => k1 q (by omega) (by omega) (by omega)
    obtain ⟨m2, e2, k2⟩ := P_daL V k (i + 1) (N - (gn g + 1)) m1 (by omega) (by omega) H1
    refine ⟨m2, ?_, fun q a b c => (k2 q a b c).trans (k1 q a b c)⟩
    have e3 := P_daR V H1 (show i < gn g by omega) r1 (gn g) 0 (N - (gn g + 1)) (by omega)
    rw [show N - (gn g + 1) + (gn g + 1) = N by omega] at e3
    rw [D_l0, if_pos (by omega), e1, Option.bind_some]
    exact e3.trans e2
theorem P_dists (V : GP g) (H : RP 1 m g od ps) : ∃ m', f_Reg_distancesAgree m = some (1, m') ∧ (∀ q, q ≠ 14 → q ≠ 15 → q ≠ 16 → m' q = m q) := by
  have hn := V.n
  obtain ⟨m', e, k⟩ := P_daL V (gn g) 0 99999 m (by omega) (by omega) H
  refine ⟨m', ?_, k⟩
  unfold f_Reg_distancesAgree
  rw [H.n, hn.1]
  exact e
/-- the model's child at a place -/
def caF (par : Nat → Int) (n : Nat) (p : Nat) : Nat → Int → Int
  | 0, x => x
  | k + 1, x => if x < 0 then x else caF par n p k (cb par n (p : Int) x.toNat)
theorem caF_neg (par : Nat → Int) (n : Nat) (p : Nat) {x : Int} (h : x < 0) : ∀ (k : Nat), caF par n p k x = x
  | 0 => rfl
  | k + 1 => by
    show (if x < 0 then x else _) = x
    rw [if_pos h]
theorem chF_ca {par : Nat → Int} {n : Nat} (p : Nat) : ∀ (k i : Nat), i < n → chF par (p : Int) (n - (i + 1)) (i + 1) ((k : Nat) : Int) = caF par n p k (cb par n (p : Int) i)
  | 0, i, hi => by
    rw [chF_cb _ _ _ _ _ (by omega)]
    show _ = cb par n (p : Int) i
    unfold cb
    rcases cbF_spec par (p : Int) (n - (i + 1)) (i + 1) with ⟨e, h1⟩ | ⟨c, e, h1, h2, h3, h4⟩
    · rw [e, if_pos (by omega)]
    · rw [e, if_neg (by omega), if_pos (by omega)]
  | k + 1, i, hi => by
    rw [chF_cb _ _ _ _ _ (by omega)]
    show _ = if cb par n (p : Int) i < 0 then cb par n (p : Int) i else caF par n p k (cb par n (p : Int) (cb par n (p : Int) i).toNat)
    have e0 : cb par n (p : Int) i = cbF par (p : Int) (n - (i + 1)) (i + 1) := rfl
    rcases cbF_spec par (p : Int) (n - (i + 1)) (i + 1) with ⟨e, h1⟩ | ⟨c, e, h1, h2, h3, h4⟩
    · rw [e0, e, if_pos (by omega), if_pos (by omega)]
    · rw [e0, e, if_neg (by omega), if_neg (by omega), if_neg (by omega), Int.toNat_natCast, show i + 1 + (n - (i + 1)) - (c + 1) = n - (c + 1) by omega, show (((k + 1 : Nat) : Int) - 1) = ((k : Nat) : Int) by omega]
      exact chF_ca p k c (by omega)
/-- what childAt answers, -1 for none -/
def chA (g : Nat → Int) (p : Nat) (k : Int) : Int := chF (gp g) (p : Int) (gn g) 0 k
theorem chA_eq (V : GP g) {p : Nat} (hp : p < gn g) (k : Nat) : chA g p (k : Int) = caF (gp g) (gn g) p k (cb (gp g) (gn g) (p : Int) p) := by
  rw [← chF_ca p k p hp]
  unfold chA
  have h := chF_skip (gp g) (p : Int) (p + 1) 0 (gn g - (p + 1)) (k : Int) (fun c _ hc e => by
    rcases V.f c (by omega) with h1 | h1 <;> omega)
  rw [show p + 1 + (gn g - (p + 1)) = gn g by omega, Nat.zero_add] at h
  exact h
theorem chA_neg (k : Int) (hk : k < 0) (p : Nat) : chA g p k = -1 := chF_neg _ _ _ _ _ hk
theorem chA_lt (V : GP g) (p : Nat) : ∀ (j i : Nat) (k : Int), i + j = gn g → okx (gn g) (chF (gp g) (p : Int) j i k)
  | 0, _, _, _ => Or.inl rfl
  | j + 1, i, k, h => by
    rw [chF_s]
    split
    · split
      · exact Or.inr ⟨by omega, by omega⟩
      · exact chA_lt V p j (i + 1) _ (by omega)
    · exact chA_lt V p j (i + 1) _ (by omega)
theorem P_child (V : GP g) (H : RP 1 m g od ps) (p : Nat) (k : Int) : f_People_child m (p : Int) k = some (chA g p k) := by
  have hn := V.n
  have h := P_childL V H (p : Int) k (gn g) 0 99999 0 (by omega) (by omega) (by omega)
  rw [show k - ((0 : Nat) : Int) = k by omega] at h
  exact h
end Agree

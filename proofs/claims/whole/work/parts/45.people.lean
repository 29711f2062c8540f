/-! ===== rows and blocks: people ===== -/
theorem oix_n {β : Type} {i n : Nat} {r : Option β} (h : i < n) : oix ((i : Nat) : Int) n r = r := if_pos ⟨Int.natCast_nonneg i, by omega⟩
theorem oix_i {β : Type} {x : Int} {n : Nat} {r : Option β} (h0 : 0 ≤ x) (h : x < (n : Int)) : oix x n r = r := if_pos ⟨h0, h⟩
theorem jw_s {i : Nat} (h : i < 1000000) : jw ((i : Int) + 1) = ((i + 1 : Nat) : Int) := by
  rw [jw_id ⟨by omega, by omega⟩]
  rfl
theorem jw_e {x y : Int} (h : x = y) (h1 : -2147483648 ≤ y) (h2 : y < 2147483648) : jw x = y := by
  rw [h]
  exact jw_id ⟨h1, h2⟩
def gp (g : Nat → Int) (i : Nat) : Int := if i < 16 then g (6 + 2 * i) else -1
def ga (g : Nat → Int) (i : Nat) : Int := if i < 16 then g (7 + 2 * i) else 0
theorem gp_e {g : Nat → Int} {i : Nat} (h : i < 16) : g (6 + 2 * i) = gp g i := (if_pos h).symm
theorem ga_e {g : Nat → Int} {i : Nat} (h : i < 16) : g (7 + 2 * i) = ga g i := (if_pos h).symm
theorem gp_cg {g g' : Nat → Int} (e : ∀ j, 6 ≤ j → j < 38 → g' j = g j) : gp g' = gp g := by
  funext i
  by_cases h : i < 16
  · rw [← gp_e h, ← gp_e h, e _ (by omega) (by omega)]
  · exact (if_neg h).trans (if_neg h).symm
theorem ga_cg {g g' : Nat → Int} (e : ∀ j, 6 ≤ j → j < 38 → g' j = g j) : ga g' = ga g := by
  funext i
  by_cases h : i < 16
  · rw [← ga_e h, ← ga_e h, e _ (by omega) (by omega)]
  · exact (if_neg h).trans (if_neg h).symm
def gn (g : Nat → Int) : Nat := (g 0).toNat
def gal (g : Nat → Int) (i : Nat) : Bool := decide (ga g i = 1)
theorem gal_cg {g g' : Nat → Int} (e : ga g' = ga g) : gal g' = gal g := by
  funext i
  unfold gal
  rw [e]
/-- a row's people -/
def GP (g : Nat → Int) : Prop := 0 ≤ g 0 ∧ g 0 ≤ 16 ∧ fvp (gp g) (gn g) ∧ ∀ i, i < gn g → ga g i = 0 ∨ ga g i = 1
/-- the people of the block b are the row's -/
def RP (b : Nat) (m : jMem) (g : Nat → Int) (od ps : Nat → Nat) : Prop :=
  m (b + 1) 4 = g 0 ∧ (∀ i, i < gn g → m (b + 2) i = gp g i ∧ m (b + 3) i = ((dp (gp g) i : Nat) : Int) ∧ m (b + 4) i = ga g i ∧ m (b + 5) i = ((od i : Nat) : Int)) ∧ OD (gp g) (gn g) od ps
section People
variable {m : jMem} {g : Nat → Int} {od ps : Nat → Nat}
theorem GP.n (V : GP g) : g 0 = ((gn g : Nat) : Int) ∧ gn g ≤ 16 := by
  have h1 := V.1
  have h2 := V.2.1
  unfold gn
  exact ⟨by omega, by omega⟩
theorem RP.n (H : RP 1 m g od ps) : m 2 4 = g 0 := H.1
theorem RP.par (H : RP 1 m g od ps) {i : Nat} (hi : i < gn g) : m 3 i = gp g i := (H.2.1 i hi).1
theorem RP.dep (H : RP 1 m g od ps) {i : Nat} (hi : i < gn g) : m 4 i = ((dp (gp g) i : Nat) : Int) := (H.2.1 i hi).2.1
theorem RP.liv (H : RP 1 m g od ps) {i : Nat} (hi : i < gn g) : m 5 i = ga g i := (H.2.1 i hi).2.2.1
theorem RP.ord (H : RP 1 m g od ps) {i : Nat} (hi : i < gn g) : m 6 i = ((od i : Nat) : Int) := (H.2.1 i hi).2.2.2
theorem RP.o (H : RP 1 m g od ps) : OD (gp g) (gn g) od ps := H.2.2
theorem GP.f (V : GP g) : fvp (gp g) (gn g) := V.2.2.1
theorem GP.al (V : GP g) {i : Nat} (hi : i < gn g) : ga g i = if gal g i = true then 1 else 0 := by
  unfold gal
  rcases V.2.2.2 i hi with h | h <;> rw [h] <;> rfl
theorem GP.dp_lt (V : GP g) {i : Nat} (hi : i < gn g) : dp (gp g) i < 16 := by
  have h1 := dp_le V.f i hi
  have h2 := V.n
  omega
theorem P_has (V : GP g) (H : RP 1 m g od ps) (x : Int) : f_People_has m x = some (if 0 ≤ x ∧ x < g 0 then 1 else 0) := by
  unfold f_People_has
  rw [H.n]
  by_cases h1 : x < 0
  · rw [if_pos h1, if_neg (by omega)]
  · rw [if_neg h1]
    by_cases h2 : x < g 0
    · rw [if_pos h2, if_pos ⟨by omega, h2⟩]
    · rw [if_neg h2, if_neg (by omega)]
theorem P_liv (V : GP g) (H : RP 1 m g od ps) {i : Nat} (hi : i < gn g) : f_People_isLiving m (i : Int) = some (ga g i) := by
  have hn := V.n
  unfold f_People_isLiving
  rw [H.n, if_neg (by omega), if_pos (by omega), oix_n (by omega), Int.toNat_natCast, H.liv hi]
  rcases V.2.2.2 i hi with h | h <;> rw [h] <;> rfl
theorem P_liv_out (V : GP g) (H : RP 1 m g od ps) {x : Int} (hx : ¬ (0 ≤ x ∧ x < g 0)) : f_People_isLiving m x = some 0 := by
  unfold f_People_isLiving
  rw [H.n]
  by_cases h1 : x < 0
  · rw [if_pos h1]
  · rw [if_neg h1, if_neg (by omega)]
theorem P_par (V : GP g) (H : RP 1 m g od ps) {i : Nat} (hi : i < gn g) : f_People_parent m (i : Int) = some (gp g i) := by
  have hn := V.n
  unfold f_People_parent
  rw [H.n, if_neg (by omega), if_pos (by omega), oix_n (by omega), Int.toNat_natCast, H.par hi]
theorem P_par_neg (H : RP 1 m g od ps) : f_People_parent m (-1) = some (-1) := by
  unfold f_People_parent
  rw [if_pos (by omega)]
theorem P_dep (V : GP g) (H : RP 1 m g od ps) {i : Nat} (hi : i < gn g) : f_People_depth m (i : Int) = some ((dp (gp g) i : Nat) : Int) := by
  have hn := V.n
  unfold f_People_depth
  rw [H.n, if_neg (by omega), if_pos (by omega), oix_n (by omega), Int.toNat_natCast, H.dep hi]
theorem P_dep_neg (H : RP 1 m g od ps) : f_People_depth m (-1) = some (-1) := by
  unfold f_People_depth
  rw [if_pos (by omega)]
theorem P_at (V : GP g) (H : RP 1 m g od ps) {i : Nat} (hi : i < gn g) : f_People_personAt m (i : Int) = some ((od i : Nat) : Int) := by
  have hn := V.n
  unfold f_People_personAt
  rw [H.n, if_neg (by omega), if_pos (by omega), oix_n (by omega), Int.toNat_natCast, H.ord hi]
theorem P_placeL (V : GP g) (H : RP 1 m g od ps) {x : Nat} (hx : x < gn g) : ∀ (k q N : Nat), q + k = ps x → k < N → f_People_placeOfL N m (x : Int) (q : Int) = some ((ps x : Nat) : Int)
  | _, _, 0, _, h => by omega
  | 0, q, N + 1, hq, _ => by
    have hn := V.n
    have h1 := H.o.2.1 x hx
    unfold f_People_placeOfL
    rw [H.n, if_pos (by omega), oix_n (by omega), Int.toNat_natCast, H.ord (by omega), if_pos (by rw [show q = ps x by omega, h1.2])]
    rw [show q = ps x by omega]
  | k + 1, q, N + 1, hq, hN => by
    have hn := V.n
    have h1 := H.o.2.1 x hx
    unfold f_People_placeOfL
    rw [H.n, if_pos (by omega), oix_n (by omega), Int.toNat_natCast, H.ord (by omega), if_neg (by
      intro e
      have h2 := H.o.1 q (by omega)
      rw [show od q = x by omega] at h2
      omega), jw_s (by omega)]
    exact P_placeL V H hx k (q + 1) N (by omega) (by omega)
theorem P_place (V : GP g) (H : RP 1 m g od ps) {x : Nat} (hx : x < gn g) : f_People_placeOf m (x : Int) = some ((ps x : Nat) : Int) := by
  have hn := V.n
  have h1 := H.o.2.1 x hx
  exact P_placeL V H hx (ps x) 0 99999 (by omega) (by omega)
theorem P_endL (V : GP g) (H : RP 1 m g od ps) {x : Nat} (hx : x < gn g) : ∀ (k q N : Nat), q + k = gn g → k < N → f_People_endOfBranchL N m (x : Int) (q : Int) = some ((enF (gp g) (gn g) od x k q : Nat) : Int)
  | _, _, 0, _, h => by omega
  | 0, q, N + 1, hq, _ => by
    have hn := V.n
    unfold f_People_endOfBranchL
    rw [H.n, if_neg (by omega)]
    rfl
  | k + 1, q, N + 1, hq, hN => by
    have hn := V.n
    have h1 := H.o.1 q (by omega)
    unfold f_People_endOfBranchL enF
    rw [H.n, if_pos (by omega), oix_n (by omega), Int.toNat_natCast, H.ord (by omega), P_dep V H h1.1, Option.bind_some, P_dep V H hx, Option.bind_some]
    by_cases h2 : dp (gp g) x < dp (gp g) (od q)
    · rw [if_pos (by omega), if_pos ⟨by omega, h2⟩, jw_s (by omega)]
      exact P_endL V H hx k (q + 1) N (by omega) (by omega)
    · rw [if_neg (by omega), if_neg (by omega)]
theorem P_end (V : GP g) (H : RP 1 m g od ps) {x : Nat} (hx : x < gn g) : f_People_endOfBranch m (x : Int) = some ((en (gp g) (gn g) od ps x : Nat) : Int) := by
  have hn := V.n
  have h1 := H.o.2.1 x hx
  unfold f_People_endOfBranch
  rw [P_place V H hx, Option.bind_some, jw_s (by omega)]
  exact P_endL V H hx (gn g - (ps x + 1)) (ps x + 1) 99999 (by omega) (by omega)
/-- how many at the places from q on, k of them, are so -/
def cntF (od : Nat → Nat) (ok : Nat → Bool) : Nat → Nat → Nat
  | 0, _ => 0
  | k + 1, q => (if ok (od q) = true then 1 else 0) + cntF od ok k (q + 1)
theorem cntF_le (od : Nat → Nat) (ok : Nat → Bool) : ∀ k q, cntF od ok k q ≤ k
  | 0, _ => Nat.le_refl _
  | k + 1, q => by
    have := cntF_le od ok k (q + 1)
    unfold cntF
    split <;> omega
theorem P_cntL (V : GP g) (H : RP 1 m g od ps) {e : Nat} (he : e ≤ gn g) : ∀ (k q N c : Nat), q + k = e → k < N → c + k < 100 → f_People_countLivingBelowL N m (c : Int) (e : Int) (q : Int) = some ((c + cntF od (gal g) k q : Nat) : Int)
  | _, _, 0, _, _, h, _ => by omega
  | 0, q, N + 1, c, hq, _, _ => by
    unfold f_People_countLivingBelowL
    rw [if_neg (by omega)]
    rfl
  | k + 1, q, N + 1, c, hq, hN, hc => by
    have hn := V.n
    have h1 := H.o.1 q (by omega)
    unfold f_People_countLivingBelowL cntF
    rw [if_pos (by omega), P_at V H (by omega), Option.bind_some, P_liv V H h1.1, Option.bind_some, V.al h1.1]
    by_cases h2 : gal g (od q) = true
    · rw [if_pos h2, if_neg (by omega), if_pos h2, jw_s (by omega), jw_s (by omega), P_cntL V H he k (q + 1) N (c + 1) (by omega) (by omega) (by omega), Nat.add_assoc]
    · rw [if_neg h2, if_pos rfl, if_neg h2, jw_s (by omega), P_cntL V H he k (q + 1) N c (by omega) (by omega) (by omega), Nat.zero_add]
theorem P_cnt (V : GP g) (H : RP 1 m g od ps) {x : Nat} (hx : x < gn g) : f_People_countLivingBelow m (x : Int) = some ((cntF od (gal g) (en (gp g) (gn g) od ps x - (ps x + 1)) (ps x + 1) : Nat) : Int) := by
  have hn := V.n
  have h1 := H.o.2.1 x hx
  have h2 := en_spec V.f H.o hx
  unfold f_People_countLivingBelow
  rw [P_end V H hx, Option.bind_some, P_place V H hx, Option.bind_some, jw_s (by omega)]
  have h3 := P_cntL V H h2.2.1 (en (gp g) (gn g) od ps x - (ps x + 1)) (ps x + 1) 99999 0 (by omega) (by omega) (by omega)
  rw [Nat.zero_add] at h3
  exact h3
/-- living, and not this one -/
def okb (g : Nat → Int) (e : Int) (y : Nat) : Bool := gal g y && !(decide ((y : Int) = e))
theorem P_firstL (V : GP g) (H : RP 1 m g od ps) {e : Nat} (x : Int) (he : e ≤ gn g) : ∀ (k q N : Nat), e - q = k → k < N → f_People_firstLivingBelowL N m x (e : Int) (q : Int) = some (sc od (okb g x) q e)
  | _, _, 0, _, h => by omega
  | 0, q, N + 1, hq, _ => by
    unfold f_People_firstLivingBelowL
    rw [if_neg (by omega), sc_end (by omega)]
  | k + 1, q, N + 1, hq, hN => by
    have hn := V.n
    have h1 := H.o.1 q (by omega)
    unfold f_People_firstLivingBelowL
    rw [if_pos (by omega), P_at V H (by omega), Option.bind_some]
    by_cases h2 : ((od q : Nat) : Int) = x
    · rw [if_pos h2, jw_s (by omega), P_firstL V H x he k (q + 1) N (by omega) (by omega), sc_miss (q := q) (by omega) (by unfold okb; rw [decide_eq_true h2]; simp)]
    · rw [if_neg h2, P_liv V H h1.1, Option.bind_some, V.al h1.1]
      by_cases h3 : gal g (od q) = true
      · rw [if_pos h3, if_neg (by omega), sc_hit (by omega) (by unfold okb; rw [h3, decide_eq_false h2]; rfl)]
      · rw [if_neg h3, if_pos rfl, jw_s (by omega), P_firstL V H x he k (q + 1) N (by omega) (by omega), sc_miss (q := q) (by omega) (by unfold okb; rw [Bool.eq_false_iff.mpr h3]; simp)]
theorem P_first (V : GP g) (H : RP 1 m g od ps) {r : Nat} (hr : r < gn g) (x : Int) : f_People_firstLivingBelow m (r : Int) x = some (fb (gp g) (gn g) od ps (okb g x) r) := by
  have hn := V.n
  have h1 := H.o.2.1 r hr
  have h2 := en_spec V.f H.o hr
  unfold f_People_firstLivingBelow
  rw [P_end V H hr, Option.bind_some, P_place V H hr, Option.bind_some, jw_s (by omega)]
  exact P_firstL V H x h2.2.1 _ (ps r + 1) 99999 rfl (by omega)
theorem P_direct (V : GP g) (H : RP 1 m g od ps) {r : Nat} (hr : r < gn g) : f_People_directHeir m (r : Int) = some (fb (gp g) (gn g) od ps (okb g (-1)) r) := by
  unfold f_People_directHeir
  rw [P_first V H hr, Option.bind_some]
end People

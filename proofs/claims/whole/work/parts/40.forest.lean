/-! ===== forests: depth, ancestors ===== -/
/-- every parent is an earlier person, or -1 -/
def fvp (par : Nat → Int) (n : Nat) : Prop := ∀ i, i < n → par i = -1 ∨ (0 ≤ par i ∧ par i < (i : Int))
def dpF (par : Nat → Int) : Nat → Nat → Nat
  | 0, _ => 0
  | k + 1, x => if par x < 0 then 0 else dpF par k (par x).toNat + 1
/-- the generation -/
def dp (par : Nat → Int) (x : Nat) : Nat := dpF par (x + 1) x
def abF (par : Nat → Int) (a : Nat) : Nat → Nat → Bool
  | 0, _ => false
  | k + 1, x => Nat.beq x a || (decide (0 ≤ par x) && abF par a k (par x).toNat)
/-- a is x, or an ancestor of x -/
def AB (par : Nat → Int) (a x : Nat) : Prop := abF par a (x + 1) x = true
section Forest
variable {par : Nat → Int} {n : Nat}
theorem fvp.lt (h : fvp par n) {x : Nat} (hx : x < n) (hp : 0 ≤ par x) : (par x).toNat < x := by
  rcases h x hx with h1 | h1
  · omega
  · omega
theorem fvp.mono (h : fvp par n) {k : Nat} (hk : k ≤ n) : fvp par k := fun i hi => h i (by omega)
theorem dpF_eq (h : fvp par n) : ∀ (x k k' : Nat), x < n → x < k → x < k' → dpF par k x = dpF par k' x := by
  intro x
  induction x using Nat.strongRecOn with
  | ind x ih =>
    intro k k' hx hk hk'
    cases k with
    | zero => omega
    | succ k =>
      cases k' with
      | zero => omega
      | succ k' =>
        unfold dpF
        by_cases hp : par x < 0
        · rw [if_pos hp, if_pos hp]
        · rw [if_neg hp, if_neg hp]
          have h1 := h.lt hx (by omega)
          rw [ih _ h1 k k' (by omega) (by omega) (by omega)]
theorem dp_neg {x : Nat} (hp : par x < 0) : dp par x = 0 := by
  unfold dp dpF
  rw [if_pos hp]
theorem dp_pos (h : fvp par n) {x : Nat} (hx : x < n) (hp : 0 ≤ par x) : dp par x = dp par (par x).toNat + 1 := by
  have h1 := h.lt hx hp
  show dpF par (x + 1) x = dpF par ((par x).toNat + 1) (par x).toNat + 1
  conv => lhs; unfold dpF
  rw [if_neg (by omega), dpF_eq h (par x).toNat x ((par x).toNat + 1) (by omega) h1 (by omega)]
theorem dp_le (h : fvp par n) : ∀ (x : Nat), x < n → dp par x ≤ x := by
  intro x
  induction x using Nat.strongRecOn with
  | ind x ih =>
    intro hx
    by_cases hp : par x < 0
    · rw [dp_neg hp]; omega
    · have h1 := h.lt hx (by omega)
      rw [dp_pos h hx (by omega)]
      have := ih _ h1 (by omega)
      omega
theorem abF_eq (h : fvp par n) (a : Nat) : ∀ (x k k' : Nat), x < n → x < k → x < k' → abF par a k x = abF par a k' x := by
  intro x
  induction x using Nat.strongRecOn with
  | ind x ih =>
    intro k k' hx hk hk'
    cases k with
    | zero => omega
    | succ k =>
      cases k' with
      | zero => omega
      | succ k' =>
        unfold abF
        by_cases hp : 0 ≤ par x
        · have h1 := h.lt hx hp
          rw [ih _ h1 k k' (by omega) (by omega) (by omega)]
        · rw [decide_eq_false hp, Bool.false_and, Bool.false_and]
theorem AB_iff (h : fvp par n) {a x : Nat} (hx : x < n) : AB par a x ↔ x = a ∨ (0 ≤ par x ∧ AB par a (par x).toNat) := by
  unfold AB
  conv => lhs; unfold abF
  rw [Bool.or_eq_true, Bool.and_eq_true, decide_eq_true_eq]
  have e : Nat.beq x a = true ↔ x = a := ⟨Nat.eq_of_beq_eq_true, fun e => by rw [e]; exact Nat.beq_refl a⟩
  rw [e]
  by_cases hp : 0 ≤ par x
  · have h1 := h.lt hx hp
    rw [abF_eq h a (par x).toNat x ((par x).toNat + 1) (by omega) h1 (by omega)]
  · simp [hp]
theorem AB_refl (par : Nat → Int) (x : Nat) : AB par x x := by
  unfold AB abF
  rw [Nat.beq_refl, Bool.true_or]
theorem AB_up (h : fvp par n) {a x : Nat} (hx : x < n) (hp : 0 ≤ par x) (ha : AB par a (par x).toNat) : AB par a x := (AB_iff h hx).mpr (Or.inr ⟨hp, ha⟩)
theorem AB_par (h : fvp par n) {x : Nat} (hx : x < n) (hp : 0 ≤ par x) : AB par (par x).toNat x := AB_up h hx hp (AB_refl _ _)
theorem AB_le (h : fvp par n) {a : Nat} : ∀ (x : Nat), x < n → AB par a x → a ≤ x := by
  intro x
  induction x using Nat.strongRecOn with
  | ind x ih =>
    intro hx ha
    rcases (AB_iff h hx).mp ha with e | ⟨hp, h1⟩
    · omega
    · have h2 := h.lt hx hp
      have := ih _ h2 (by omega) h1
      omega
theorem AB_ne (h : fvp par n) {a x : Nat} (hx : x < n) (ha : AB par a x) (hne : a ≠ x) : 0 ≤ par x ∧ AB par a (par x).toNat := by
  rcases (AB_iff h hx).mp ha with e | h1
  · exact absurd e.symm hne
  · exact h1
theorem AB_trans (h : fvp par n) {a b : Nat} : ∀ (x : Nat), x < n → AB par a b → AB par b x → AB par a x := by
  intro x
  induction x using Nat.strongRecOn with
  | ind x ih =>
    intro hx h1 h2
    rcases (AB_iff h hx).mp h2 with e | ⟨hp, h3⟩
    · subst e; exact h1
    · have h4 := h.lt hx hp
      exact AB_up h hx hp (ih _ h4 (by omega) h1 h3)
theorem AB_chain (h : fvp par n) {a b : Nat} : ∀ (x : Nat), x < n → AB par a x → AB par b x → AB par a b ∨ AB par b a := by
  intro x
  induction x using Nat.strongRecOn with
  | ind x ih =>
    intro hx h1 h2
    by_cases ea : a = x
    · subst ea; exact Or.inr h2
    · by_cases eb : b = x
      · subst eb; exact Or.inl h1
      · obtain ⟨hp, h3⟩ := AB_ne h hx h1 ea
        obtain ⟨-, h4⟩ := AB_ne h hx h2 eb
        have h5 := h.lt hx hp
        exact ih _ h5 (by omega) h3 h4
theorem AB_dp (h : fvp par n) {a : Nat} : ∀ (x : Nat), x < n → AB par a x → dp par a ≤ dp par x ∧ (dp par a = dp par x → a = x) := by
  intro x
  induction x using Nat.strongRecOn with
  | ind x ih =>
    intro hx h1
    by_cases ea : a = x
    · subst ea; exact ⟨Nat.le_refl _, fun _ => rfl⟩
    · obtain ⟨hp, h3⟩ := AB_ne h hx h1 ea
      have h5 := h.lt hx hp
      have h6 := (ih _ h5 (by omega) h3).1
      have h7 := dp_pos h hx hp
      exact ⟨by omega, fun e => by omega⟩
theorem AB_antisymm (h : fvp par n) {a b : Nat} (ha : a < n) (hb : b < n) (h1 : AB par a b) (h2 : AB par b a) : a = b := by
  have h3 := AB_le h b hb h1
  have h4 := AB_le h a ha h2
  omega
/-- two of the same depth above one person are one -/
theorem AB_dp_eq (h : fvp par n) {a b x : Nat} (hx : x < n) (h1 : AB par a x) (h2 : AB par b x) (e : dp par a = dp par b) : a = b := by
  have ha : a < n := by have := AB_le h x hx h1; omega
  have hb : b < n := by have := AB_le h x hx h2; omega
  rcases AB_chain h x hx h1 h2 with h3 | h3
  · exact (AB_dp h b hb h3).2 e
  · exact ((AB_dp h a ha h3).2 e.symm).symm
/-- the founder of a person -/
def rtF (par : Nat → Int) : Nat → Nat → Nat
  | 0, x => x
  | k + 1, x => if par x < 0 then x else rtF par k (par x).toNat
def rt (par : Nat → Int) (x : Nat) : Nat := rtF par (x + 1) x
theorem rtF_eq (h : fvp par n) : ∀ (x k k' : Nat), x < n → x < k → x < k' → rtF par k x = rtF par k' x := by
  intro x
  induction x using Nat.strongRecOn with
  | ind x ih =>
    intro k k' hx hk hk'
    cases k with
    | zero => omega
    | succ k =>
      cases k' with
      | zero => omega
      | succ k' =>
        unfold rtF
        by_cases hp : par x < 0
        · rw [if_pos hp, if_pos hp]
        · rw [if_neg hp, if_neg hp]
          have h1 := h.lt hx (by omega)
          rw [ih _ h1 k k' (by omega) (by omega) (by omega)]
theorem rt_neg {x : Nat} (hp : par x < 0) : rt par x = x := by
  unfold rt rtF
  rw [if_pos hp]
theorem rt_pos (h : fvp par n) {x : Nat} (hx : x < n) (hp : 0 ≤ par x) : rt par x = rt par (par x).toNat := by
  have h1 := h.lt hx hp
  show rtF par (x + 1) x = rtF par ((par x).toNat + 1) (par x).toNat
  conv => lhs; unfold rtF
  rw [if_neg (by omega), rtF_eq h (par x).toNat x ((par x).toNat + 1) (by omega) h1 (by omega)]
theorem rt_spec (h : fvp par n) : ∀ (x : Nat), x < n → AB par (rt par x) x ∧ par (rt par x) < 0 := by
  intro x
  induction x using Nat.strongRecOn with
  | ind x ih =>
    intro hx
    by_cases hp : par x < 0
    · rw [rt_neg hp]; exact ⟨AB_refl _ _, hp⟩
    · have h1 := h.lt hx (by omega)
      rw [rt_pos h hx (by omega)]
      obtain ⟨a1, a2⟩ := ih _ h1 (by omega)
      exact ⟨AB_up h hx (by omega) a1, a2⟩
/-- an ancestor without a parent is the founder -/
theorem AB_root (h : fvp par n) {r x : Nat} (hx : x < n) (h1 : AB par r x) (hr : par r < 0) : r = rt par x := by
  obtain ⟨h2, h3⟩ := rt_spec h x hx
  refine AB_dp_eq h hx h1 h2 ?_
  rw [dp_neg hr, dp_neg h3]
/-! the nearest common ancestor -/
def lcF (par : Nat → Int) (b : Nat) : Nat → Nat → Int
  | 0, _ => -1
  | k + 1, x => if abF par x (b + 1) b = true then (x : Int) else if par x < 0 then -1 else lcF par b k (par x).toNat
/-- -1: none -/
def lc (par : Nat → Int) (a b : Nat) : Int := lcF par b (a + 1) a
theorem lcF_eq (h : fvp par n) (b : Nat) : ∀ (x k k' : Nat), x < n → x < k → x < k' → lcF par b k x = lcF par b k' x := by
  intro x
  induction x using Nat.strongRecOn with
  | ind x ih =>
    intro k k' hx hk hk'
    cases k with
    | zero => omega
    | succ k =>
      cases k' with
      | zero => omega
      | succ k' =>
        unfold lcF
        by_cases hab : abF par x (b + 1) b = true
        · rw [if_pos hab, if_pos hab]
        · rw [if_neg hab, if_neg hab]
          by_cases hp : par x < 0
          · rw [if_pos hp, if_pos hp]
          · rw [if_neg hp, if_neg hp]
            have h1 := h.lt hx (by omega)
            rw [ih _ h1 k k' (by omega) (by omega) (by omega)]
theorem lc_self {a b : Nat} (h : AB par a b) : lc par a b = (a : Int) := by
  unfold lc lcF
  exact if_pos h
theorem lc_none {a b : Nat} (h : ¬ AB par a b) (hp : par a < 0) : lc par a b = -1 := by
  have h' : ¬ abF par a (b + 1) b = true := h
  unfold lc lcF
  rw [if_neg h', if_pos hp]
theorem lc_up (h : fvp par n) {a b : Nat} (ha : a < n) (hab : ¬ AB par a b) (hp : 0 ≤ par a) : lc par a b = lc par (par a).toNat b := by
  have h1 := h.lt ha hp
  show lcF par b (a + 1) a = lcF par b ((par a).toNat + 1) (par a).toNat
  have hab' : ¬ abF par a (b + 1) b = true := hab
  conv => lhs; unfold lcF
  rw [if_neg hab', if_neg (by omega), lcF_eq h b (par a).toNat a ((par a).toNat + 1) (by omega) h1 (by omega)]
/-- what it is -/
theorem lc_spec (h : fvp par n) {b : Nat} : ∀ (a : Nat), a < n → (lc par a b = -1 ∧ ∀ c, AB par c a → ¬ AB par c b) ∨ (∃ c, lc par a b = ((c : Nat) : Int) ∧ AB par c a ∧ AB par c b ∧ ∀ d, AB par d a → AB par d b → AB par d c) := by
  intro a
  induction a using Nat.strongRecOn with
  | ind a ih =>
    intro ha
    by_cases hab : AB par a b
    · exact Or.inr ⟨a, lc_self hab, AB_refl _ _, hab, fun d h1 _ => h1⟩
    · by_cases hp : par a < 0
      · refine Or.inl ⟨lc_none hab hp, fun c hc hcb => ?_⟩
        rcases (AB_iff h ha).mp hc with e | ⟨h1, -⟩
        · subst e; exact hab hcb
        · omega
      · have h1 := h.lt ha (by omega)
        rw [lc_up h ha hab (by omega)]
        rcases ih _ h1 (by omega) with ⟨e, h2⟩ | ⟨c, e, h2, h3, h4⟩
        · refine Or.inl ⟨e, fun c hc hcb => ?_⟩
          rcases (AB_iff h ha).mp hc with e' | ⟨-, h5⟩
          · subst e'; exact hab hcb
          · exact h2 c h5 hcb
        · refine Or.inr ⟨c, e, AB_up h ha (by omega) h2, h3, fun d hd hdb => ?_⟩
          rcases (AB_iff h ha).mp hd with e' | ⟨-, h5⟩
          · subst e'; exact absurd hdb hab
          · exact h4 d h5 hdb
theorem lc_uniq (h : fvp par n) {a b c : Nat} (ha : a < n) (h1 : AB par c a) (h2 : AB par c b) (h3 : ∀ d, AB par d a → AB par d b → AB par d c) : lc par a b = (c : Int) := by
  rcases lc_spec h (b := b) a ha with ⟨-, h4⟩ | ⟨c', e, h4, h5, h6⟩
  · exact absurd h2 (h4 c h1)
  · have hc : c < n := by have := AB_le h a ha h1; omega
    have hc' : c' < n := by have := AB_le h a ha h4; omega
    rw [e, AB_antisymm h hc hc' (h6 c h1 h2) (h3 c' h4 h5)]
theorem lc_comm (h : fvp par n) {a b : Nat} (ha : a < n) (hb : b < n) : lc par a b = lc par b a := by
  rcases lc_spec h (b := b) a ha with ⟨e, h4⟩ | ⟨c', e, h4, h5, h6⟩
  · rcases lc_spec h (b := a) b hb with ⟨e2, -⟩ | ⟨c, e2, h7, h8, -⟩
    · rw [e, e2]
    · exact absurd h7 (h4 c h8)
  · rw [e, lc_uniq h hb h5 h4 fun d h1 h2 => h6 d h2 h1]
theorem lc_lt (h : fvp par n) {a b : Nat} (ha : a < n) : lc par a b = -1 ∨ (0 ≤ lc par a b ∧ lc par a b ≤ (a : Int)) := by
  rcases lc_spec h (b := b) a ha with ⟨e, -⟩ | ⟨c, e, h4, -, -⟩
  · exact Or.inl e
  · have := AB_le h a ha h4
    exact Or.inr ⟨by omega, by omega⟩
end Forest

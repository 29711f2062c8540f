/-! ===== the order of succession ===== -/
/-- od: who stands at a place; ps: the place of a person -/
def OD (par : Nat → Int) (n : Nat) (od ps : Nat → Nat) : Prop :=
  (∀ q, q < n → od q < n ∧ ps (od q) = q) ∧ (∀ x, x < n → ps x < n ∧ od (ps x) = x) ∧
  (∀ x, x < n → 0 ≤ par x → ps (par x).toNat < ps x) ∧
  (∀ x y z, x < n → y < n → z < n → ps x ≤ ps y → ps y < ps z → AB par x z → AB par x y) ∧
  (∀ x y, x < y → y < n → par x = par y → ps x < ps y)
section Order
variable {par : Nat → Int} {n : Nat} {od ps : Nat → Nat}
theorem OD.inj (h : OD par n od ps) {x y : Nat} (hx : x < n) (hy : y < n) (e : ps x = ps y) : x = y := by
  have h1 := (h.2.1 x hx).2
  have h2 := (h.2.1 y hy).2
  rw [← h1, e, h2]
theorem OD.od_inj (h : OD par n od ps) {q r : Nat} (hq : q < n) (hr : r < n) (e : od q = od r) : q = r := by
  rw [← (h.1 q hq).2, e, (h.1 r hr).2]
theorem OD.lt_AB (f : fvp par n) (h : OD par n od ps) {a : Nat} : ∀ (x : Nat), x < n → AB par a x → a ≠ x → ps a < ps x := by
  intro x
  induction x using Nat.strongRecOn with
  | ind x ih =>
    intro hx h1 hne
    obtain ⟨hp, h2⟩ := AB_ne f hx h1 hne
    have h3 := f.lt hx hp
    have h4 := h.2.2.1 x hx hp
    by_cases e : a = (par x).toNat
    · rw [e]; exact h4
    · have := ih _ h3 (by omega) h2 e
      omega
/-- who comes next, if not a founder, is a child of the person at this place or of one above -/
theorem OD.next_par (f : fvp par n) (h : OD par n od ps) {q : Nat} (hq : q + 1 < n) (hp : 0 ≤ par (od (q + 1))) : AB par (par (od (q + 1))).toNat (od q) := by
  have hz := h.1 (q + 1) hq
  have hy := h.1 q (by omega)
  have hc := f.lt hz.1 hp
  have h1 := h.2.2.1 _ hz.1 hp
  rw [hz.2] at h1
  exact h.2.2.2.1 (par (od (q + 1))).toNat (od q) (od (q + 1)) (by omega) hy.1 hz.1 (by rw [hy.2]; omega) (by rw [hy.2, hz.2]; omega) (AB_par f hz.1 hp)
/-- no child behind: whoever comes next isn't below -/
theorem OD.no_child (f : fvp par n) (h : OD par n od ps) {q w : Nat} (hq : q < n) (hw : w < n) (hpw : par w = (od q : Int)) (hnext : q + 1 < n → ¬ AB par (od q) (od (q + 1))) : False := by
  have hy := h.1 q hq
  have hAB : AB par (od q) w := by
    have := AB_par f hw (by omega)
    rw [hpw] at this
    exact this
  have h1 := h.2.2.1 w hw (by omega)
  rw [hpw] at h1
  have h2 : q < ps w := by
    have : ((od q : Nat) : Int).toNat = od q := by omega
    rw [this, hy.2] at h1
    exact h1
  have h3 := (h.2.1 w hw).1
  have hz := h.1 (q + 1) (by omega)
  by_cases e : ps w = q + 1
  · have : w = od (q + 1) := by rw [← (h.2.1 w hw).2, e]
    rw [this] at hAB
    exact hnext (by omega) hAB
  · exact hnext (by omega) (h.2.2.2.1 (od q) (od (q + 1)) w hy.1 hz.1 hw (by rw [hy.2, hz.2]; omega) (by rw [hz.2]; omega) hAB)
/-- a later brother or sister of p, a person at this place or above: comes next at once, or isn't there -/
theorem OD.later (f : fvp par n) (h : OD par n od ps) {q p s : Nat} (hq : q < n) (hp : AB par p (od q)) (hs : s < n) (hps : p < s) (e : par s = par p) (hp0 : 0 ≤ par p) : ¬ AB par p s ∧ q < ps s ∧ q + 1 < n ∧ AB par (par p).toNat (od (q + 1)) := by
  have hy := h.1 q hq
  have hpn : p < n := by omega
  have h1 := h.2.2.2.2 p s hps hs e.symm
  have hns : ¬ AB par p s := fun hA => by
    obtain ⟨h2, h3⟩ := AB_ne f hs hA (by omega)
    rw [e] at h3
    have := AB_le f _ (by have := f.lt hpn hp0; omega) h3
    have := f.lt hpn hp0
    omega
  have h2 : q < ps s := by
    by_cases h3 : ps s ≤ q
    · exfalso
      refine hns ?_
      by_cases h4 : ps s = q
      · have : s = od q := by rw [← (h.2.1 s hs).2, h4]
        rw [this]; exact hp
      · exact h.2.2.2.1 p s (od q) hpn hs hy.1 (by omega) (by rw [hy.2]; omega) hp
    · omega
  have h3 := (h.2.1 s hs).1
  refine ⟨hns, h2, by omega, ?_⟩
  have hz := h.1 (q + 1) (by omega)
  have hu := f.lt hpn hp0
  have hAs : AB par (par p).toNat s := by
    have := AB_par f hs (by omega)
    rw [e] at this
    exact this
  by_cases e4 : ps s = q + 1
  · have : s = od (q + 1) := by rw [← (h.2.1 s hs).2, e4]
    rw [← this]; exact hAs
  · have h5 : ps (par p).toNat ≤ q := by
      have h6 := h.2.2.1 p hpn hp0
      have h7 : ps p ≤ q := by
        by_cases e6 : p = od q
        · rw [e6, hy.2]; omega
        · have := h.lt_AB f _ hy.1 hp e6
          rw [hy.2] at this
          omega
      omega
    exact h.2.2.2.1 (par p).toNat (od (q + 1)) s (by omega) hz.1 hs (by rw [hz.2]; omega) (by rw [hz.2]; omega) hAs
/-- a branch, by its places: from the person's own on, as long as the generation is greater -/
theorem OD.branch (f : fvp par n) (h : OD par n od ps) {x q : Nat} (hx : x < n) (hq : q + 1 < n) (hxq : ps x ≤ q) (hin : AB par x (od q)) : AB par x (od (q + 1)) ↔ dp par x < dp par (od (q + 1)) := by
  have hz := h.1 (q + 1) hq
  constructor
  · intro h1
    have h2 := AB_dp f _ hz.1 h1
    have h3 : x ≠ od (q + 1) := fun e => by
      have := hz.2
      rw [← e] at this
      omega
    have : dp par x ≠ dp par (od (q + 1)) := fun e => h3 (h2.2 e)
    omega
  · intro h1
    by_cases hp : 0 ≤ par (od (q + 1))
    · have h2 := h.next_par f hq hp
      have h3 := dp_pos f hz.1 hp
      have hy := h.1 q (by omega)
      rcases AB_chain f _ hy.1 hin h2 with h4 | h4
      · exact AB_up f hz.1 hp h4
      · have h5 := AB_dp f x hx h4
        have e := h5.2 (by omega)
        exact AB_up f hz.1 hp (by rw [e]; exact AB_refl _ _)
    · rw [dp_neg (x := od (q + 1)) (by omega)] at h1
      omega
/-- the place behind the last of a branch -/
def enF (par : Nat → Int) (n : Nat) (od : Nat → Nat) (x : Nat) : Nat → Nat → Nat
  | 0, q => q
  | k + 1, q => if q < n ∧ dp par x < dp par (od q) then enF par n od x k (q + 1) else q
def en (par : Nat → Int) (n : Nat) (od ps : Nat → Nat) (x : Nat) : Nat := enF par n od x (n - (ps x + 1)) (ps x + 1)
theorem enF_spec (f : fvp par n) (h : OD par n od ps) {x : Nat} (hx : x < n) : ∀ (k q : Nat), q + k = n → ps x < q → (∀ r, ps x ≤ r → r < q → AB par x (od r)) →
    q ≤ enF par n od x k q ∧ enF par n od x k q ≤ n ∧ (∀ r, ps x ≤ r → r < enF par n od x k q → AB par x (od r)) ∧ (enF par n od x k q < n → ¬ AB par x (od (enF par n od x k q)))
  | 0, q, hq, h1, h2 => ⟨Nat.le_refl _, by show q ≤ n; omega, h2, fun h3 => by have : q < n := h3; omega⟩
  | k + 1, q, hq, h1, h2 => by
    have hb := h.branch f (x := x) (q := q - 1) hx (by omega) (by omega) (h2 (q - 1) (by omega) (by omega))
    rw [show q - 1 + 1 = q by omega] at hb
    unfold enF
    by_cases h3 : q < n ∧ dp par x < dp par (od q)
    · rw [if_pos h3]
      obtain ⟨a1, a2, a3, a4⟩ := enF_spec f h hx k (q + 1) (by omega) (by omega) (fun r hr1 hr2 => by
        by_cases e : r = q
        · rw [e]; exact hb.mpr h3.2
        · exact h2 r hr1 (by omega))
      exact ⟨by omega, a2, a3, a4⟩
    · rw [if_neg h3]
      exact ⟨Nat.le_refl _, by omega, h2, fun h4 h5 => h3 ⟨h4, hb.mp h5⟩⟩
theorem en_spec (f : fvp par n) (h : OD par n od ps) {x : Nat} (hx : x < n) : ps x < en par n od ps x ∧ en par n od ps x ≤ n ∧ (∀ r, ps x ≤ r → r < en par n od ps x → AB par x (od r)) ∧ (en par n od ps x < n → ¬ AB par x (od (en par n od ps x))) := by
  have h1 := (h.2.1 x hx)
  obtain ⟨a1, a2, a3, a4⟩ := enF_spec f h hx (n - (ps x + 1)) (ps x + 1) (by omega) (by omega) (fun r hr1 hr2 => by
    have : r = ps x := by omega
    rw [this, h1.2]; exact AB_refl _ _)
  exact ⟨by unfold en; omega, a2, a3, a4⟩
/-- below or at x: between its place and the end -/
theorem en_iff (f : fvp par n) (h : OD par n od ps) {x y : Nat} (hx : x < n) (hy : y < n) : AB par x y ↔ ps x ≤ ps y ∧ ps y < en par n od ps x := by
  obtain ⟨a1, a2, a3, a4⟩ := en_spec f h hx
  have hy1 := h.2.1 y hy
  constructor
  · intro h1
    have h2 : ps x ≤ ps y := by
      by_cases e : x = y
      · rw [e]; omega
      · have := h.lt_AB f _ hy h1 e; omega
    refine ⟨h2, ?_⟩
    by_cases h3 : ps y < en par n od ps x
    · exact h3
    · exfalso
      have h4 : en par n od ps x < n := by omega
      have hz := h.1 _ h4
      by_cases e : ps y = en par n od ps x
      · have : y = od (en par n od ps x) := by rw [← hy1.2, e]
        rw [this] at h1
        exact a4 h4 h1
      · exact a4 h4 (h.2.2.2.1 x _ y hx hz.1 hy (by rw [hz.2]; omega) (by rw [hz.2]; omega) h1)
  · rintro ⟨h1, h2⟩
    have := a3 (ps y) h1 h2
    rw [hy1.2] at this
    exact this
/-- the end of a branch that holds another branch -/
theorem en_mono (f : fvp par n) (h : OD par n od ps) {x y : Nat} (hx : x < n) (hy : y < n) (hxy : AB par x y) : en par n od ps y ≤ en par n od ps x := by
  obtain ⟨a1, a2, a3, a4⟩ := en_spec f h hx
  obtain ⟨b1, b2, b3, b4⟩ := en_spec f h hy
  by_cases h1 : en par n od ps y ≤ en par n od ps x
  · exact h1
  · exfalso
    have h2 := (en_iff f h hx hy).mp hxy
    have h3 := b3 (en par n od ps x) (by omega) (by omega)
    have h4 : en par n od ps x < n := by omega
    have hz := h.1 _ h4
    exact a4 h4 (AB_trans f _ hz.1 hxy h3)
end Order

/-! ===== a person more ===== -/
section Congr
variable {par par' : Nat → Int} {n : Nat}
theorem fvp_congr (f : fvp par n) (e : ∀ i, i < n → par' i = par i) : fvp par' n := fun i hi => by rw [e i hi]; exact f i hi
theorem AB_congr (f : fvp par n) (e : ∀ i, i < n → par' i = par i) {a : Nat} : ∀ (x : Nat), x < n → (AB par' a x ↔ AB par a x) := by
  have f' := fvp_congr f e
  intro x
  induction x using Nat.strongRecOn with
  | ind x ih =>
    intro hx
    rw [AB_iff f' hx, AB_iff f hx, e x hx]
    by_cases hp : 0 ≤ par x
    · have h1 := f.lt hx hp
      rw [ih _ h1 (by omega)]
    · simp [hp]
theorem dp_congr (f : fvp par n) (e : ∀ i, i < n → par' i = par i) : ∀ (x : Nat), x < n → dp par' x = dp par x := by
  have f' := fvp_congr f e
  intro x
  induction x using Nat.strongRecOn with
  | ind x ih =>
    intro hx
    by_cases hp : 0 ≤ par x
    · have h1 := f.lt hx hp
      rw [dp_pos f hx hp, dp_pos f' hx (by rw [e x hx]; exact hp), e x hx, ih _ h1 (by omega)]
    · rw [dp_neg (par := par) (x := x) (by omega), dp_neg (par := par') (x := x) (by rw [e x hx]; omega)]
theorem OD_congr {od ps : Nat → Nat} (f : fvp par n) (e : ∀ i, i < n → par' i = par i) (h : OD par n od ps) : OD par' n od ps := by
  obtain ⟨h1, h2, h3, h4, h5⟩ := h
  refine ⟨h1, h2, fun x hx hp => ?_, fun x y z hx hy hz a b c => ?_, fun x y hxy hy c => ?_⟩
  · rw [e x hx] at hp ⊢
    exact h3 x hx hp
  · rw [AB_congr f e _ hz] at c
    rw [AB_congr f e _ hy]
    exact h4 x y z hx hy hz a b c
  · rw [e x (by omega), e y hy] at c
    exact h5 x y hxy hy c
theorem OD_ext {od od' ps : Nat → Nat} (e : ∀ q, q < n → od' q = od q) (h : OD par n od ps) : OD par n od' ps := by
  obtain ⟨h1, h2, h3, h4, h5⟩ := h
  refine ⟨fun q hq => by rw [e q hq]; exact h1 q hq, fun x hx => ⟨(h2 x hx).1, by rw [e _ (h2 x hx).1]; exact (h2 x hx).2⟩, h3, h4, h5⟩
end Congr
section Add
variable {par par' : Nat → Int} {n : Nat} {od ps : Nat → Nat}
/-- the order with the person n at this place -/
def odA (n : Nat) (od : Nat → Nat) (pl q : Nat) : Nat := if q < pl then od q else if q = pl then n else od (q - 1)
def psA (n : Nat) (ps : Nat → Nat) (pl x : Nat) : Nat := if x = n then pl else if ps x < pl then ps x else ps x + 1
theorem OD_add (f : fvp par n) (h : OD par n od ps) (e : ∀ i, i < n → par' i = par i) {p : Int} (hp : par' n = p) (hpn : p = -1 ∨ (0 ≤ p ∧ p < (n : Int))) {pl : Nat} (hpl : pl = if p = -1 then n else en par n od ps p.toNat) :
    fvp par' (n + 1) ∧ OD par' (n + 1) (odA n od pl) (psA n ps pl) := by
  have f' : fvp par' (n + 1) := fun i hi => by
    by_cases hin : i = n
    · subst hin; rw [hp]; exact hpn
    · rw [e i (by omega)]; exact f i (by omega)
  have f0 := fvp_congr f e
  have hle : pl ≤ n := by
    rw [hpl]
    split
    · omega
    · exact (en_spec f h (by omega)).2.1
  have hAn : ∀ x, x < n → (AB par' x n ↔ 0 ≤ p ∧ AB par x p.toNat) := fun x hx => by
    rw [AB_iff f' (by omega), hp]
    constructor
    · rintro (h1 | ⟨h1, h2⟩)
      · omega
      · exact ⟨h1, (AB_congr f e _ (by omega)).mp h2⟩
    · rintro ⟨h1, h2⟩
      exact Or.inr ⟨h1, (AB_congr f e _ (by omega)).mpr h2⟩
  have hAB : ∀ x z, z < n → (AB par' x z ↔ AB par x z) := fun x z hz => AB_congr f e z hz
  have hmono : ∀ x y, x < n → y < n → (psA n ps pl x < psA n ps pl y ↔ ps x < ps y) := fun x y hx hy => by
    unfold psA
    rw [if_neg (show ¬ x = n by omega), if_neg (show ¬ y = n by omega)]
    split <;> split <;> omega
  refine ⟨f', ?_, ?_, ?_, ?_, ?_⟩
  · intro q hq
    unfold odA psA
    by_cases h1 : q < pl
    · rw [if_pos h1]
      have h2 := h.1 q (by omega)
      refine ⟨by omega, ?_⟩
      rw [if_neg (by omega), h2.2, if_pos h1]
    · rw [if_neg h1]
      by_cases h3 : q = pl
      · rw [if_pos h3]
        exact ⟨by omega, by rw [if_pos rfl]; omega⟩
      · rw [if_neg h3]
        have h2 := h.1 (q - 1) (by omega)
        refine ⟨by omega, ?_⟩
        rw [if_neg (by omega), h2.2, if_neg (by omega)]
        omega
  · intro x hx
    unfold odA psA
    by_cases h1 : x = n
    · rw [if_pos h1]
      exact ⟨by omega, by rw [if_neg (by omega), if_pos rfl]; exact h1.symm⟩
    · rw [if_neg h1]
      have h2 := h.2.1 x (by omega)
      by_cases h3 : ps x < pl
      · rw [if_pos h3]
        exact ⟨by omega, by rw [if_pos h3]; exact h2.2⟩
      · rw [if_neg h3]
        refine ⟨by omega, ?_⟩
        rw [if_neg (by omega), if_neg (by omega), Nat.add_sub_cancel]
        exact h2.2
  · intro x hx hp0
    by_cases h1 : x = n
    · subst h1
      rw [hp] at hp0 ⊢
      have h2 := en_spec f h (x := p.toNat) (by omega)
      unfold psA
      rw [if_neg (by omega), if_pos rfl]
      rw [if_neg (by omega)] at hpl
      rw [if_pos (by omega)]
      omega
    · rw [e x (by omega)] at hp0 ⊢
      have := f.lt (x := x) (by omega) hp0
      rw [hmono _ _ (by omega) (by omega)]
      exact h.2.2.1 x (by omega) hp0
  · intro x y z hx hy hz h1 h2 h3
    by_cases ez : z = n
    · have ey : y ≠ n := fun ey => by rw [ey, ez] at h2; omega
      have ex : x ≠ n := fun ex => by rw [ex] at h1; rw [ez] at h2; omega
      rw [ez] at h3
      obtain ⟨hp0, h4⟩ := (hAn x (by omega)).mp h3
      rw [hAB x y (by omega)]
      rw [if_neg (by omega)] at hpl
      have h5 := en_mono f h (by omega) (by omega) h4
      refine (en_iff f h (by omega) (by omega)).mpr ⟨?_, ?_⟩
      · by_cases h6 : ps x ≤ ps y
        · exact h6
        · have := (hmono y x (by omega) (by omega)).mpr (by omega)
          omega
      · unfold psA at h2
        rw [if_neg ey, ez, if_pos rfl] at h2
        split at h2 <;> omega
    · have h3' := (hAB x z (by omega)).mp h3
      have hxz := AB_le f z (by omega) h3'
      have ex : x ≠ n := by omega
      by_cases ey : y = n
      · rw [ey, hAn x (by omega)]
        have hz1 := h.2.1 z (by omega)
        have hx1 := h.2.1 x (by omega)
        unfold psA at h1 h2
        rw [if_neg ex, ey, if_pos rfl] at h1
        rw [ey, if_pos rfl, if_neg ez] at h2
        have hzp : pl ≤ ps z := by
          by_cases h6 : pl ≤ ps z
          · exact h6
          · rw [if_pos (by omega)] at h2; omega
        have hxp : ps x < pl := by
          by_cases h6 : ps x < pl
          · exact h6
          · rw [if_neg h6] at h1; omega
        have hp0 : 0 ≤ p := by
          by_cases h6 : p = -1
          · rw [if_pos h6] at hpl; omega
          · omega
        refine ⟨hp0, ?_⟩
        rw [if_neg (by omega)] at hpl
        obtain ⟨b1, b2, b3, b4⟩ := en_spec f h (x := p.toNat) (by omega)
        have hq := h.1 (pl - 1) (by omega)
        have h7 := b3 (pl - 1) (by omega) (by omega)
        have h8 := h.2.2.2.1 x (od (pl - 1)) z (by omega) hq.1 (by omega) (by rw [hq.2]; omega) (by rw [hq.2]; omega) h3'
        rcases AB_chain f _ hq.1 h8 h7 with h9 | h9
        · exact h9
        · exfalso
          have h10 := AB_trans f z (by omega) h9 h3'
          have := ((en_iff f h (by omega) (by omega)).mp h10).2
          omega
      · rw [hAB x y (by omega)]
        refine h.2.2.2.1 x y z (by omega) (by omega) (by omega) ?_ ((hmono y z (by omega) (by omega)).mp h2) h3'
        by_cases h6 : ps x ≤ ps y
        · exact h6
        · have := (hmono y x (by omega) (by omega)).mpr (by omega)
          omega
  · intro x y hxy hy h1
    by_cases ey : y = n
    · rw [ey, e x (by omega), hp] at h1
      unfold psA
      rw [if_neg (by omega), if_pos ey]
      have hx1 := h.2.1 x (by omega)
      have h2 : ps x < pl := by
        rw [hpl]
        split
        · omega
        · have h3 : AB par p.toNat x := by
            have := AB_par f (x := x) (by omega) (by omega)
            rw [h1] at this
            exact this
          exact ((en_iff f h (by omega) (by omega)).mp h3).2
      rw [if_pos h2]
      exact h2
    · rw [e x (by omega), e y (by omega)] at h1
      exact (hmono x y (by omega) (by omega)).mpr (h.2.2.2.2 x y hxy (by omega) h1)
end Add

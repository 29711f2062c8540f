/-! ===== the heir ===== -/
/-- up from the parent p of c: what was found, or the next above -/
def hrF (par : Nat → Int) (n : Nat) (od ps : Nat → Nat) (al : Nat → Bool) (x : Nat) : Nat → Int → Int → Int
  | 0, found, _ => found
  | k + 1, found, p => if 0 ≤ found ∨ p < 0 then found else hrF par n od ps al x k (if al p.toNat = true then p else fb par n od ps (fun y => al y && !(Nat.beq y x)) p.toNat) (par p.toNat)
def hr (par : Nat → Int) (n : Nat) (od ps : Nat → Nat) (al : Nat → Bool) (x : Nat) : Int := hrF par n od ps al x (n + 1) (fb par n od ps (fun y => al y && !(Nat.beq y x)) x) (par x)
/-- who may be the heir of x -/
def elig (par : Nat → Int) (n : Nat) (al : Nat → Bool) (x y : Nat) : Prop := y < n ∧ y ≠ x ∧ al y = true ∧ lc par y x ≠ -1
/-- y comes before z -/
def before (par : Nat → Int) (ps : Nat → Nat) (x y z : Nat) : Prop := dp par (lc par z x).toNat < dp par (lc par y x).toNat ∨ (dp par (lc par z x).toNat = dp par (lc par y x).toNat ∧ ps y < ps z)
section Heir
variable {par : Nat → Int} {n : Nat} {od ps : Nat → Nat} {al : Nat → Bool}
theorem fb_spec (f : fvp par n) (h : OD par n od ps) (ok : Nat → Bool) {r : Nat} (hr' : r < n) : (fb par n od ps ok r = -1 ∧ ∀ y, y < n → AB par r y → y ≠ r → ok y = false) ∨ ∃ y, fb par n od ps ok r = ((y : Nat) : Int) ∧ y < n ∧ AB par r y ∧ y ≠ r ∧ ok y = true ∧ ∀ z, z < n → AB par r z → z ≠ r → ok z = true → z ≠ y → ps y < ps z := by
  have hrr := h.2.1 r hr'
  have hen := en_spec f h hr'
  have key : ∀ z, z < n → AB par r z → z ≠ r → ps r + 1 ≤ ps z ∧ ps z < en par n od ps r := fun z hz h1 h2 => by
    have h3 := (en_iff f h hr' hz).mp h1
    have h4 := h.lt_AB f z hz h1 (fun e => h2 e.symm)
    exact ⟨by omega, h3.2⟩
  rcases sc_spec od ok (en par n od ps r) _ (ps r + 1) rfl with ⟨e, h1⟩ | ⟨q, e, h1, h2, h3, h4⟩
  · refine Or.inl ⟨e, fun y hy a b => ?_⟩
    obtain ⟨k1, k2⟩ := key y hy a b
    have := h1 (ps y) k1 k2
    rwa [(h.2.1 y hy).2] at this
  · have hq := h.1 q (by omega)
    refine Or.inr ⟨od q, e, hq.1, hen.2.2.1 q (by omega) h2, fun e' => ?_, h3, fun z hz a b c d => ?_⟩
    · have := hq.2
      rw [e'] at this
      omega
    · obtain ⟨k1, k2⟩ := key z hz a b
      rw [hq.2]
      by_cases h5 : q < ps z
      · exact h5
      · exfalso
        by_cases h6 : ps z = q
        · exact d (by rw [← h6, (h.2.1 z hz).2])
        · have := h4 (ps z) k1 (by omega)
          rw [(h.2.1 z hz).2, c] at this
          cases this
theorem fb_lt (f : fvp par n) (h : OD par n od ps) (ok : Nat → Bool) {r : Nat} (hr' : r < n) : fb par n od ps ok r = -1 ∨ (0 ≤ fb par n od ps ok r ∧ fb par n od ps ok r < (n : Int)) := by
  rcases fb_spec f h ok hr' with ⟨e, -⟩ | ⟨y, e, hy, -⟩
  · exact Or.inl e
  · exact Or.inr ⟨by omega, by omega⟩
/-- outside the branch of c, on the way from x up: the nearest common ancestor is above c -/
theorem lc_out (f : fvp par n) {x c z : Nat} (hx : x < n) (hc : AB par c x) (hz : z < n) (hzc : ¬ AB par c z) (hl : lc par z x ≠ -1) : 0 ≤ par c ∧ ∃ w, lc par z x = ((w : Nat) : Int) ∧ AB par w z ∧ AB par w x ∧ AB par w (par c).toNat := by
  have hcn : c < n := by have := AB_le f x hx hc; omega
  rcases lc_spec f (b := x) z hz with ⟨e, -⟩ | ⟨w, e, h1, h2, h3⟩
  · exact absurd e hl
  · have hwn : w < n := by have := AB_le f x hx h2; omega
    rcases AB_chain f x hx hc h2 with h4 | h4
    · exact absurd (AB_trans f z hz h4 h1) hzc
    · have h5 : w ≠ c := fun e' => hzc (by rw [← e']; exact h1)
      obtain ⟨a1, a2⟩ := AB_ne f hcn h4 h5
      exact ⟨a1, w, e, h1, h2, a2⟩
theorem hrF_spec (f : fvp par n) (h : OD par n od ps) {x : Nat} (hx : x < n) : ∀ (k c : Nat) (found : Int), c < k → AB par c x →
    ((found = -1 ∧ ∀ z, elig par n al x z → ¬ AB par c z) ∨ ∃ y, found = ((y : Nat) : Int) ∧ elig par n al x y ∧ ∀ z, elig par n al x z → z ≠ y → before par ps x y z) →
    ((hrF par n od ps al x k found (par c) = -1 ∧ ∀ z, ¬ elig par n al x z) ∨ ∃ y, hrF par n od ps al x k found (par c) = ((y : Nat) : Int) ∧ elig par n al x y ∧ ∀ z, elig par n al x z → z ≠ y → before par ps x y z)
  | 0, c, found, h0, _, _ => by omega
  | k + 1, c, found, h0, hc, hf => by
    have hcn : c < n := by have := AB_le f x hx hc; omega
    unfold hrF
    rcases hf with ⟨e, h1⟩ | ⟨y, e, h1, h2⟩
    · subst e
      by_cases hp : par c < 0
      · rw [if_pos (Or.inr hp)]
        refine Or.inl ⟨rfl, fun z hz => ?_⟩
        obtain ⟨a1, -⟩ := lc_out f hx hc hz.1 (h1 z hz) hz.2.2.2
        omega
      · rw [if_neg (by omega)]
        have hpc := f.lt hcn (by omega)
        have hpx : AB par (par c).toNat x := AB_trans f x hx (AB_par f hcn (by omega)) hc
        have hpn : (par c).toNat < n := by omega
        have hpx' : (par c).toNat ≠ x := fun e' => by have := AB_le f x hx hc; omega
        -- all who are eligible outside the branch of c
        have hout : ∀ z, elig par n al x z → ∃ w, lc par z x = ((w : Nat) : Int) ∧ AB par w z ∧ AB par w x ∧ AB par w (par c).toNat := fun z hz => (lc_out f hx hc hz.1 (h1 z hz) hz.2.2.2).2
        refine hrF_spec f h hx k (par c).toNat _ (by omega) hpx ?_
        by_cases hal : al (par c).toNat = true
        · rw [if_pos hal]
          have hlp : lc par (par c).toNat x = (((par c).toNat : Nat) : Int) := lc_self hpx
          refine Or.inr ⟨(par c).toNat, by omega, ⟨hpn, hpx', hal, by rw [hlp]; omega⟩, fun z hz hne => ?_⟩
          obtain ⟨w, e1, e2, e3, e4⟩ := hout z hz
          have h5 := AB_dp f _ hpn e4
          unfold before
          rw [e1, hlp]
          by_cases h6 : w = (par c).toNat
          · refine Or.inr ⟨by rw [h6], ?_⟩
            refine h.lt_AB f z hz.1 (by rw [← h6]; exact e2) (fun e' => hne e'.symm)
          · refine Or.inl ?_
            have : dp par w ≠ dp par (par c).toNat := fun e' => h6 (h5.2 e')
            show dp par ((w : Nat) : Int).toNat < dp par (((par c).toNat : Nat) : Int).toNat
            rw [Int.toNat_natCast, Int.toNat_natCast]
            omega
        · rw [if_neg hal]
          rcases fb_spec f h (fun y => al y && !(Nat.beq y x)) hpn with ⟨e', h3⟩ | ⟨y, e', hy, a1, a2, a3, a4⟩
          · refine Or.inl ⟨e', fun z hz hA => ?_⟩
            have hne : z ≠ (par c).toNat := fun e2 => hal (by rw [← e2]; exact hz.2.2.1)
            have h4 := h3 z hz.1 hA hne
            have h5 : (al z && !(Nat.beq z x)) = false := h4
            rw [hz.2.2.1] at h5
            have : Nat.beq z x = true := by
              cases hb : Nat.beq z x
              · rw [hb] at h5; cases h5
              · rfl
            exact hz.2.1 (Nat.eq_of_beq_eq_true this)
          · have a3' : (al y && !(Nat.beq y x)) = true := a3
            rw [Bool.and_eq_true] at a3'
            have hyx : y ≠ x := fun e2 => by
              have := a3'.2
              rw [e2, Nat.beq_refl] at this
              cases this
            have hfam : ∃ w, lc par y x = ((w : Nat) : Int) ∧ AB par w y ∧ AB par w x ∧ ∀ d, AB par d y → AB par d x → AB par d w := by
              rcases lc_spec f (b := x) y hy with ⟨e2, h6⟩ | h6
              · exact absurd hpx (h6 _ a1)
              · exact h6
            obtain ⟨w0, ew, -, -, -⟩ := hfam
            have hey : elig par n al x y := ⟨hy, hyx, a3'.1, by rw [ew]; omega⟩
            have hyc := h1 y hey
            have hly : lc par y x = (((par c).toNat : Nat) : Int) := lc_uniq f hy a1 hpx fun d h7 h8 => by
              rcases AB_chain f x hx hc h8 with h9 | h9
              · exact absurd (AB_trans f y hy h9 h7) hyc
              · have h10 : d ≠ c := fun e2 => hyc (by rw [← e2]; exact h7)
                exact (AB_ne f hcn h9 h10).2
            refine Or.inr ⟨y, e', hey, fun z hz hne => ?_⟩
            obtain ⟨w, e1, e2, e3, e4⟩ := hout z hz
            have h5 := AB_dp f _ hpn e4
            unfold before
            rw [e1, hly]
            by_cases h6 : w = (par c).toNat
            · refine Or.inr ⟨by rw [h6], ?_⟩
              have hzp : z ≠ (par c).toNat := fun e5 => hal (by rw [← e5]; exact hz.2.2.1)
              refine a4 z hz.1 (by rw [← h6]; exact e2) hzp ?_ hne
              have : Nat.beq z x = false := by
                cases hb : Nat.beq z x
                · rfl
                · exact absurd (Nat.eq_of_beq_eq_true hb) hz.2.1
              show (al z && !(Nat.beq z x)) = true
              rw [hz.2.2.1, this]
              rfl
            · refine Or.inl ?_
              have : dp par w ≠ dp par (par c).toNat := fun e' => h6 (h5.2 e')
              show dp par ((w : Nat) : Int).toNat < dp par (((par c).toNat : Nat) : Int).toNat
              rw [Int.toNat_natCast, Int.toNat_natCast]
              omega
    · rw [if_pos (Or.inl (by omega))]
      exact Or.inr ⟨y, e, h1, h2⟩
theorem hr_spec (f : fvp par n) (h : OD par n od ps) {x : Nat} (hx : x < n) : (hr par n od ps al x = -1 ∧ ∀ z, ¬ elig par n al x z) ∨ ∃ y, hr par n od ps al x = ((y : Nat) : Int) ∧ elig par n al x y ∧ ∀ z, elig par n al x z → z ≠ y → before par ps x y z := by
  refine hrF_spec f h hx (n + 1) x _ (by omega) (AB_refl _ _) ?_
  rcases fb_spec f h (fun y => al y && !(Nat.beq y x)) hx with ⟨e', h3⟩ | ⟨y, e', hy, a1, a2, a3, a4⟩
  · refine Or.inl ⟨e', fun z hz hA => ?_⟩
    have h4 : (al z && !(Nat.beq z x)) = false := h3 z hz.1 hA hz.2.1
    rw [hz.2.2.1] at h4
    have : Nat.beq z x = true := by
      cases hb : Nat.beq z x
      · rw [hb] at h4; cases h4
      · rfl
    exact hz.2.1 (Nat.eq_of_beq_eq_true this)
  · have a3' : (al y && !(Nat.beq y x)) = true := a3
    rw [Bool.and_eq_true] at a3'
    have hlx : lc par y x = ((x : Nat) : Int) := lc_uniq f hy a1 (AB_refl _ _) fun d _ h8 => h8
    refine Or.inr ⟨y, e', ⟨hy, a2, a3'.1, by rw [hlx]; omega⟩, fun z hz hne => ?_⟩
    rcases lc_spec f (b := x) z hz.1 with ⟨e, -⟩ | ⟨w, e, h1, h2, h3⟩
    · exact absurd e hz.2.2.2
    · have h5 := AB_dp f x hx h2
      unfold before
      rw [e, hlx]
      by_cases h6 : w = x
      · refine Or.inr ⟨by rw [h6], ?_⟩
        refine a4 z hz.1 (by rw [← h6]; exact h1) hz.2.1 ?_ hne
        have : Nat.beq z x = false := by
          cases hb : Nat.beq z x
          · rfl
          · exact absurd (Nat.eq_of_beq_eq_true hb) hz.2.1
        show (al z && !(Nat.beq z x)) = true
        rw [hz.2.2.1, this]
        rfl
      · refine Or.inl ?_
        have : dp par w ≠ dp par x := fun e' => h6 (h5.2 e')
        show dp par ((w : Nat) : Int).toNat < dp par ((x : Nat) : Int).toNat
        rw [Int.toNat_natCast, Int.toNat_natCast]
        omega
theorem before_asymm {x y z : Nat} (h1 : before par ps x y z) (h2 : before par ps x z y) : False := by
  unfold before at h1 h2
  omega
theorem before_trans {x y z w : Nat} (h1 : before par ps x y z) (h2 : before par ps x z w) : before par ps x y w := by
  unfold before at h1 h2 ⊢
  omega
theorem before_total (h : OD par n od ps) {x y z : Nat} (hy : y < n) (hz : z < n) (hne : y ≠ z) (h1 : ¬ before par ps x y z) : before par ps x z y := by
  unfold before at h1 ⊢
  have : ps y ≠ ps z := fun e => hne (h.inj hy hz e)
  omega
end Heir

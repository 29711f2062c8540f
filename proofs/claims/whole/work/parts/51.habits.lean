/-! ===== habits ===== -/
def hh (g : Nat → Int) (k : Nat) : Int := g (38 + 5 * k)
def hk (g : Nat → Int) (k : Nat) : Int := g (39 + 5 * k)
def hs (g : Nat → Int) (k : Nat) : Int := g (40 + 5 * k)
def he (g : Nat → Int) (k : Nat) : Int := g (41 + 5 * k)
def hpr (g : Nat → Int) (k : Nat) : Int := g (42 + 5 * k)
def hN (g : Nat → Int) : Nat := (g 1).toNat
def hld (g : Nat → Int) (k : Nat) : Bool := decide (0 ≤ hh g k)
def ltr (x : Int) : Int := if x = 0 then 100 else if x = 1 then 115 else 104
/-- a row's habit, rightly kept -/
def HB (g : Nat → Int) (k : Nat) : Prop :=
  ((hh g k = -1 ∧ hs g k = 0 ∧ he g k = 0 ∧ hpr g k = 0) ∨ (0 ≤ hh g k ∧ hh g k < (gn g : Int) ∧ 1 ≤ hs g k ∧ hs g k ≤ 9 ∧ (he g k = 0 ∨ he g k = 1) ∧ (hpr g k = 0 ∨ hpr g k = 1))) ∧ (hk g k = 0 ∨ hk g k = 1 ∨ hk g k = 2)
def GH (g : Nat → Int) : Prop := (0 ≤ g 1 ∧ g 1 ≤ 20) ∧ (∀ k, k < hN g → HB g k) ∧
  (∀ k l, k < hN g → l < hN g → 0 ≤ hh g k → hh g k = hh g l → hk g k = hk g l → k = l) ∧
  (0 ≤ g 3 ∧ 0 ≤ g 4 ∧ 0 ≤ g 5 ∧ g 3 + g 4 + g 5 = ((cntF idn (fun k => !hld g k) (hN g) 0 : Nat) : Int))
/-- the holders live -/
def GL (g : Nat → Int) : Prop := ∀ k, k < hN g → 0 ≤ hh g k → gal g (hh g k).toNat = true
def RH (b : Nat) (m : jMem) (g : Nat → Int) : Prop :=
  (m (b + 6) 5 = g 1 ∧ m (b + 6) 6 = g 3 ∧ m (b + 6) 7 = g 4 ∧ m (b + 6) 8 = g 5) ∧
  ∀ k, k < hN g → m (b + 7) k = ltr (hk g k) ∧ m (b + 8) k = hs g k ∧ m (b + 9) k = hh g k ∧ m (b + 10) k = he g k ∧ m (b + 11) k = hpr g k
theorem ltr_ch (x : Int) : 0 ≤ ltr x ∧ ltr x < 65536 := by
  unfold ltr
  split
  · omega
  · split <;> omega
theorem ltr_inj {x y : Int} (hx : x = 0 ∨ x = 1 ∨ x = 2) (hy : y = 0 ∨ y = 1 ∨ y = 2) : ltr x = ltr y ↔ x = y := by
  rcases hx with rfl | rfl | rfl <;> rcases hy with rfl | rfl | rfl <;> decide
theorem och_i {β : Type} {x : Int} {r : Option β} (h : 0 ≤ x ∧ x < 65536) : och x r = r := if_pos h
theorem obt_i {β : Type} {x : Int} {r : Option β} (h : x = 0 ∨ x = 1) : obt x r = r := by
  rcases h with rfl | rfl <;> rfl
/-- a sum, term by term from q on -/
def suF (F : Nat → Nat) : Nat → Nat → Nat
  | 0, _ => 0
  | k + 1, q => F q + suF F k (q + 1)
theorem suF_sum (F : Nat → Nat) : ∀ (k q : Nat), sumN F (q + k) = sumN F q + suF F k q
  | 0, _ => rfl
  | k + 1, q => by
    have h := suF_sum F k (q + 1)
    rw [show q + 1 + k = q + (k + 1) by omega] at h
    rw [h]
    show sumN F q + F q + _ = sumN F q + (F q + _)
    omega
theorem suF_0 (F : Nat → Nat) (n : Nat) : suF F n 0 = sumN F n := by
  have h := suF_sum F n 0
  rw [Nat.zero_add] at h
  rw [h]
  show _ = 0 + _
  rw [Nat.zero_add]
theorem suF_le (F : Nat → Nat) (c : Nat) (hF : ∀ i, F i ≤ c) : ∀ (k q : Nat), suF F k q ≤ k * c
  | 0, _ => Nat.zero_le _
  | k + 1, q => by
    have h := suF_le F c hF k (q + 1)
    have h2 := hF q
    show F q + _ ≤ _
    rw [Nat.add_mul, Nat.one_mul]
    omega
def hsN (g : Nat → Int) (k : Nat) : Nat := if (hs g k).toNat ≤ 9 then (hs g k).toNat else 9
theorem hsN_le (g : Nat → Int) (k : Nat) : hsN g k ≤ 9 := by
  unfold hsN
  split <;> omega
def hfF (g : Nat → Int) (x t : Int) : Nat → Nat → Int
  | 0, _ => -1
  | j + 1, k => if hh g k = x then (if hk g k = t then (k : Int) else hfF g x t j (k + 1)) else hfF g x t j (k + 1)
/-- the habit of this kind that x holds, or -1 -/
def hf (g : Nat → Int) (x t : Int) : Int := hfF g x t (hN g) 0
def hsm (g : Nat → Int) (x : Int) : Nat := suF (fun k => if hh g k = x then hsN g k else 0) (hN g) 0
section Habits
variable {m : jMem} {g : Nat → Int} {k : Nat}
theorem GH.n (W : GH g) : g 1 = ((hN g : Nat) : Int) ∧ hN g ≤ 20 := by
  have h1 := W.1
  unfold hN
  exact ⟨by omega, by omega⟩
theorem GH.hb (W : GH g) {k : Nat} (hk' : k < hN g) : HB g k := W.2.1 k hk'
theorem RH.n (R : RH 1 m g) : m 7 5 = g 1 := R.1.1
theorem RH.kd (R : RH 1 m g) {k : Nat} (h : k < hN g) : m 8 k = ltr (hk g k) := (R.2 k h).1
theorem RH.st (R : RH 1 m g) {k : Nat} (h : k < hN g) : m 9 k = hs g k := (R.2 k h).2.1
theorem RH.ho (R : RH 1 m g) {k : Nat} (h : k < hN g) : m 10 k = hh g k := (R.2 k h).2.2.1
theorem RH.en (R : RH 1 m g) {k : Nat} (h : k < hN g) : m 11 k = he g k := (R.2 k h).2.2.2.1
theorem RH.pr (R : RH 1 m g) {k : Nat} (h : k < hN g) : m 12 k = hpr g k := (R.2 k h).2.2.2.2
theorem HB.s (B : HB g k) : 0 ≤ hs g k ∧ hs g k ≤ 9 ∧ (0 < hs g k ↔ 0 ≤ hh g k) := by
  rcases B.1 with h | h
  · exact ⟨by omega, by omega, by omega⟩
  · exact ⟨by omega, by omega, by omega⟩
theorem HB.h (B : HB g k) : okx (gn g) (hh g k) := by
  rcases B.1 with h | h
  · exact Or.inl h.1
  · exact Or.inr ⟨h.1, h.2.1⟩
theorem HB.e (B : HB g k) : he g k = 0 ∨ he g k = 1 := by
  rcases B.1 with h | h
  · exact Or.inl h.2.2.1
  · exact h.2.2.2.2.1
theorem HB.p (B : HB g k) : hpr g k = 0 ∨ hpr g k = 1 := by
  rcases B.1 with h | h
  · exact Or.inl h.2.2.2
  · exact h.2.2.2.2.2
theorem HB.sN (B : HB g k) : hs g k = ((hsN g k : Nat) : Int) := by
  have h := B.s
  unfold hsN
  rw [if_pos (by omega)]
  omega
theorem H_has (R : RH 1 m g) (x : Int) : f_Habits_has m x = some (if 0 ≤ x ∧ x < g 1 then 1 else 0) := by
  unfold f_Habits_has
  rw [R.n]
  by_cases h1 : x < 0
  · rw [if_pos h1, if_neg (by omega)]
  · rw [if_neg h1]
    by_cases h2 : x < g 1
    · rw [if_pos h2, if_pos ⟨by omega, h2⟩]
    · rw [if_neg h2, if_neg (by omega)]
theorem H_in (W : GH g) (R : RH 1 m g) {k : Nat} (h : k < hN g) : f_Habits_has m (k : Int) = some 1 := by
  have hn := W.n
  rw [H_has R, if_pos (by omega)]
theorem H_kind (W : GH g) (R : RH 1 m g) {k : Nat} (h : k < hN g) : f_Habits_kind m (k : Int) = some (ltr (hk g k)) := by
  have hn := W.n
  unfold f_Habits_kind
  rw [H_in W R h, Option.bind_some, if_neg (by omega), oix_n (by omega), Int.toNat_natCast, R.kd h, och_i (ltr_ch _)]
theorem H_str (W : GH g) (R : RH 1 m g) {k : Nat} (h : k < hN g) : f_Habits_strength m (k : Int) = some (hs g k) := by
  have hn := W.n
  unfold f_Habits_strength
  rw [H_in W R h, Option.bind_some, if_neg (by omega), oix_n (by omega), Int.toNat_natCast, R.st h]
theorem H_hold (W : GH g) (R : RH 1 m g) {k : Nat} (h : k < hN g) : f_Habits_holder m (k : Int) = some (hh g k) := by
  have hn := W.n
  unfold f_Habits_holder
  rw [H_in W R h, Option.bind_some, if_neg (by omega), oix_n (by omega), Int.toNat_natCast, R.ho h]
theorem H_held (W : GH g) (R : RH 1 m g) {k : Nat} (h : k < hN g) : f_Habits_isHeld m (k : Int) = some (if 0 ≤ hh g k then 1 else 0) := by
  have hn := W.n
  have hb := (W.hb h).s
  unfold f_Habits_isHeld
  rw [H_in W R h, Option.bind_some, if_neg (by omega), oix_n (by omega), Int.toNat_natCast, R.st h]
  by_cases h2 : 0 < hs g k
  · rw [if_pos h2, if_pos (hb.2.2.mp h2)]
  · rw [if_neg h2, if_neg (fun h3 => h2 (hb.2.2.mpr h3))]
theorem H_ent (W : GH g) (R : RH 1 m g) {k : Nat} (h : k < hN g) : f_Habits_hasEntail m (k : Int) = some (he g k) := by
  have hn := W.n
  unfold f_Habits_hasEntail
  rw [H_in W R h, Option.bind_some, if_neg (by omega), oix_n (by omega), Int.toNat_natCast, R.en h]
  rcases (W.hb h).e with e | e <;> rw [e] <;> rfl
theorem H_prac (W : GH g) (R : RH 1 m g) {k : Nat} (h : k < hN g) : f_Habits_hasPractice m (k : Int) = some (hpr g k) := by
  have hn := W.n
  unfold f_Habits_hasPractice
  rw [H_in W R h, Option.bind_some, if_neg (by omega), oix_n (by omega), Int.toNat_natCast, R.pr h]
  rcases (W.hb h).p with e | e <;> rw [e] <;> rfl
theorem H_rem (W : GH g) (R : RH 1 m g) {k : Nat} (h : k < hN g) : f_Habits_remainingYears m (k : Int) = some (if 0 ≤ hh g k then hs g k + hpr g k else -1) := by
  have hb := (W.hb h).s
  unfold f_Habits_remainingYears
  rw [H_held W R h, Option.bind_some]
  by_cases h2 : 0 ≤ hh g k
  · rw [if_pos h2, if_neg (by omega), H_prac W R h, Option.bind_some, if_pos h2]
    rcases (W.hb h).p with e | e
    · rw [e, if_pos rfl, H_str W R h, Option.bind_some, Int.add_zero]
    · rw [e, if_neg (by omega), H_str W R h, Option.bind_some, jw_id ⟨by omega, by omega⟩]
  · rw [if_neg h2, if_pos rfl, if_neg h2]
theorem H_findL (W : GH g) (R : RH 1 m g) {x : Int} {t : Int} (hx : 0 ≤ x) (ht : t = 0 ∨ t = 1 ∨ t = 2) : ∀ (j k N : Nat), k + j = hN g → j < N → f_Habits_findL N m x (ltr t) (k : Int) = some (hfF g x t j k)
  | _, _, 0, _, h => by omega
  | 0, k, N + 1, hk, _ => by
    have hn := W.n
    unfold f_Habits_findL
    rw [R.n, if_neg (by omega)]
    rfl
  | j + 1, k, N + 1, hkk, hNN => by
    have hn := W.n
    have B := W.hb (show k < hN g by omega)
    unfold f_Habits_findL hfF
    rw [R.n, if_pos (by omega), oix_n (by omega), oix_n (by omega), oix_n (by omega), Int.toNat_natCast, R.st (by omega), R.ho (by omega), R.kd (by omega), jw_s (by omega), H_findL W R hx ht j (k + 1) N (by omega) (by omega)]
    by_cases h1 : hh g k = x
    · rw [if_pos (B.s.2.2.mpr (by omega)), if_pos h1, if_pos h1]
      by_cases h2 : hk g k = t
      · rw [if_pos ((ltr_inj B.2 ht).mpr h2), if_pos h2]
      · rw [if_neg (fun h3 => h2 ((ltr_inj B.2 ht).mp h3)), if_neg h2]
    · rw [if_neg h1, if_neg h1]
      split <;> rfl
theorem H_find (W : GH g) (R : RH 1 m g) {x : Int} {t : Int} (hx : 0 ≤ x) (ht : t = 0 ∨ t = 1 ∨ t = 2) : f_Habits_find m x (ltr t) = some (hf g x t) := by
  have hn := W.n
  exact H_findL W R hx ht (hN g) 0 99999 (by omega) (by omega)
theorem hfF_spec (g : Nat → Int) (x t : Int) : ∀ (j k : Nat), (hfF g x t j k = -1 ∧ ∀ l, k ≤ l → l < k + j → hh g l = x → hk g l ≠ t) ∨ ∃ l : Nat, hfF g x t j k = (l : Int) ∧ k ≤ l ∧ l < k + j ∧ hh g l = x ∧ hk g l = t
  | 0, k => Or.inl ⟨rfl, fun l h1 h2 => by omega⟩
  | j + 1, k => by
    have h0 : hfF g x t (j + 1) k = if hh g k = x then (if hk g k = t then (k : Int) else hfF g x t j (k + 1)) else hfF g x t j (k + 1) := rfl
    by_cases h : hh g k = x ∧ hk g k = t
    · exact Or.inr ⟨k, by rw [h0, if_pos h.1, if_pos h.2], by omega, by omega, h.1, h.2⟩
    · have h1 : hfF g x t (j + 1) k = hfF g x t j (k + 1) := by
        rw [h0]
        by_cases h2 : hh g k = x
        · rw [if_pos h2, if_neg (fun h3 => h ⟨h2, h3⟩)]
        · rw [if_neg h2]
      rw [h1]
      rcases hfF_spec g x t j (k + 1) with ⟨e, h2⟩ | ⟨l, e, h2, h3, h4⟩
      · refine Or.inl ⟨e, fun l h3 h4 h5 h6 => ?_⟩
        by_cases e2 : l = k
        · subst e2; exact h ⟨h5, h6⟩
        · exact h2 l (by omega) (by omega) h5 h6
      · exact Or.inr ⟨l, e, by omega, by omega, h4⟩
theorem hf_spec (g : Nat → Int) (x t : Int) : (hf g x t = -1 ∧ ∀ l, l < hN g → hh g l = x → hk g l ≠ t) ∨ ∃ l : Nat, hf g x t = (l : Int) ∧ l < hN g ∧ hh g l = x ∧ hk g l = t := by
  rcases hfF_spec g x t (hN g) 0 with ⟨e, h⟩ | ⟨l, e, h1, h2, h3⟩
  · exact Or.inl ⟨e, fun l hl => h l (by omega) (by omega)⟩
  · exact Or.inr ⟨l, e, by omega, h3⟩
theorem H_sumL (W : GH g) (R : RH 1 m g) (x : Int) : ∀ (j k N c : Nat), k + j = hN g → j < N → c + 9 * j < 10000 → f_Habits_sumOfL N m x (c : Int) (k : Int) = some ((c + suF (fun k => if hh g k = x then hsN g k else 0) j k : Nat) : Int)
  | _, _, 0, _, _, h, _ => by omega
  | 0, k, N + 1, c, hk, _, _ => by
    have hn := W.n
    unfold f_Habits_sumOfL
    rw [R.n, if_neg (by omega)]
    rfl
  | j + 1, k, N + 1, c, hkk, hNN, hc => by
    have hn := W.n
    have B := W.hb (show k < hN g by omega)
    have h9 := hsN_le g k
    unfold f_Habits_sumOfL suF
    rw [R.n, if_pos (by omega), oix_n (by omega), oix_n (by omega), Int.toNat_natCast, R.st (by omega), R.ho (by omega), jw_s (by omega), B.sN]
    by_cases h1 : hh g k = x
    · rw [if_pos h1, if_pos h1, jw_e (y := ((c + hsN g k : Nat) : Int)) (by omega) (by omega) (by omega), H_sumL W R x j (k + 1) N (c + hsN g k) (by omega) (by omega) (by omega), Nat.add_assoc]
    · rw [if_neg h1, if_neg h1, H_sumL W R x j (k + 1) N c (by omega) (by omega) (by omega), Nat.zero_add]
theorem H_sum (W : GH g) (R : RH 1 m g) (x : Int) : f_Habits_sumOf m x = some ((hsm g x : Nat) : Int) := by
  have hn := W.n
  have h := H_sumL W R x (hN g) 0 99999 0 (by omega) (by omega) (by omega)
  rw [Nat.zero_add] at h
  exact h
theorem hsm_le (W : GH g) (x : Int) : hsm g x ≤ 180 := by
  have hn := W.n
  have h := suF_le (fun k => if hh g k = x then hsN g k else 0) 9 (fun k => by
    have := hsN_le g k
    show (if hh g k = x then hsN g k else 0) ≤ 9
    split <;> omega) (hN g) 0
  unfold hsm
  omega
theorem H_allL (W : GH g) (R : RH 1 m g) : ∀ (j k N c : Nat), k + j = hN g → j < N → c + 9 * j < 10000 → f_Habits_sumOfAllL N m (c : Int) (k : Int) = some ((c + suF (hsN g) j k : Nat) : Int)
  | _, _, 0, _, _, h, _ => by omega
  | 0, k, N + 1, c, hk, _, _ => by
    have hn := W.n
    unfold f_Habits_sumOfAllL
    rw [R.n, if_neg (by omega)]
    rfl
  | j + 1, k, N + 1, c, hkk, hNN, hc => by
    have hn := W.n
    have B := W.hb (show k < hN g by omega)
    have h9 := hsN_le g k
    unfold f_Habits_sumOfAllL suF
    rw [R.n, if_pos (by omega), oix_n (by omega), Int.toNat_natCast, R.st (by omega), jw_s (by omega), B.sN, jw_e (y := ((c + hsN g k : Nat) : Int)) (by omega) (by omega) (by omega), H_allL W R j (k + 1) N (c + hsN g k) (by omega) (by omega) (by omega), Nat.add_assoc]
theorem H_all (W : GH g) (R : RH 1 m g) : f_Habits_sumOfAll m = some ((sumN (hsN g) (hN g) : Nat) : Int) := by
  have hn := W.n
  have h := H_allL W R (hN g) 0 99999 0 (by omega) (by omega) (by omega)
  rw [Nat.zero_add, suF_0] at h
  exact h
theorem sum_le (W : GH g) : sumN (hsN g) (hN g) ≤ 180 := by
  have hn := W.n
  have h := suF_le (hsN g) 9 (hsN_le g) (hN g) 0
  rw [suF_0] at h
  omega
theorem H_cntL (W : GH g) (R : RH 1 m g) : ∀ (j k N c : Nat), k + j = hN g → j < N → c + j < 10000 → f_Habits_countHeldL N m (c : Int) (k : Int) = some ((c + cntF idn (hld g) j k : Nat) : Int)
  | _, _, 0, _, _, h, _ => by omega
  | 0, k, N + 1, c, hk, _, _ => by
    have hn := W.n
    unfold f_Habits_countHeldL
    rw [R.n, if_neg (by omega)]
    rfl
  | j + 1, k, N + 1, c, hkk, hNN, hc => by
    have hn := W.n
    have B := W.hb (show k < hN g by omega)
    unfold f_Habits_countHeldL cntF
    rw [R.n, if_pos (by omega), oix_n (by omega), Int.toNat_natCast, R.st (by omega), jw_s (i := k) (by omega)]
    show _ = some ((c + ((if hld g k = true then 1 else 0) + _) : Nat) : Int)
    by_cases h1 : 0 ≤ hh g k
    · rw [if_pos (B.s.2.2.mpr h1), if_pos (show hld g k = true from decide_eq_true h1), jw_s (by omega), H_cntL W R j (k + 1) N (c + 1) (by omega) (by omega) (by omega), Nat.add_assoc]
    · rw [if_neg (fun h => h1 (B.s.2.2.mp h)), if_neg (by unfold hld; rw [decide_eq_false h1]; decide), H_cntL W R j (k + 1) N c (by omega) (by omega) (by omega), Nat.zero_add]
theorem H_cnt (W : GH g) (R : RH 1 m g) : f_Habits_countHeld m = some ((cntF idn (hld g) (hN g) 0 : Nat) : Int) := by
  have hn := W.n
  have h := H_cntL W R (hN g) 0 99999 0 (by omega) (by omega) (by omega)
  rw [Nat.zero_add] at h
  exact h
/-- who stands before habit x by strength -/
def hbf (g : Nat → Int) (x : Nat) (y : Nat) : Bool := decide (hs g x < hs g y) || (decide (hs g y = hs g x) && Nat.blt y x)
def hrk (g : Nat → Int) (x : Nat) : Nat := cntF idn (hbf g x) (hN g) 0
theorem H_rankL (W : GH g) (R : RH 1 m g) {x : Nat} (hx : x < hN g) : ∀ (j k N c : Nat), k + j = hN g → j < N → c + j < 10000 → f_Habits_rankL N m (x : Int) (c : Int) (k : Int) = some ((c + cntF idn (hbf g x) j k : Nat) : Int)
  | _, _, 0, _, _, h, _ => by omega
  | 0, k, N + 1, c, hk, _, _ => by
    have hn := W.n
    unfold f_Habits_rankL
    rw [R.n, if_neg (by omega)]
    rfl
  | j + 1, k, N + 1, c, hkk, hNN, hc => by
    have hn := W.n
    have B := (W.hb (show k < hN g by omega)).s
    have B2 := (W.hb hx).s
    unfold f_Habits_rankL cntF
    rw [R.n, if_pos (by omega), oix_n (by omega), H_str W R hx, Option.bind_some, Int.toNat_natCast, R.st (by omega), jw_s (i := k) (by omega), jw_id (z := hs g k - hs g x) ⟨by omega, by omega⟩]
    show _ = some ((c + ((if hbf g x k = true then 1 else 0) + _) : Nat) : Int)
    have ih1 := H_rankL W R hx j (k + 1) N (c + 1) (by omega) (by omega) (by omega)
    have ih0 := H_rankL W R hx j (k + 1) N c (by omega) (by omega) (by omega)
    have hyes : hbf g x k = true → f_Habits_rankL N m (x : Int) (jw ((c : Int) + 1)) ((k + 1 : Nat) : Int) = some ((c + ((if hbf g x k = true then 1 else 0) + cntF idn (hbf g x) j (k + 1)) : Nat) : Int) := fun h => by
      rw [if_pos h, jw_s (by omega), ih1, Nat.add_assoc]
    have hno : hbf g x k = false → f_Habits_rankL N m (x : Int) (c : Int) ((k + 1 : Nat) : Int) = some ((c + ((if hbf g x k = true then 1 else 0) + cntF idn (hbf g x) j (k + 1)) : Nat) : Int) := fun h => by
      rw [h, if_neg (by decide), ih0, Nat.zero_add]
    by_cases h1 : 0 < hs g k - hs g x
    · rw [if_pos h1]
      exact hyes (by unfold hbf; rw [decide_eq_true (by omega), Bool.true_or])
    · rw [if_neg h1]
      have e1 : decide (hs g x < hs g k) = false := decide_eq_false (by omega)
      by_cases h2 : hs g k - hs g x = 0
      · rw [if_pos h2]
        have e2 : decide (hs g k = hs g x) = true := decide_eq_true (by omega)
        by_cases h3 : k < x
        · rw [if_pos (by omega)]
          exact hyes (by unfold hbf; rw [e1, e2, Nat.blt_eq.mpr h3]; rfl)
        · rw [if_neg (by omega)]
          refine hno ?_
          unfold hbf
          rw [e1, e2]
          cases hb : Nat.blt k x with
          | false => rfl
          | true => exact absurd (Nat.blt_eq.mp hb) h3
      · rw [if_neg h2]
        refine hno ?_
        unfold hbf
        rw [e1, decide_eq_false (by omega)]
        rfl
theorem H_rank (W : GH g) (R : RH 1 m g) {x : Nat} (hx : x < hN g) : f_Habits_rank m (x : Int) = some ((hrk g x : Nat) : Int) := by
  have hn := W.n
  have h := H_rankL W R hx (hN g) 0 99999 0 (by omega) (by omega) (by omega)
  rw [Nat.zero_add] at h
  exact h
/-- the first with a mark and this number -/
def rkF (ok : Nat → Bool) (rk : Nat → Nat) (a : Int) : Nat → Nat → Int
  | 0, _ => -1
  | j + 1, k => if ok k = true then (if ((rk k : Nat) : Int) = a then (k : Int) else rkF ok rk a j (k + 1)) else rkF ok rk a j (k + 1)
theorem rkF_okx (ok : Nat → Bool) (rk : Nat → Nat) (a : Int) (n : Nat) : ∀ (j k : Nat), k + j = n → okx n (rkF ok rk a j k)
  | 0, _, _ => Or.inl rfl
  | j + 1, k, h => by
    have ih := rkF_okx ok rk a n j (k + 1) (by omega)
    unfold rkF
    split
    · split
      · exact Or.inr ⟨by omega, by omega⟩
      · exact ih
    · exact ih
theorem H_rkdL (W : GH g) (R : RH 1 m g) (a : Int) : ∀ (j k N : Nat), k + j = hN g → j < N → f_Habits_rankedL N m a (k : Int) = some (rkF (hld g) (hrk g) a j k)
  | _, _, 0, _, h => by omega
  | 0, k, N + 1, hk, _ => by
    have hn := W.n
    unfold f_Habits_rankedL
    rw [R.n, if_neg (by omega)]
    rfl
  | j + 1, k, N + 1, hkk, hNN => by
    have hn := W.n
    have B := W.hb (show k < hN g by omega)
    unfold f_Habits_rankedL rkF
    rw [R.n, if_pos (by omega), oix_n (by omega), Int.toNat_natCast, R.st (by omega), jw_s (by omega), H_rank W R (by omega), Option.bind_some, H_rkdL W R a j (k + 1) N (by omega) (by omega)]
    by_cases h1 : 0 ≤ hh g k
    · rw [if_pos (B.s.2.2.mpr h1), if_pos (show hld g k = true from decide_eq_true h1)]
      by_cases h2 : ((hrk g k : Nat) : Int) = a
      · rw [if_pos h2, if_pos h2]
      · rw [if_neg h2, if_neg h2]
    · rw [if_neg (fun h => h1 (B.s.2.2.mp h)), if_neg (by unfold hld; rw [decide_eq_false h1]; decide)]
theorem H_rkd (W : GH g) (R : RH 1 m g) (a : Int) : f_Habits_ranked m a = some (rkF (hld g) (hrk g) a (hN g) 0) := by
  have hn := W.n
  exact H_rkdL W R a (hN g) 0 99999 (by omega) (by omega)
end Habits

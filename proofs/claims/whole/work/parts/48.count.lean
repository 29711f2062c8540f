/-! ===== counts and sums ===== -/
def sumN (F : Nat → Nat) : Nat → Nat
  | 0 => 0
  | k + 1 => sumN F k + F k
theorem sumN_congr {F G : Nat → Nat} : ∀ (n : Nat), (∀ i, i < n → F i = G i) → sumN F n = sumN G n
  | 0, _ => rfl
  | n + 1, h => by
    show sumN F n + F n = sumN G n + G n
    rw [sumN_congr n (fun i hi => h i (by omega)), h n (by omega)]
theorem sumN_zero : ∀ (n : Nat), sumN (fun _ => 0) n = 0
  | 0 => rfl
  | n + 1 => by
    show sumN (fun _ => 0) n + 0 = 0
    rw [sumN_zero n]
theorem sumN_add (F G : Nat → Nat) : ∀ (n : Nat), sumN (fun i => F i + G i) n = sumN F n + sumN G n
  | 0 => rfl
  | n + 1 => by
    show sumN (fun i => F i + G i) n + (F n + G n) = (sumN F n + F n) + (sumN G n + G n)
    rw [sumN_add F G n]
    omega
theorem sumN_swap (F : Nat → Nat → Nat) (b : Nat) : ∀ (a : Nat), sumN (fun i => sumN (fun j => F i j) b) a = sumN (fun j => sumN (fun i => F i j) a) b
  | 0 => (sumN_zero b).symm
  | a + 1 => by
    show sumN (fun i => sumN (fun j => F i j) b) a + sumN (fun j => F a j) b = sumN (fun j => sumN (fun i => F i j) a + F a j) b
    rw [sumN_swap F b a, sumN_add]
theorem sumN_one {x : Nat} (c : Nat) : ∀ (n : Nat), sumN (fun y => if y = x then c else 0) n = if x < n then c else 0
  | 0 => rfl
  | n + 1 => by
    show sumN (fun y => if y = x then c else 0) n + (if n = x then c else 0) = _
    rw [sumN_one c n]
    by_cases h : n = x
    · rw [if_neg (by omega), if_pos h, if_pos (by omega), Nat.zero_add]
    · rw [if_neg h]
      by_cases h2 : x < n
      · rw [if_pos h2, if_pos (by omega)]
        rfl
      · rw [if_neg h2, if_neg (by omega)]
/-- in any order the sum is the same -/
theorem sumN_perm {par : Nat → Int} {n : Nat} {od ps : Nat → Nat} (H : OD par n od ps) (F : Nat → Nat) : sumN (fun q => F (od q)) n = sumN F n := by
  have h1 : sumN (fun q => F (od q)) n = sumN (fun q => sumN (fun y => if y = od q then F (od q) else 0) n) n := sumN_congr n fun q hq => by
    rw [sumN_one, if_pos (H.1 q hq).1]
  rw [h1, sumN_swap]
  refine sumN_congr n fun y hy => ?_
  have hy1 := H.2.1 y hy
  have h2 : sumN (fun q => if y = od q then F (od q) else 0) n = sumN (fun q => if q = ps y then F y else 0) n := sumN_congr n fun q hq => by
    by_cases e : q = ps y
    · rw [if_pos e, if_pos (by rw [e, hy1.2]), e, hy1.2]
    · rw [if_neg e, if_neg (fun e2 => e (by rw [e2, (H.1 q hq).2]))]
  rw [h2, sumN_one, if_pos hy1.1]
theorem cntF_sum (od : Nat → Nat) (ok : Nat → Bool) : ∀ (k q : Nat), sumN (fun i => if ok (od i) = true then 1 else 0) (q + k) = sumN (fun i => if ok (od i) = true then 1 else 0) q + cntF od ok k q
  | 0, _ => rfl
  | k + 1, q => by
    have h := cntF_sum od ok k (q + 1)
    rw [show q + 1 + k = q + (k + 1) by omega] at h
    rw [h]
    show sumN _ q + (if ok (od q) = true then 1 else 0) + _ = sumN _ q + ((if ok (od q) = true then 1 else 0) + _)
    omega
theorem cntF_0 (od : Nat → Nat) (ok : Nat → Bool) (n : Nat) : cntF od ok n 0 = sumN (fun i => if ok (od i) = true then 1 else 0) n := by
  have h := cntF_sum od ok n 0
  rw [Nat.zero_add] at h
  rw [h]
  show _ = 0 + _
  rw [Nat.zero_add]
theorem cntF_none (od : Nat → Nat) (ok : Nat → Bool) : ∀ (k q : Nat), (∀ r, q ≤ r → r < q + k → ok (od r) = false) → cntF od ok k q = 0
  | 0, _, _ => rfl
  | k + 1, q, h => by
    unfold cntF
    rw [h q (by omega) (by omega), cntF_none od ok k (q + 1) (fun r h1 h2 => h r (by omega) (by omega))]
    rfl
theorem cntF_congr (od : Nat → Nat) (ok ok' : Nat → Bool) : ∀ (k q : Nat), (∀ r, q ≤ r → r < q + k → ok (od r) = ok' (od r)) → cntF od ok k q = cntF od ok' k q
  | 0, _, _ => rfl
  | k + 1, q, h => by
    unfold cntF
    rw [h q (by omega) (by omega), cntF_congr od ok ok' k (q + 1) (fun r h1 h2 => h r (by omega) (by omega))]
theorem cntF_app (od : Nat → Nat) (ok : Nat → Bool) : ∀ (a b q : Nat), cntF od ok (a + b) q = cntF od ok a q + cntF od ok b (q + a)
  | 0, b, q => by rw [Nat.zero_add]; show _ = 0 + _; rw [Nat.zero_add]; rfl
  | a + 1, b, q => by
    have ih := cntF_app od ok a b (q + 1)
    rw [show q + 1 + a = q + (a + 1) by omega] at ih
    rw [show a + 1 + b = (a + b) + 1 by omega]
    show (if ok (od q) = true then 1 else 0) + cntF od ok (a + b) (q + 1) = ((if ok (od q) = true then 1 else 0) + cntF od ok a (q + 1)) + cntF od ok b (q + (a + 1))
    rw [ih]
    omega
def idn (i : Nat) : Nat := i
/-- the living below x, by places and by numbers -/
theorem cnt_below {par : Nat → Int} {n : Nat} {od ps : Nat → Nat} (f : fvp par n) (H : OD par n od ps) (al : Nat → Bool) {x : Nat} (hx : x < n) : cntF od al (en par n od ps x - (ps x + 1)) (ps x + 1) = cntF idn (fun y => al y && (abF par x (y + 1) y && !(Nat.beq y x))) n 0 := by
  have h1 := H.2.1 x hx
  obtain ⟨e1, e2, e3, e4⟩ := en_spec f H hx
  generalize hP : (fun y => al y && (abF par x (y + 1) y && !(Nat.beq y x))) = P
  have hPv : ∀ y, P y = (al y && (abF par x (y + 1) y && !(Nat.beq y x))) := fun y => by rw [← hP]
  have k1 : cntF idn P n 0 = cntF od P n 0 := by
    rw [cntF_0, cntF_0]
    exact (sumN_perm H (fun y => if P y = true then 1 else 0)).symm
  have k2 : cntF od P n 0 = cntF od P (ps x + 1) 0 + (cntF od P (en par n od ps x - (ps x + 1)) (ps x + 1) + cntF od P (n - en par n od ps x) (en par n od ps x)) := by
    have a1 := cntF_app od P (ps x + 1) (n - (ps x + 1)) 0
    have a2 := cntF_app od P (en par n od ps x - (ps x + 1)) (n - en par n od ps x) (ps x + 1)
    rw [show ps x + 1 + (n - (ps x + 1)) = n by omega, Nat.zero_add] at a1
    rw [show en par n od ps x - (ps x + 1) + (n - en par n od ps x) = n - (ps x + 1) by omega, show ps x + 1 + (en par n od ps x - (ps x + 1)) = en par n od ps x by omega] at a2
    rw [a1, a2]
  have k3 : cntF od P (ps x + 1) 0 = 0 := cntF_none od P _ _ fun r _ hr => by
    have h2 := H.1 r (by omega)
    rw [hPv]
    by_cases e : od r = x
    · rw [e, Nat.beq_refl]
      simp
    · have h3 : ¬ AB par x (od r) := fun hA => by
        have := (en_iff f H hx h2.1).mp hA
        rw [h2.2] at this
        have h4 : r = ps x := by omega
        exact e (by rw [h4, h1.2])
      rw [show abF par x (od r + 1) (od r) = false from Bool.eq_false_iff.mpr h3]
      simp
  have k4 : cntF od P (n - en par n od ps x) (en par n od ps x) = 0 := cntF_none od P _ _ fun r hr1 hr2 => by
    have h2 := H.1 r (by omega)
    rw [hPv]
    have h3 : ¬ AB par x (od r) := fun hA => by
      have := (en_iff f H hx h2.1).mp hA
      rw [h2.2] at this
      omega
    rw [show abF par x (od r + 1) (od r) = false from Bool.eq_false_iff.mpr h3]
    simp
  have k5 : cntF od P (en par n od ps x - (ps x + 1)) (ps x + 1) = cntF od al (en par n od ps x - (ps x + 1)) (ps x + 1) := cntF_congr od P al _ _ fun r hr1 hr2 => by
    have h2 := H.1 r (by omega)
    rw [hPv]
    have h3 : abF par x (od r + 1) (od r) = true := e3 r (by omega) (by omega)
    have h4 : Nat.beq (od r) x = false := by
      cases hb : Nat.beq (od r) x with
      | false => rfl
      | true =>
        have := Nat.eq_of_beq_eq_true hb
        have h5 := h2.2
        rw [this] at h5
        omega
    rw [h3, h4]
    simp
  rw [k1, k2, k3, k4, k5]
  omega
section People
variable {m : jMem} {g : Nat → Int} {od ps : Nat → Nat}
theorem P_livL (V : GP g) (H : RP 1 m g od ps) : ∀ (k i N c : Nat), i + k = gn g → k < N → c + k < 1000 → f_People_countLivingL N m (c : Int) (i : Int) = some ((c + cntF idn (gal g) k i : Nat) : Int)
  | _, _, 0, _, _, h, _ => by omega
  | 0, i, N + 1, c, hk, _, _ => by
    have hn := V.n
    unfold f_People_countLivingL
    rw [H.n, if_neg (by omega)]
    rfl
  | k + 1, i, N + 1, c, hk, hN, hc => by
    have hn := V.n
    unfold f_People_countLivingL cntF
    rw [H.n, if_pos (by omega), oix_n (by omega), Int.toNat_natCast, H.liv (by omega), V.al (by omega)]
    show _ = some ((c + ((if gal g i = true then 1 else 0) + _) : Nat) : Int)
    by_cases h : gal g i = true
    · rw [if_pos h, if_neg (by omega), if_pos h, jw_s (by omega), jw_s (by omega), P_livL V H k (i + 1) N (c + 1) (by omega) (by omega) (by omega), Nat.add_assoc]
    · rw [if_neg h, if_pos rfl, if_neg h, jw_s (by omega), P_livL V H k (i + 1) N c (by omega) (by omega) (by omega), Nat.zero_add]
theorem P_living (V : GP g) (H : RP 1 m g od ps) : f_People_countLiving m = some ((cntF idn (gal g) (gn g) 0 : Nat) : Int) := by
  have hn := V.n
  have h := P_livL V H (gn g) 0 99999 0 (by omega) (by omega) (by omega)
  rw [Nat.zero_add] at h
  exact h
theorem M_livL (V : GP g) (hg : m 148 = g) : ∀ (k i N c : Nat), i + k = gn g → k < N → c + k < 1000 → f_Mod_livingL N m (c : Int) (i : Int) = some ((c + cntF idn (gal g) k i : Nat) : Int)
  | _, _, 0, _, _, h, _ => by omega
  | 0, i, N + 1, c, hk, _, _ => by
    have hn := V.n
    unfold f_Mod_livingL
    rw [oix_i (by omega) (by omega), show (0 : Int).toNat = 0 from rfl, hg, if_neg (by omega)]
    rfl
  | k + 1, i, N + 1, c, hk, hN, hc => by
    have hn := V.n
    unfold f_Mod_livingL cntF
    rw [oix_i (by omega) (by omega), show (0 : Int).toNat = 0 from rfl, hg, if_pos (by omega), M_liv V hg (by omega), Option.bind_some, V.al (by omega)]
    show _ = some ((c + ((if gal g i = true then 1 else 0) + _) : Nat) : Int)
    by_cases h : gal g i = true
    · rw [if_pos h, if_neg (by omega), if_pos h, jw_s (by omega), jw_s (by omega), M_livL V hg k (i + 1) N (c + 1) (by omega) (by omega) (by omega), Nat.add_assoc]
    · rw [if_neg h, if_pos rfl, if_neg h, jw_s (by omega), jw_e (y := (c : Int)) (by omega) (by omega) (by omega), M_livL V hg k (i + 1) N c (by omega) (by omega) (by omega), Nat.zero_add]
theorem M_living (V : GP g) (hg : m 148 = g) : f_Mod_living m = some ((cntF idn (gal g) (gn g) 0 : Nat) : Int) := by
  have hn := V.n
  have h := M_livL V hg (gn g) 0 99999 0 (by omega) (by omega) (by omega)
  rw [Nat.zero_add] at h
  exact h
theorem M_descL (V : GP g) (hg : m 148 = g) {x : Nat} : ∀ (k i N c : Nat), i + k = gn g → k < N → c + k < 1000 → f_Mod_livingDescendantsL N m (x : Int) (c : Int) (i : Int) = some (((c + cntF idn (fun y => gal g y && (abF (gp g) x (y + 1) y && !(Nat.beq y x))) k i : Nat) : Int), m)
  | _, _, 0, _, _, h, _ => by omega
  | 0, i, N + 1, c, hk, _, _ => by
    have hn := V.n
    unfold f_Mod_livingDescendantsL
    rw [oix_i (by omega) (by omega), show (0 : Int).toNat = 0 from rfl, hg, if_neg (by omega)]
    rfl
  | k + 1, i, N + 1, c, hk, hN, hc => by
    have hn := V.n
    unfold f_Mod_livingDescendantsL cntF
    rw [oix_i (by omega) (by omega), show (0 : Int).toNat = 0 from rfl, hg, if_pos (by omega), M_liv V hg (by omega), Option.bind_some, V.al (by omega)]
    show _ = some (((c + ((if (gal g i && (abF (gp g) x (i + 1) i && !(Nat.beq i x))) = true then 1 else 0) + _) : Nat) : Int), m)
    by_cases h : gal g i = true
    · rw [if_pos h, if_neg (by omega), M_above V hg (show i < gn g by omega), Option.bind_some]
      by_cases h2 : abF (gp g) x (i + 1) i = true ∧ x ≠ i
      · have hb : Nat.beq i x = false := by
          cases hb : Nat.beq i x with
          | false => rfl
          | true => exact absurd (Nat.eq_of_beq_eq_true hb).symm h2.2
        rw [if_pos h2, if_neg (by omega), h, h2.1, hb, jw_s (by omega), jw_s (by omega), M_descL V hg k (i + 1) N (c + 1) (by omega) (by omega) (by omega), Nat.add_assoc]
        rfl
      · have hb : (gal g i && (abF (gp g) x (i + 1) i && !(Nat.beq i x))) = false := by
          rw [Bool.eq_false_iff]
          intro h3
          rw [Bool.and_eq_true, Bool.and_eq_true, Bool.not_eq_true'] at h3
          exact h2 ⟨h3.2.1, fun e => by rw [e, Nat.beq_refl] at h3; exact absurd h3.2.2 (by decide)⟩
        rw [if_neg h2, if_pos rfl, hb, jw_s (by omega), jw_e (y := (c : Int)) (by omega) (by omega) (by omega), M_descL V hg k (i + 1) N c (by omega) (by omega) (by omega), if_neg (by decide), Nat.zero_add]
    · have hb : (gal g i && (abF (gp g) x (i + 1) i && !(Nat.beq i x))) = false := by
        rw [Bool.eq_false_iff.mpr h]
        rfl
      rw [if_neg h, if_pos rfl, hb, jw_s (by omega), jw_e (y := (c : Int)) (by omega) (by omega) (by omega), M_descL V hg k (i + 1) N c (by omega) (by omega) (by omega), if_neg (by decide), Nat.zero_add]
/-- the children of p, counted -/
theorem P_chcL (V : GP g) (H : RP 1 m g od ps) (p : Int) : ∀ (k i N c : Nat), i + k = gn g → k < N → c + k < 1000 → f_People_countChildrenL N m p (c : Int) (i : Int) = some ((c + cntF idn (fun y => decide (gp g y = p)) k i : Nat) : Int)
  | _, _, 0, _, _, h, _ => by omega
  | 0, i, N + 1, c, hk, _, _ => by
    have hn := V.n
    unfold f_People_countChildrenL
    rw [H.n, if_neg (by omega)]
    rfl
  | k + 1, i, N + 1, c, hk, hN, hc => by
    have hn := V.n
    unfold f_People_countChildrenL cntF
    rw [H.n, if_pos (by omega), oix_n (by omega), Int.toNat_natCast, H.par (by omega)]
    show _ = some ((c + ((if decide (gp g i = p) = true then 1 else 0) + _) : Nat) : Int)
    by_cases h : gp g i = p
    · rw [if_pos h, if_pos (decide_eq_true h), jw_s (by omega), jw_s (by omega), P_chcL V H p k (i + 1) N (c + 1) (by omega) (by omega) (by omega), Nat.add_assoc]
    · rw [if_neg h, if_neg (by rw [decide_eq_false h]; decide), jw_s (by omega), P_chcL V H p k (i + 1) N c (by omega) (by omega) (by omega), Nat.zero_add]
theorem M_chcL (V : GP g) (hg : m 148 = g) (p : Int) : ∀ (k i N c : Nat), i + k = gn g → k < N → c + k < 1000 → f_Mod_childCountL N m p (c : Int) (i : Int) = some (((c + cntF idn (fun y => decide (gp g y = p)) k i : Nat) : Int), m)
  | _, _, 0, _, _, h, _ => by omega
  | 0, i, N + 1, c, hk, _, _ => by
    have hn := V.n
    unfold f_Mod_childCountL
    rw [oix_i (by omega) (by omega), show (0 : Int).toNat = 0 from rfl, hg, if_neg (by omega)]
    rfl
  | k + 1, i, N + 1, c, hk, hN, hc => by
    have hn := V.n
    unfold f_Mod_childCountL cntF
    rw [oix_i (by omega) (by omega), show (0 : Int).toNat = 0 from rfl, hg, if_pos (by omega), M_par hg (by omega), Option.bind_some]
    show _ = some (((c + ((if decide (gp g i = p) = true then 1 else 0) + _) : Nat) : Int), m)
    by_cases h : gp g i = p
    · rw [if_pos h, if_pos (decide_eq_true h), jw_s (by omega), jw_s (by omega), M_chcL V hg p k (i + 1) N (c + 1) (by omega) (by omega) (by omega), Nat.add_assoc]
    · rw [if_neg h, if_neg (by rw [decide_eq_false h]; decide), jw_s (by omega), jw_e (y := (c : Int)) (by omega) (by omega) (by omega), M_chcL V hg p k (i + 1) N c (by omega) (by omega) (by omega), Nat.zero_add]
/-- the child of p with this many before it, from i on -/
def chF (par : Nat → Int) (p : Int) : Nat → Nat → Int → Int
  | 0, _, _ => -1
  | j + 1, i, k => if par i = p then (if k = 0 then (i : Int) else chF par p j (i + 1) (k - 1)) else chF par p j (i + 1) k
theorem P_childL (V : GP g) (H : RP 1 m g od ps) (p a : Int) : ∀ (k i N c : Nat), i + k = gn g → k < N → c + k < 1000 → f_People_childL N m p a (c : Int) (i : Int) = some (chF (gp g) p k i (a - c))
  | _, _, 0, _, _, h, _ => by omega
  | 0, i, N + 1, c, hk, _, _ => by
    have hn := V.n
    unfold f_People_childL
    rw [H.n, if_neg (by omega)]
    rfl
  | k + 1, i, N + 1, c, hk, hN, hc => by
    have hn := V.n
    unfold f_People_childL chF
    rw [H.n, if_pos (by omega), oix_n (by omega), Int.toNat_natCast, H.par (by omega)]
    by_cases h : gp g i = p
    · rw [if_pos h, if_pos h]
      by_cases h2 : (c : Int) = a
      · rw [if_pos h2, if_pos (by omega)]
      · rw [if_neg h2, if_neg (by omega), jw_s (by omega), jw_s (by omega), P_childL V H p a k (i + 1) N (c + 1) (by omega) (by omega) (by omega)]
        congr 2
        omega
    · rw [if_neg h, if_neg h, jw_s (by omega), P_childL V H p a k (i + 1) N c (by omega) (by omega) (by omega)]
theorem chF_neg (par : Nat → Int) (p : Int) : ∀ (j i : Nat) (k : Int), k < 0 → chF par p j i k = -1
  | 0, _, _, _ => rfl
  | j + 1, i, k, h => by
    unfold chF
    rw [if_neg (show ¬ k = 0 by omega), chF_neg par p j (i + 1) (k - 1) (by omega), chF_neg par p j (i + 1) k h]
    split <;> rfl
theorem chF_s (par : Nat → Int) (p : Int) (j i : Nat) (k : Int) : chF par p (j + 1) i k = if par i = p then (if k = 0 then (i : Int) else chF par p j (i + 1) (k - 1)) else chF par p j (i + 1) k := rfl
theorem cbF_s (par : Nat → Int) (p : Int) (j k : Nat) : cbF par p (j + 1) k = if par k = p then (k : Int) else cbF par p j (k + 1) := rfl
theorem chF_cb (par : Nat → Int) (p : Int) : ∀ (j i : Nat) (k : Int), 0 ≤ k → chF par p j i k = if cbF par p j i < 0 then -1 else if k = 0 then cbF par p j i else chF par p (i + j - ((cbF par p j i).toNat + 1)) ((cbF par p j i).toNat + 1) (k - 1)
  | 0, _, _, _ => by
    show (-1 : Int) = if (-1 : Int) < 0 then _ else _
    rw [if_pos (by omega)]
  | j + 1, i, k, h => by
    by_cases h1 : par i = p
    · have e : cbF par p (j + 1) i = (i : Int) := (cbF_s par p j i).trans (if_pos h1)
      rw [chF_s, if_pos h1, e, if_neg (show ¬ (i : Int) < 0 by omega), Int.toNat_natCast, show i + (j + 1) - (i + 1) = j by omega]
    · have e : cbF par p (j + 1) i = cbF par p j (i + 1) := (cbF_s par p j i).trans (if_neg h1)
      rw [chF_s, if_neg h1, e, chF_cb par p j (i + 1) k h, show i + 1 + j = i + (j + 1) by omega]
theorem chF_skip (par : Nat → Int) (p : Int) : ∀ (a i j : Nat) (k : Int), (∀ c, i ≤ c → c < i + a → par c ≠ p) → chF par p (a + j) i k = chF par p j (i + a) k
  | 0, _, _, _, _ => by rw [Nat.zero_add]; rfl
  | a + 1, i, j, k, h => by
    rw [show a + 1 + j = (a + j) + 1 by omega]
    conv => lhs; unfold chF
    rw [if_neg (h i (by omega) (by omega)), chF_skip par p a (i + 1) j k (fun c h1 h2 => h c (by omega) (by omega)), show i + 1 + a = i + (a + 1) by omega]
end People

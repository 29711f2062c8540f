/-! ===== who follows, and the first living below ===== -/
def cbF (par : Nat → Int) (p : Int) : Nat → Nat → Int
  | 0, _ => -1
  | j + 1, k => if par k = p then (k : Int) else cbF par p j (k + 1)
/-- the child behind another index -/
def cb (par : Nat → Int) (n : Nat) (p : Int) (i : Nat) : Int := cbF par p (n - (i + 1)) (i + 1)
theorem cbF_spec (par : Nat → Int) (p : Int) : ∀ (j k : Nat), (cbF par p j k = -1 ∧ ∀ c, k ≤ c → c < k + j → par c ≠ p) ∨ ∃ c, cbF par p j k = ((c : Nat) : Int) ∧ k ≤ c ∧ c < k + j ∧ par c = p ∧ ∀ d, k ≤ d → d < c → par d ≠ p
  | 0, k => Or.inl ⟨rfl, fun c h1 h2 => by omega⟩
  | j + 1, k => by
    unfold cbF
    by_cases h : par k = p
    · rw [if_pos h]
      exact Or.inr ⟨k, rfl, by omega, by omega, h, fun d h1 h2 => by omega⟩
    · rw [if_neg h]
      rcases cbF_spec par p j (k + 1) with ⟨e, h1⟩ | ⟨c, e, h1, h2, h3, h4⟩
      · refine Or.inl ⟨e, fun c a b => ?_⟩
        by_cases hc : c = k
        · rw [hc]; exact h
        · exact h1 c (by omega) (by omega)
      · refine Or.inr ⟨c, e, by omega, by omega, h3, fun d a b => ?_⟩
        by_cases hd : d = k
        · rw [hd]; exact h
        · exact h4 d (by omega) b
theorem cb_spec (par : Nat → Int) (n : Nat) (p : Int) (i : Nat) : (cb par n p i = -1 ∧ ∀ c, i < c → c < n → par c ≠ p) ∨ ∃ c, cb par n p i = ((c : Nat) : Int) ∧ i < c ∧ c < n ∧ par c = p ∧ ∀ d, i < d → d < c → par d ≠ p := by
  unfold cb
  rcases cbF_spec par p (n - (i + 1)) (i + 1) with ⟨e, h1⟩ | ⟨c, e, h1, h2, h3, h4⟩
  · exact Or.inl ⟨e, fun c a b => h1 c (by omega) (by omega)⟩
  · exact Or.inr ⟨c, e, by omega, by omega, h3, fun d a b => h4 d (by omega) b⟩
/-- up from p to r: the first later brother or sister on the way -/
def flF (par : Nat → Int) (n r : Nat) : Nat → Nat → Int
  | 0, _ => -1
  | k + 1, p => if p = r then -1 else if cb par n (par p) p < 0 then flF par n r k (par p).toNat else cb par n (par p) p
def fol (par : Nat → Int) (n x r : Nat) : Int := if cb par n (x : Int) x < 0 then flF par n r (x + 1) x else cb par n (x : Int) x
section Follow
variable {par : Nat → Int} {n : Nat} {od ps : Nat → Nat}
theorem OD.child_next (f : fvp par n) (h : OD par n od ps) {q : Nat} (hq : q + 1 < n) (hA : AB par (od q) (od (q + 1))) : 0 ≤ par (od (q + 1)) ∧ (par (od (q + 1))).toNat = od q := by
  have hz := h.1 (q + 1) hq
  have hy := h.1 q (by omega)
  have hne : od q ≠ od (q + 1) := fun e => by have := h.od_inj (by omega) hq e; omega
  obtain ⟨hp, h1⟩ := AB_ne f hz.1 hA hne
  have h2 := h.next_par f hq hp
  have := f.lt hz.1 hp
  exact ⟨hp, AB_antisymm f (by omega) hy.1 h2 h1⟩
/-- z comes next, not below p, but below the parent of p: z is the next brother or sister of p -/
theorem OD.sib_next (f : fvp par n) (h : OD par n od ps) {q p : Nat} (hq : q + 1 < n) (hp : AB par p (od q)) (hp0 : 0 ≤ par p) (hn : ¬ AB par p (od (q + 1))) (hA : AB par (par p).toNat (od (q + 1))) : par (od (q + 1)) = par p ∧ p < od (q + 1) := by
  have hz := h.1 (q + 1) hq
  have hy := h.1 q (by omega)
  have hpn : p < n := by have := AB_le f _ hy.1 hp; omega
  have hu := f.lt hpn hp0
  have hpq : ps p ≤ q := by
    have := (en_iff f h hpn hy.1).mp hp
    rw [hy.2] at this
    omega
  have hup := h.2.2.1 p hpn hp0
  have hne : (par p).toNat ≠ od (q + 1) := fun e => by
    have := hz.2
    rw [← e] at this
    omega
  obtain ⟨hz0, h1⟩ := AB_ne f hz.1 hA hne
  have h2 := h.next_par f hq hz0
  have hzl := f.lt hz.1 hz0
  have h3 : AB par (par (od (q + 1))).toNat (par p).toNat := by
    rcases AB_chain f _ hy.1 hp h2 with h4 | h4
    · exact absurd (AB_up f hz.1 hz0 h4) hn
    · by_cases e : (par (od (q + 1))).toNat = p
      · exact absurd (AB_up f hz.1 hz0 (by rw [e]; exact AB_refl _ _)) hn
      · exact (AB_ne f hpn h4 e).2
  have e := AB_antisymm f (by omega) (by omega) h3 h1
  refine ⟨by omega, ?_⟩
  by_cases h5 : p < od (q + 1)
  · exact h5
  · exfalso
    by_cases e2 : od (q + 1) = p
    · exact hn (by rw [e2]; exact AB_refl _ _)
    · have := h.2.2.2.2 (od (q + 1)) p (by omega) hpn (by omega)
      rw [hz.2] at this
      omega
theorem flF_next (f : fvp par n) (h : OD par n od ps) {q r : Nat} (hq : q < n) (hr : r < n) : ∀ (k p : Nat), p < k → AB par p (od q) → AB par r p → (q + 1 < n → ¬ AB par p (od (q + 1))) → flF par n r k p = if q + 1 < en par n od ps r then ((od (q + 1) : Nat) : Int) else -1
  | 0, p, h0, _, _, _ => by omega
  | k + 1, p, h0, h1, h2, h3 => by
    have hy := h.1 q hq
    have hpn : p < n := by have := AB_le f _ hy.1 h1; omega
    unfold flF
    by_cases e : p = r
    · rw [if_pos e, if_neg]
      intro h4
      have h5 := (en_spec f h hr).2.1
      have hz := h.1 (q + 1) (by omega)
      refine h3 (by omega) ?_
      rw [e]
      refine (en_iff f h hr hz.1).mpr ?_
      rw [hz.2]
      have := ((en_iff f h hr hy.1).mp (AB_trans f _ hy.1 h2 h1)).1
      rw [hy.2] at this
      exact ⟨by omega, h4⟩
    · rw [if_neg e]
      obtain ⟨hp0, h4⟩ := AB_ne f hpn h2 (fun e' => e e'.symm)
      have hu := f.lt hpn hp0
      have huy : AB par (par p).toNat (od q) := AB_trans f _ hy.1 (AB_par f hpn hp0) h1
      rcases cb_spec par n (par p) p with ⟨ec, h5⟩ | ⟨s, ec, h5, h6, h7, h8⟩
      · rw [ec, if_pos (by omega)]
        refine flF_next f h hq hr k (par p).toNat (by omega) huy h4 fun h9 h10 => ?_
        obtain ⟨a1, a2⟩ := h.sib_next f h9 h1 hp0 (h3 h9) h10
        exact h5 _ a2 (h.1 _ h9).1 a1
      · rw [ec, if_neg (by omega)]
        obtain ⟨b1, b2, b3, b4⟩ := h.later f hq h1 h6 h5 h7 hp0
        obtain ⟨a1, a2⟩ := h.sib_next f b3 h1 hp0 (h3 b3) b4
        have hz := h.1 (q + 1) b3
        have hs : s = od (q + 1) := by
          by_cases c1 : s < od (q + 1)
          · have := h.2.2.2.2 s (od (q + 1)) c1 hz.1 (by rw [h7, a1])
            rw [hz.2] at this
            omega
          · by_cases c2 : od (q + 1) < s
            · exact absurd a1 (h8 _ a2 c2)
            · omega
        rw [if_pos, hs]
        have h9 := (en_iff f h hr hz.1).mp (AB_trans f _ hz.1 h4 b4)
        rw [hz.2] at h9
        exact h9.2
theorem fol_next (f : fvp par n) (h : OD par n od ps) {q r : Nat} (hq : q < n) (hr : r < n) (hA : AB par r (od q)) : fol par n (od q) r = if q + 1 < en par n od ps r then ((od (q + 1) : Nat) : Int) else -1 := by
  have hy := h.1 q hq
  unfold fol
  rcases cb_spec par n ((od q : Nat) : Int) (od q) with ⟨ec, h5⟩ | ⟨s, ec, h5, h6, h7, h8⟩
  · rw [ec, if_pos (by omega)]
    refine flF_next f h hq hr _ _ (by omega) (AB_refl _ _) hA fun h9 h10 => ?_
    obtain ⟨a1, a2⟩ := h.child_next f h9 h10
    have hz := h.1 _ h9
    have := f.lt hz.1 a1
    exact h5 (od (q + 1)) (by omega) hz.1 (by omega)
  · rw [ec, if_neg (by omega)]
    have hnext : q + 1 < n ∧ AB par (od q) (od (q + 1)) := by
      by_cases h9 : q + 1 < n
      · refine ⟨h9, Classical.byContradiction fun h10 => ?_⟩
        exact h.no_child f hq h6 h7 (fun _ => h10)
      · exact (h.no_child f hq h6 h7 (fun h10 => absurd h10 h9)).elim
    obtain ⟨h9, h10⟩ := hnext
    obtain ⟨a1, a2⟩ := h.child_next f h9 h10
    have hz := h.1 _ h9
    have hzl := f.lt hz.1 a1
    have hs : s = od (q + 1) := by
      by_cases c1 : s < od (q + 1)
      · have h11 := h.2.2.2.2 s (od (q + 1)) c1 hz.1 (by omega)
        have h12 := h.2.2.1 s h6 (by omega)
        rw [h7, show ((od q : Nat) : Int).toNat = od q by omega, hy.2] at h12
        rw [hz.2] at h11
        omega
      · by_cases c2 : od (q + 1) < s
        · exact absurd (by omega) (h8 (od (q + 1)) (by omega) c2)
        · omega
    rw [if_pos, hs]
    have h11 := (en_iff f h hr hz.1).mp (AB_trans f _ hz.1 hA h10)
    rw [hz.2] at h11
    exact h11.2
/-- the first at a place from q on, ahead of e, of whom ok holds; -1: nobody -/
def scF (od : Nat → Nat) (ok : Nat → Bool) : Nat → Nat → Int
  | 0, _ => -1
  | k + 1, q => if ok (od q) = true then ((od q : Nat) : Int) else scF od ok k (q + 1)
def sc (od : Nat → Nat) (ok : Nat → Bool) (q e : Nat) : Int := scF od ok (e - q) q
/-- the first below r of whom ok holds -/
def fb (par : Nat → Int) (n : Nat) (od ps : Nat → Nat) (ok : Nat → Bool) (r : Nat) : Int := sc od ok (ps r + 1) (en par n od ps r)
theorem sc_end {od : Nat → Nat} {ok : Nat → Bool} {q e : Nat} (h : e ≤ q) : sc od ok q e = -1 := by
  unfold sc
  rw [Nat.sub_eq_zero_of_le h]
  rfl
theorem sc_hit {od : Nat → Nat} {ok : Nat → Bool} {q e : Nat} (h : q < e) (hk : ok (od q) = true) : sc od ok q e = ((od q : Nat) : Int) := by
  unfold sc
  rw [show e - q = (e - (q + 1)) + 1 by omega]
  exact if_pos hk
theorem sc_miss {od : Nat → Nat} {ok : Nat → Bool} {q e : Nat} (h : q < e) (hk : ¬ ok (od q) = true) : sc od ok q e = sc od ok (q + 1) e := by
  unfold sc
  rw [show e - q = (e - (q + 1)) + 1 by omega]
  exact if_neg hk
theorem sc_spec (od : Nat → Nat) (ok : Nat → Bool) (e : Nat) : ∀ (k q : Nat), e - q = k → (sc od ok q e = -1 ∧ ∀ r, q ≤ r → r < e → ok (od r) = false) ∨ ∃ r, sc od ok q e = ((od r : Nat) : Int) ∧ q ≤ r ∧ r < e ∧ ok (od r) = true ∧ ∀ t, q ≤ t → t < r → ok (od t) = false
  | 0, q, hk => Or.inl ⟨sc_end (by omega), fun r h1 h2 => by omega⟩
  | k + 1, q, hk => by
    by_cases h : ok (od q) = true
    · exact Or.inr ⟨q, sc_hit (by omega) h, by omega, by omega, h, fun t h1 h2 => by omega⟩
    · rw [sc_miss (by omega) h]
      rcases sc_spec od ok e k (q + 1) (by omega) with ⟨e1, h1⟩ | ⟨r, e1, h1, h2, h3, h4⟩
      · refine Or.inl ⟨e1, fun r a b => ?_⟩
        by_cases hr : r = q
        · rw [hr]; exact Bool.eq_false_iff.mpr h
        · exact h1 r (by omega) b
      · refine Or.inr ⟨r, e1, by omega, h2, h3, fun t a b => ?_⟩
        by_cases ht : t = q
        · rw [ht]; exact Bool.eq_false_iff.mpr h
        · exact h4 t (by omega) b
theorem sc_congr {od : Nat → Nat} {ok ok' : Nat → Bool} {e : Nat} : ∀ (k q : Nat), e - q = k → (∀ r, q ≤ r → r < e → ok (od r) = ok' (od r)) → sc od ok q e = sc od ok' q e
  | 0, q, hk, _ => by rw [sc_end (by omega), sc_end (by omega)]
  | k + 1, q, hk, h => by
    by_cases h1 : ok (od q) = true
    · rw [sc_hit (ok := ok) (by omega) h1, sc_hit (ok := ok') (by omega) (by rw [← h q (by omega) (by omega)]; exact h1)]
    · rw [sc_miss (ok := ok) (by omega) h1, sc_miss (ok := ok') (by omega) (by rw [← h q (by omega) (by omega)]; exact h1)]
      exact sc_congr k (q + 1) (by omega) fun r a b => h r (by omega) b
end Follow

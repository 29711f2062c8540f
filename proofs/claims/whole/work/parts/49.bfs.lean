/-! ===== the search ===== -/
def nb (par : Nat → Int) (u v : Nat) : Prop := par u = (v : Int) ∨ par v = (u : Int)
theorem nb_symm {par : Nat → Int} {u v : Nat} (h : nb par u v) : nb par v u := h.symm
section Apt
variable {par : Nat → Int} {n : Nat}
theorem apt_up (f : fvp par n) {i u v : Nat} (hi : i < n) (hv : v < n) (hp : par v = (u : Int)) : (AB par v i ∧ apt par i u = apt par i v + 1 ∧ 0 ≤ apt par i v) ∨ (¬ AB par v i ∧ ((apt par i u = -1 ∧ apt par i v = -1) ∨ (apt par i v = apt par i u + 1 ∧ 0 ≤ apt par i u))) := by
  have hu : u < v := by
    have := f.lt hv (by omega)
    omega
  have hpv : par v = (u : Int) := hp
  have hAu : AB par u v := by
    have := AB_par f hv (by omega)
    rw [hp] at this
    exact this
  have hd : dp par v = dp par u + 1 := by
    have := dp_pos f hv (by omega)
    rw [hp, Int.toNat_natCast] at this
    exact this
  by_cases hA : AB par v i
  · have h1 : lc par i v = (v : Int) := lc_uniq f hi hA (AB_refl _ _) fun d _ h => h
    have h2 : lc par i u = (u : Int) := lc_uniq f hi (AB_trans f i hi hAu hA) (AB_refl _ _) fun d _ h => h
    have h3 := (AB_dp f i hi hA).1
    refine Or.inl ⟨hA, ?_, ?_⟩ <;> unfold apt <;> rw [h1, if_neg (by omega), Int.toNat_natCast]
    · rw [h2, if_neg (by omega), Int.toNat_natCast]
      omega
    · omega
  · refine Or.inr ⟨hA, ?_⟩
    rcases lc_spec f (b := u) i hi with ⟨e, h1⟩ | ⟨c, e, h1, h2, h3⟩
    · have h4 : lc par i v = -1 := by
        rcases lc_spec f (b := v) i hi with ⟨e2, -⟩ | ⟨c, e2, h5, h6, -⟩
        · exact e2
        · have h7 := AB_ne f hv h6 (fun e3 => hA (by rw [← e3]; exact h5))
          rw [hp, Int.toNat_natCast] at h7
          exact absurd h7.2 (h1 c h5)
      refine Or.inl ⟨?_, ?_⟩ <;> unfold apt
      · rw [if_pos e]
      · rw [if_pos h4]
    · have h4 : lc par i v = (c : Int) := lc_uniq f hi h1 (AB_up f hv (by omega) (by rw [hp, Int.toNat_natCast]; exact h2)) fun d hd1 hd2 => by
        have h7 := AB_ne f hv hd2 (fun e3 => hA (by rw [← e3]; exact hd1))
        rw [hp, Int.toNat_natCast] at h7
        exact h3 d hd1 h7.2
      have h5 := (AB_dp f i hi h1).1
      have h6 := (AB_dp f u (by omega) h2).1
      refine Or.inr ⟨?_, ?_⟩ <;> unfold apt <;> rw [e, if_neg (by omega), Int.toNat_natCast]
      · rw [h4, if_neg (by omega), Int.toNat_natCast]
        omega
      · omega
theorem apt_self (f : fvp par n) {i : Nat} (hi : i < n) : apt par i i = 0 := by
  unfold apt
  rw [lc_self (AB_refl _ _), if_neg (by omega), Int.toNat_natCast]
  omega
/-- a new neighbour v of the reached u is one step farther, and nobody else leads back from it -/
theorem apt_new (f : fvp par n) {i u v : Nat} (hi : i < n) (hu : u < n) (hv : v < n) (h : nb par u v) (h0 : 0 ≤ apt par i u) (hn : apt par i v = apt par i u - 1 → False) : apt par i v = apt par i u + 1 ∧ ∀ w, w < n → nb par v w → apt par i w = apt par i v - 1 → w = u := by
  rcases h with h | h
  · -- v is u's parent
    rcases apt_up f hi hu h with ⟨hA, e, e0⟩ | ⟨hA, ⟨e, e2⟩ | ⟨e, e2⟩⟩
    · refine ⟨e, fun w hw hvw ew => ?_⟩
      rcases hvw with h2 | h2
      · have hAv : AB par v i := AB_trans f i hi (by
          have := AB_par f hu (by omega)
          rw [h] at this
          exact this) hA
        rcases apt_up f hi hv h2 with ⟨-, e3, -⟩ | ⟨hA3, -⟩
        · omega
        · exact absurd hAv hA3
      · rcases apt_up f hi hw h2 with ⟨hA3, -, -⟩ | ⟨-, ⟨e3, e4⟩ | ⟨e3, e4⟩⟩
        · have d1 := dp_pos f hw (by omega)
          have d2 := dp_pos f hu (by omega)
          rw [h2, Int.toNat_natCast] at d1
          rw [h, Int.toNat_natCast] at d2
          exact AB_dp_eq f hi hA3 hA (by omega)
        · omega
        · omega
    · omega
    · exact (hn (by omega)).elim
  · -- u is v's parent
    rcases apt_up f hi hv h with ⟨hA, e, e0⟩ | ⟨hA, ⟨e, e2⟩ | ⟨e, e2⟩⟩
    · exact (hn (by omega)).elim
    · omega
    · refine ⟨e, fun w hw hvw ew => ?_⟩
      rcases hvw with h2 | h2
      · omega
      · rcases apt_up f hi hw h2 with ⟨hA3, -, -⟩ | ⟨-, ⟨e3, e4⟩ | ⟨e3, e4⟩⟩
        · refine absurd (AB_trans f i hi ?_ hA3) hA
          have := AB_par f hw (by omega)
          rw [h2] at this
          exact this
        · omega
        · omega
end Apt
theorem RP.mv {b : Nat} {m m' : jMem} {g : Nat → Int} {od ps : Nat → Nat} (H : RP b m g od ps) (h : ∀ q, b < q → q < b + 6 → m' q = m q) : RP b m' g od ps := by
  unfold RP at H ⊢
  rw [h (b + 1) (by omega) (by omega), h (b + 2) (by omega) (by omega), h (b + 3) (by omega) (by omega), h (b + 4) (by omega) (by omega), h (b + 5) (by omega) (by omega)]
  exact H
theorem sumN_le (F G : Nat → Nat) : ∀ (n : Nat), (∀ i, i < n → F i ≤ G i) → sumN F n ≤ sumN G n
  | 0, _ => Nat.le_refl _
  | n + 1, h => Nat.add_le_add (sumN_le F G n fun i hi => h i (by omega)) (h n (by omega))
theorem sumN_const (c : Nat) : ∀ (n : Nat), sumN (fun _ => c) n = n * c
  | 0 => (Nat.zero_mul c).symm
  | n + 1 => by
    show sumN (fun _ => c) n + c = _
    rw [sumN_const c n, Nat.add_mul, Nat.one_mul]
theorem cnt_le (P : Nat → Bool) (n : Nat) : cntF idn P n 0 ≤ n := by
  rw [cntF_0]
  have h := sumN_le (fun i => if P (idn i) = true then 1 else 0) (fun _ => 1) n (fun i _ => by split <;> omega)
  rw [sumN_const] at h
  omega
theorem cnt_add {P P' : Nat → Bool} {n v : Nat} (hv : v < n) (h1 : P v = false) (h2 : P' v = true) (h3 : ∀ y, y < n → y ≠ v → P' y = P y) : cntF idn P' n 0 = cntF idn P n 0 + 1 := by
  rw [cntF_0, cntF_0]
  have h : sumN (fun i => if P' (idn i) = true then 1 else 0) n = sumN (fun i => (if P (idn i) = true then 1 else 0) + (if i = v then 1 else 0)) n := sumN_congr n fun i hi => by
    show (if P' i = true then 1 else 0) = (if P i = true then 1 else 0) + (if i = v then 1 else 0)
    by_cases e : i = v
    · rw [e, h1, h2]
      simp
    · rw [h3 i hi e, if_neg e]
      rfl
  rw [h, sumN_add, sumN_one, if_pos hv]
section Bfs
variable {m : jMem} {g : Nat → Int} {od ps : Nat → Nat} {i : Nat}
def BF (g : Nat → Int) (i : Nat) (m : jMem) (c : Nat) : Prop :=
  m 14 2 = (c : Int) ∧ c = cntF idn (fun y => decide (m 15 y ≠ -1)) (gn g) 0 ∧
  (∀ y, y < gn g → m 15 y ≠ -1 → m 15 y = apt (gp g) i y ∧ 0 ≤ apt (gp g) i y) ∧
  m 15 i = 0 ∧
  (∀ v w, v < gn g → w < gn g → nb (gp g) v w → m 15 v ≠ -1 → apt (gp g) i w = apt (gp g) i v - 1 → 0 ≤ apt (gp g) i w → m 15 w ≠ -1) ∧
  (∀ q, q < c → ∃ y, y < gn g ∧ m 16 q = ((y : Nat) : Int) ∧ m 15 y ≠ -1) ∧
  (∀ y, y < gn g → m 15 y ≠ -1 → ∃ q, q < c ∧ m 16 q = (y : Int))
/-- what a step of the search keeps -/
def BK (m m' : jMem) (c c' : Nat) : Prop := c ≤ c' ∧ (∀ y, m 15 y ≠ -1 → m' 15 y = m 15 y) ∧ (∀ q, q < c → m' 16 q = m 16 q) ∧ (∀ q, q ≠ 14 → q ≠ 15 → q ≠ 16 → m' q = m q)
theorem BK.refl (m : jMem) (c : Nat) : BK m m c c := ⟨Nat.le_refl _, fun _ _ => rfl, fun _ _ => rfl, fun _ _ _ _ => rfl⟩
theorem BK.trans {m1 m2 m3 : jMem} {c1 c2 c3 : Nat} (h : BK m1 m2 c1 c2) (h' : BK m2 m3 c2 c3) : BK m1 m3 c1 c3 :=
  ⟨Nat.le_trans h.1 h'.1, fun y hy => (h'.2.1 y (by rw [h.2.1 y hy]; exact hy)).trans (h.2.1 y hy), fun q hq => (h'.2.2.1 q (Nat.lt_of_lt_of_le hq h.1)).trans (h.2.2.1 q hq), fun q a b c => (h'.2.2.2 q a b c).trans (h.2.2.2 q a b c)⟩
theorem BK.rp {m' : jMem} {c c' : Nat} (h : BK m m' c c') (H : RP 1 m g od ps) : RP 1 m' g od ps := H.mv fun q h1 h2 => h.2.2.2 q (by omega) (by omega) (by omega)
/-- reach on a person not reached -/
theorem S_new (m : jMem) {v : Nat} {x : Int} {c : Nat} (hv : v < 16) (hc : m 14 2 = (c : Int)) (hc2 : c < 16) (h : m 15 v = -1) : f_Search_reach m (v : Int) x = some (mset (mset (mset m 15 v x) 16 c (v : Int)) 14 2 ((c + 1 : Nat) : Int)) := by
  have e1 : mset m 15 v x 14 = m 14 := mset_ne (by omega)
  have e2 : ∀ y, mset (mset m 15 v x) 16 y (v : Int) 14 = m 14 := fun y => (mset_ne (by omega)).trans e1
  unfold f_Search_reach
  rw [if_neg (by omega), if_pos (by omega), oix_n hv, Int.toNat_natCast, if_pos h, hc, if_neg (by omega), if_pos (by omega), oix_n hv, e1, hc, oix_n hc2, Int.toNat_natCast, e2, hc, jw_s (by omega)]
theorem S_old (m : jMem) {v : Nat} {x : Int} (hv : v < 16) (h : m 15 v ≠ -1) : f_Search_reach m (v : Int) x = some m := by
  unfold f_Search_reach
  rw [if_neg (by omega), if_pos (by omega), oix_n hv, Int.toNat_natCast, if_neg h]
theorem S_reach (V : GP g) (hi : i < gn g) {u v c : Nat} (B : BF g i m c) (hu : u < gn g) (hv : v < gn g) (hn : nb (gp g) u v) (hr : m 15 u ≠ -1) : ∃ m' c', f_Search_reach m (v : Int) (jw (m 15 u + 1)) = some m' ∧ BF g i m' c' ∧ BK m m' c c' ∧ m' 15 v ≠ -1 := by
  have hV := V.n
  by_cases h : m 15 v = -1
  · obtain ⟨b1, b2, b3, b4, b5, b6, b7⟩ := B
    obtain ⟨l1, l2⟩ := b3 u hu hr
    have hx := apt_lt V hi hu
    obtain ⟨a1, a2⟩ := apt_new V.f hi hu hv hn l2 fun e => by
      by_cases h0 : 0 ≤ apt (gp g) i v
      · exact b5 u v hu hv hn hr e h0 h
      · have : apt (gp g) i v = -1 := by omega
        have h1 : apt (gp g) i u = 0 := by omega
        rcases hn with h2 | h2
        · rcases apt_up V.f hi hu h2 with ⟨-, e3, e4⟩ | ⟨-, ⟨e3, e4⟩ | ⟨e3, e4⟩⟩ <;> omega
        · rcases apt_up V.f hi hv h2 with ⟨-, e3, e4⟩ | ⟨-, ⟨e3, e4⟩ | ⟨e3, e4⟩⟩ <;> omega
    have hcn : c < gn g := by
      have := cnt_add (P := fun y => decide (m 15 y ≠ -1)) (P' := fun y => decide (m 15 y ≠ -1) || Nat.beq y v) hv (by rw [h]; rfl) (by rw [Nat.beq_refl, Bool.or_true]) (fun y _ hy => by
        have : Nat.beq y v = false := by
          cases hb : Nat.beq y v with
          | false => rfl
          | true => exact absurd (Nat.eq_of_beq_eq_true hb) hy
        rw [this, Bool.or_false])
      have h2 := cnt_le (fun y => decide (m 15 y ≠ -1) || Nat.beq y v) (gn g)
      omega
    rw [l1, jw_id ⟨by omega, by omega⟩, S_new m (by omega) b1 (by omega) h]
    generalize hm' : mset (mset (mset m 15 v (apt (gp g) i u + 1)) 16 c (v : Int)) 14 2 ((c + 1 : Nat) : Int) = m'
    have r15 : ∀ y, m' 15 y = if y = v then apt (gp g) i u + 1 else m 15 y := fun y => by
      rw [← hm', mset_ne (by omega), mset_ne (by omega), mset_row]
      rfl
    have r16 : ∀ q, m' 16 q = if q = c then (v : Int) else m 16 q := fun q => by
      rw [← hm', mset_ne (by omega), mset_row, mset_ne (by omega)]
      rfl
    have r14 : m' 14 2 = ((c + 1 : Nat) : Int) := by
      rw [← hm', mset_row]
      rfl
    have rv : m' 15 v = apt (gp g) i v := by rw [r15, if_pos rfl, a1]
    have ro : ∀ y, y ≠ v → m' 15 y = m 15 y := fun y hy => by rw [r15, if_neg hy]
    have rn : m' 15 v ≠ -1 := by rw [rv]; omega
    refine ⟨m', c + 1, rfl, ⟨r14, ?_, ?_, ?_, ?_, ?_, ?_⟩, ⟨by omega, ?_, ?_, ?_⟩, rn⟩
    · rw [cnt_add (P := fun y => decide (m 15 y ≠ -1)) (P' := fun y => decide (m' 15 y ≠ -1)) hv (by rw [h]; rfl) (by rw [decide_eq_true rn]) (fun y _ hy => by rw [ro y hy]), ← b2]
    · intro y hy hy2
      by_cases e : y = v
      · rw [e]
        exact ⟨rv, by omega⟩
      · rw [ro y e] at hy2 ⊢
        exact b3 y hy hy2
    · by_cases e : i = v
      · rw [← e, b4] at h
        omega
      · rw [ro i e, b4]
    · intro y w hy hw hyw hry e e0
      by_cases e2 : w = v
      · rw [e2]; exact rn
      · by_cases e3 : y = v
        · subst e3
          rw [a2 w hw hyw e, ro u (fun e4 => by rw [e4] at hr; exact hr h)]
          exact hr
        · rw [ro y e3] at hry
          rw [ro w e2]
          exact b5 y w hy hw hyw hry e e0
    · intro q hq
      by_cases e : q = c
      · exact ⟨v, hv, by rw [r16, if_pos e], rn⟩
      · obtain ⟨y, h1, h2, h3⟩ := b6 q (by omega)
        refine ⟨y, h1, by rw [r16, if_neg e, h2], ?_⟩
        rw [ro y (fun e4 => by rw [e4] at h3; exact h3 h)]
        exact h3
    · intro y hy hy2
      by_cases e : y = v
      · exact ⟨c, by omega, by rw [r16, if_pos rfl, e]⟩
      · rw [ro y e] at hy2
        obtain ⟨q, h1, h2⟩ := b7 y hy hy2
        exact ⟨q, by omega, by rw [r16, if_neg (by omega), h2]⟩
    · intro y hy
      rw [ro y (fun e4 => by rw [e4] at hy; exact hy h)]
    · intro q hq
      rw [r16, if_neg (by omega)]
    · intro q q1 q2 q3
      rw [← hm', mset_ne q1, mset_ne q3, mset_ne q2]
  · exact ⟨m, c, S_old m (by omega) h, B, BK.refl m c, h⟩
theorem S_to (m : jMem) {v : Nat} (hv : v < 16) : f_Search_stepsTo m (v : Int) = some (m 15 v) := by
  unfold f_Search_stepsTo
  rw [if_neg (by omega), if_pos (by omega), oix_n hv, Int.toNat_natCast]
theorem S_l2 (N : Nat) (m : jMem) (a2 a3 a4 a5 : Int) : f_Search_startFromL (N + 1) 2 m a2 a3 a4 a5 = if a5 < (m 2 4) then (f_People_areNeighbours m a4 a5).bind fun x2 => if x2 = 0 then f_Search_startFromL N 2 m 0 a3 a4 (jw (a5 + 1)) else (f_Search_stepsTo m a4).bind fun x3 => (f_Search_reach m a5 (jw (x3 + 1))).bind fun m4 => f_Search_startFromL N 2 m4 0 a3 a4 (jw (a5 + 1)) else f_Search_startFromL N 1 m 0 (jw (a3 + 1)) 0 0 := rfl
theorem S_l1 (N : Nat) (m : jMem) (a2 a3 a4 a5 : Int) : f_Search_startFromL (N + 1) 1 m a2 a3 a4 a5 = if a3 < (m 14 2) then if a3 < 16 then oix a3 16 (f_Search_startFromL N 2 m 0 a3 (m 16 a3.toNat) 0) else some (m) else some (m) := rfl
theorem S_l0 (N : Nat) (m : jMem) (a2 a3 a4 a5 : Int) : f_Search_startFromL (N + 1) 0 m a2 a3 a4 a5 = if a3 < 16 then oix a3 16 (f_Search_startFromL N 0 (mset m 15 a3.toNat (-1)) a2 (jw (a3 + 1)) 0 0) else (f_Search_reach (mset m 14 2 0) a2 0).bind fun m1 => f_Search_startFromL N 1 m1 0 0 0 0 := rfl
theorem S_row (V : GP g) (hi : i < gn g) {u : Nat} (hu : u < gn g) {a3 : Nat} (ha3 : a3 < 16) : ∀ (k a5 N c : Nat) (m : jMem), a5 + k = gn g → RP 1 m g od ps → BF g i m c → m 15 u ≠ -1 → (∀ y, y < a5 → nb (gp g) u y → m 15 y ≠ -1) → ∃ m' c', f_Search_startFromL (N + (k + 1)) 2 m 0 (a3 : Int) (u : Int) (a5 : Int) = f_Search_startFromL N 1 m' 0 ((a3 + 1 : Nat) : Int) 0 0 ∧ BF g i m' c' ∧ BK m m' c c' ∧ (∀ y, y < gn g → nb (gp g) u y → m' 15 y ≠ -1)
  | 0, a5, N, c, m, hk, H, B, hr, hd => by
    have hn := V.n
    refine ⟨m, c, ?_, B, BK.refl m c, fun y hy => hd y (by omega)⟩
    rw [S_l2, H.n, if_neg (by omega), jw_s (by omega)]
  | k + 1, a5, N, c, m, hk, H, B, hr, hd => by
    have hn := V.n
    rw [show N + (k + 1 + 1) = (N + (k + 1)) + 1 by omega, S_l2, H.n, if_pos (by omega), P_neigh V H hu (by omega), Option.bind_some, jw_s (by omega)]
    by_cases h : gp g u = (a5 : Int) ∨ gp g a5 = (u : Int)
    · rw [if_pos h, if_neg (by omega), S_to m (by omega), Option.bind_some]
      obtain ⟨m1, c1, e1, B1, K1, r1⟩ := S_reach V hi B hu (show a5 < gn g by omega) h hr
      rw [e1, Option.bind_some]
      have hr1 : m1 15 u ≠ -1 := by rw [K1.2.1 u hr]; exact hr
      obtain ⟨m2, c2, e2, B2, K2, r2⟩ := S_row V hi hu ha3 k (a5 + 1) N c1 m1 (by omega) (K1.rp H) B1 hr1 (fun y hy hny => by
        by_cases e : y = a5
        · rw [e]; exact r1
        · have := hd y (by omega) hny
          rw [K1.2.1 y this]
          exact this)
      exact ⟨m2, c2, e2, B2, K1.trans K2, r2⟩
    · rw [if_neg h, if_pos rfl]
      exact S_row V hi hu ha3 k (a5 + 1) N c m (by omega) H B hr (fun y hy hny => by
        by_cases e : y = a5
        · rw [e] at hny
          exact absurd hny h
        · exact hd y (by omega) hny)
theorem S_que (V : GP g) (hi : i < gn g) : ∀ (k a3 N c : Nat) (m : jMem), a3 + k = gn g → 20 * (k + 1) ≤ N → RP 1 m g od ps → BF g i m c → a3 ≤ c → (∀ q u y, q < a3 → m 16 q = ((u : Nat) : Int) → u < gn g → y < gn g → nb (gp g) u y → m 15 y ≠ -1) → ∃ m' c', f_Search_startFromL N 1 m 0 (a3 : Int) 0 0 = some m' ∧ BF g i m' c' ∧ BK m m' c c' ∧ (∀ u y, u < gn g → y < gn g → m' 15 u ≠ -1 → nb (gp g) u y → m' 15 y ≠ -1)
  | _, _, 0, _, _, _, h, _, _, _, _ => by omega
  | k, a3, N + 1, c, m, hk, hN, H, B, hc, hd => by
    have hn := V.n
    have hcn : c ≤ gn g := by
      have := cnt_le (fun y => decide (m 15 y ≠ -1)) (gn g)
      have := B.2.1
      omega
    rw [S_l1, B.1]
    by_cases h : a3 < c
    · obtain ⟨u, hu, e, hr⟩ := B.2.2.2.2.2.1 a3 h
      rw [if_pos (by omega), if_pos (by omega), oix_n (by omega), Int.toNat_natCast, e]
      cases k with
      | zero => omega
      | succ k =>
        obtain ⟨m1, c1, e1, B1, K1, r1⟩ := S_row V hi hu (show a3 < 16 by omega) (gn g) 0 (N - (gn g + 1)) c m (by omega) H B hr (fun y hy => by omega)
        rw [show N - (gn g + 1) + (gn g + 1) = N by omega] at e1
        rw [show ((0 : Int)) = ((0 : Nat) : Int) from rfl] at e1 ⊢
        rw [e1]
        obtain ⟨m2, c2, e2, B2, K2, r2⟩ := S_que V hi k (a3 + 1) (N - (gn g + 1)) c1 m1 (by omega) (by omega) (K1.rp H) B1 (by have := K1.1; omega) (fun q u' y hq hqu hu' hy hny => by
          by_cases e4 : q = a3
          · rw [e4, K1.2.2.1 a3 h, e] at hqu
            have : u = u' := by omega
            subst this
            exact r1 y hy hny
          · rw [K1.2.2.1 q (by omega)] at hqu
            have := hd q u' y (by omega) hqu hu' hy hny
            rw [K1.2.1 y this]
            exact this)
        exact ⟨m2, c2, e2, B2, K1.trans K2, r2⟩
    · rw [if_neg (by omega)]
      refine ⟨m, c, rfl, B, BK.refl m c, fun u y hu hy hr hny => ?_⟩
      obtain ⟨q, hq, e⟩ := B.2.2.2.2.2.2 u hu hr
      exact hd q u y (by omega) e hu hy hny
theorem S_clr : ∀ (k a3 N : Nat) (m : jMem) (a2 : Int), a3 + k = 16 → (∀ y, y < a3 → m 15 y = -1) → ∃ m', f_Search_startFromL (N + (k + 1)) 0 m a2 (a3 : Int) 0 0 = ((f_Search_reach (mset m' 14 2 0) a2 0).bind fun m1 => f_Search_startFromL N 1 m1 0 0 0 0) ∧ (∀ y, y < 16 → m' 15 y = -1) ∧ (∀ q, q ≠ 15 → m' q = m q)
  | 0, a3, N, m, a2, hk, hd => by
    refine ⟨m, ?_, fun y hy => hd y (by omega), fun _ _ => rfl⟩
    rw [S_l0, if_neg (by omega)]
  | k + 1, a3, N, m, a2, hk, hd => by
    obtain ⟨m1, e1, r1, k1⟩ := S_clr k (a3 + 1) N (mset m 15 a3 (-1)) a2 (by omega) (fun y hy => by
      rw [mset_row]
      unfold jup
      by_cases e : y = a3
      · rw [if_pos e]
      · rw [if_neg e]
        exact hd y (by omega))
    refine ⟨m1, ?_, r1, fun q hq => (k1 q hq).trans (mset_ne hq)⟩
    rw [show N + (k + 1 + 1) = (N + (k + 1)) + 1 by omega, S_l0, if_pos (by omega), oix_n (by omega), Int.toNat_natCast, jw_s (by omega), e1]
theorem S_start (V : GP g) (H : RP 1 m g od ps) (hi : i < gn g) : ∃ m', f_Search_startFrom m (i : Int) = some m' ∧ (∀ j, j < gn g → m' 15 j = apt (gp g) i j) ∧ (∀ q, q ≠ 14 → q ≠ 15 → q ≠ 16 → m' q = m q) := by
  have hn := V.n
  have hs := apt_self V.f hi
  obtain ⟨m1, e1, r1, k1⟩ := S_clr 16 0 (99999 - 17) m (i : Int) (by omega) (fun y hy => by omega)
  have d1 : ∀ y, y < 16 → (mset m1 14 2 0) 15 y = -1 := fun y hy => by
    rw [mset_ne (by omega)]
    exact r1 y hy
  have hz : (mset m1 14 2 0) 14 2 = ((0 : Nat) : Int) := by rw [mset_row]; rfl
  have e2 := S_new (mset m1 14 2 0) (v := i) (x := 0) (by omega) hz (by omega) (d1 i (by omega))
  generalize hm' : mset (mset (mset (mset m1 14 2 0) 15 i 0) 16 0 (i : Int)) 14 2 ((0 + 1 : Nat) : Int) = m' at e2
  have r15 : ∀ y, y < 16 → m' 15 y = if y = i then 0 else -1 := fun y hy => by
    rw [← hm', mset_ne (by omega), mset_ne (by omega), mset_row]
    unfold jup
    rw [d1 y hy]
  have r16 : m' 16 0 = (i : Int) := by
    rw [← hm', mset_ne (by omega), mset_row]
    rfl
  have r14 : m' 14 2 = ((1 : Nat) : Int) := by
    rw [← hm', mset_row]
    rfl
  have k2 : ∀ q, q ≠ 14 → q ≠ 15 → q ≠ 16 → m' q = m q := fun q q1 q2 q3 => by
    rw [← hm', mset_ne q1, mset_ne q3, mset_ne q2, mset_ne q1]
    exact k1 q q2
  have ri : m' 15 i = 0 := by rw [r15 i (by omega), if_pos rfl]
  have ro : ∀ y, y < gn g → m' 15 y ≠ -1 → y = i := fun y hy h => by
    by_cases e : y = i
    · exact e
    · rw [r15 y (by omega), if_neg e] at h
      exact absurd rfl h
  have B : BF g i m' 1 := by
    refine ⟨r14, ?_, ?_, ri, ?_, ?_, ?_⟩
    · have h0 : cntF idn (fun _ => false) (gn g) 0 = 0 := cntF_none _ _ _ _ fun _ _ _ => rfl
      rw [cnt_add (P := fun _ => false) (P' := fun y => decide (m' 15 y ≠ -1)) hi rfl (by rw [ri]; rfl) (fun y hy h => by rw [r15 y (by omega), if_neg h]; rfl), h0]
    · intro y hy h
      rw [ro y hy h, ri, hs]
      exact ⟨rfl, by omega⟩
    · intro v w hv hw _ h e e0
      rw [ro v hv h, hs] at e
      omega
    · intro q hq
      rw [show q = 0 by omega]
      exact ⟨i, hi, r16, by rw [ri]; omega⟩
    · intro y hy h
      rw [ro y hy h]
      exact ⟨0, by omega, r16⟩
  obtain ⟨m2, c2, e3, B2, K2, r2⟩ := S_que V hi (gn g) 0 (99999 - 17) 1 m' (by omega) (by omega) (H.mv fun q h1 h2 => k2 q (by omega) (by omega) (by omega)) B (by omega) (fun q u y hq => by omega)
  refine ⟨m2, ?_, ?_, fun q q1 q2 q3 => (K2.2.2.2 q q1 q2 q3).trans (k2 q q1 q2 q3)⟩
  · unfold f_Search_startFrom
    have e4 : f_Search_startFromL 99999 0 m (i : Int) 0 0 0 = _ := e1
    rw [e4, e2, Option.bind_some]
    exact e3
  · intro j hj
    have up : ∀ (x : Nat), x < gn g → ∀ c, AB (gp g) c x → m2 15 x ≠ -1 → m2 15 c ≠ -1 := by
      intro x
      induction x using Nat.strongRecOn with
      | ind x ih =>
        intro hx c hc hr
        by_cases e : c = x
        · rw [e]; exact hr
        · obtain ⟨h1, h2⟩ := AB_ne V.f hx hc e
          have h3 := V.f.lt hx h1
          exact ih _ h3 (by omega) c h2 (r2 x _ hx (by omega) hr (Or.inl (by omega)))
    have down : ∀ (x : Nat), x < gn g → ∀ c, AB (gp g) c x → m2 15 c ≠ -1 → m2 15 x ≠ -1 := by
      intro x
      induction x using Nat.strongRecOn with
      | ind x ih =>
        intro hx c hc hr
        by_cases e : c = x
        · rw [← e]; exact hr
        · obtain ⟨h1, h2⟩ := AB_ne V.f hx hc e
          have h3 := V.f.lt hx h1
          exact r2 _ x (by omega) hx (ih _ h3 (by omega) c h2 hr) (Or.inr (by omega))
    rcases lc_spec V.f (b := j) i hi with ⟨e, -⟩ | ⟨c, e, a1, a2, -⟩
    · have ha : apt (gp g) i j = -1 := by unfold apt; rw [if_pos e]
      by_cases h : m2 15 j = -1
      · rw [h, ha]
      · have := (B2.2.2.1 j hj h).2
        omega
    · have hri : m2 15 i ≠ -1 := by rw [B2.2.2.2.1]; omega
      have h := down j hj c a2 (up i hi c a1 hri)
      exact (B2.2.2.1 j hj h).1
end Bfs

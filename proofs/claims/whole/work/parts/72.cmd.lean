/-! ===== the commands of a text ===== -/
abbrev txd (t : Nat → Int) (c o : Nat) : Prop := o < c ∧ 48 ≤ t o ∧ t o ≤ 57
abbrev txk (x : Int) : Prop := x = 100 ∨ x = 115 ∨ x = 104
def txn1 (t : Nat → Int) (c o : Nat) : Int := if txd t c o then t o - 48 else -1
def txo1 (t : Nat → Int) (c o : Nat) : Nat := if txd t c o then o + 1 else o
def txn2 (t : Nat → Int) (c o : Nat) : Int := if txd t c o then (if txd t c (o + 1) then 10 * (t o - 48) + (t (o + 1) - 48) else t o - 48) else -1
def txo2 (t : Nat → Int) (c o : Nat) : Nat := if txd t c o then (if txd t c (o + 1) then o + 2 else o + 1) else o
def cmA (t : Nat → Int) (c o : Nat) : Int := if t o = 121 then txn1 t c (o + 1) else txn2 t c (o + 1)
def cmB (t : Nat → Int) (c o : Nat) : Int := if t o = 97 then txn1 t c (txo2 t c (o + 1) + 1) else txn2 t c (txo2 t c (o + 1) + 1)
/-- the text, and the readers of both sides -/
def txV (t : Nat → Int) (c : Nat) : Prop := c ≤ 60 ∧ ∀ i, i < c → 32 ≤ t i ∧ t i ≤ 126
def txC (t : Nat → Int) (c o : Nat) (m : jMem) : Prop := m 139 1 = (c : Int) ∧ m 139 2 = (o : Int) ∧ ∀ i, i < c → m 140 i = t i
def txM (t : Nat → Int) (c o : Nat) (m : jMem) : Prop := m 147 13 = (c : Int) ∧ m 147 17 = (o : Int) ∧ ∀ i, i < c → m 152 i = t i
/-- what reading changes -/
def tx2 (m m' : jMem) : Prop := (∀ q, q ≠ 139 → m' q = m q) ∧ ∀ j, j ≠ 2 → m' 139 j = m 139 j
def txK (k : Nat) (m m' : jMem) : Prop := (∀ q, q ≠ 139 → (q < 141 ∨ 144 < q) → m' q = m q) ∧ (∀ j, j ≠ 2 → m' 139 j = m 139 j) ∧ ∀ q j, j ≠ k → 141 ≤ q → q ≤ 144 → m' q j = m q j
def txP (p : Nat) (m m' : jMem) : Prop := (∀ q, q ≠ 147 → q ≠ 154 → m' q = m q) ∧ (∀ j, j ≠ 17 → m' 147 j = m 147 j) ∧ ∀ j, j ≠ p → m' 154 j = m 154 j
def txF (k : Nat) (m m' : jMem) : Prop := (∀ q, q ≠ 147 → q ≠ 154 → m' q = m q) ∧ (∀ j, j ≠ 17 → m' 147 j = m 147 j) ∧ ∀ j, (j < 4 * k ∨ 4 * k + 3 < j) → m' 154 j = m 154 j
def cmC (t : Nat → Int) (c : Nat) (m : jMem) (i o : Nat) : Prop := m 141 i = t o ∧ (t o ≠ 102 → m 142 i = cmA t c o) ∧ (t o = 97 → m 143 i = t (txo2 t c (o + 1))) ∧ (t o = 97 ∨ t o = 103 → m 144 i = cmB t c o)
def cmM (t : Nat → Int) (c : Nat) (m : jMem) (i o : Nat) : Prop := m 154 (4 * i) = t o ∧ (t o ≠ 102 → m 154 (4 * i + 1) = cmA t c o) ∧ (t o = 97 → m 154 (4 * i + 2) = t (txo2 t c (o + 1)) ∧ m 154 (4 * i + 3) = cmB t c o) ∧ (t o = 103 → m 154 (4 * i + 2) = cmB t c o)
theorem alt0 {A : Option (Int × jMem)} {m0 : jMem} {B C : Int × jMem → Option (Int × jMem)} (h : A = some (0, m0)) : (A.bind fun q => if q.1 = 0 then B q else C q) = B (0, m0) := by
  rw [h, Option.bind_some]
  exact if_pos rfl
theorem alt1 {A : Option (Int × jMem)} {m0 : jMem} {B C : Int × jMem → Option (Int × jMem)} (h : A = some (1, m0)) : (A.bind fun q => if q.1 = 0 then B q else C q) = C (1, m0) := by
  rw [h, Option.bind_some]
  exact if_neg (show ¬ (1 : Int) = 0 by omega)
section Tx
variable {t : Nat → Int} {c o k p : Nat} {m m' m1 m2 : jMem}
theorem txn1_y (h : txd t c o) : txn1 t c o = t o - 48 := if_pos h
theorem txn1_n (h : ¬ txd t c o) : txn1 t c o = -1 := if_neg h
theorem txo1_y (h : txd t c o) : txo1 t c o = o + 1 := if_pos h
theorem txo1_n (h : ¬ txd t c o) : txo1 t c o = o := if_neg h
theorem txn2_n (h : ¬ txd t c o) : txn2 t c o = -1 := if_neg h
theorem txo2_n (h : ¬ txd t c o) : txo2 t c o = o := if_neg h
theorem txn1_p (h : txd t c o) : txn1 t c o ≠ -1 := by
  obtain ⟨h1, h2, h3⟩ := h
  rw [txn1_y ⟨h1, h2, h3⟩]
  omega
theorem txn2_p (h : txd t c o) : txn2 t c o ≠ -1 := by
  unfold txn2
  rw [if_pos h]
  obtain ⟨h1, h2, h3⟩ := h
  by_cases h4 : txd t c (o + 1)
  · rw [if_pos h4]
    obtain ⟨h5, h6, h7⟩ := h4
    omega
  · rw [if_neg h4]
    omega
theorem txo2_b (h : txd t c o) : o < txo2 t c o ∧ txo2 t c o ≤ c ∧ txo2 t c o ≤ o + 2 := by
  unfold txo2
  rw [if_pos h]
  obtain ⟨h1, h2, h3⟩ := h
  by_cases h4 : txd t c (o + 1)
  · rw [if_pos h4]
    obtain ⟨h5, h6, h7⟩ := h4
    omega
  · rw [if_neg h4]
    omega
theorem txK.refl : txK k m m := ⟨fun _ _ _ => rfl, fun _ _ => rfl, fun _ _ _ _ _ => rfl⟩
theorem txK.trans (h : txK k m m1) (h' : txK k m1 m2) : txK k m m2 := ⟨fun q a b => (h'.1 q a b).trans (h.1 q a b), fun j a => (h'.2.1 j a).trans (h.2.1 j a), fun q j a b d => (h'.2.2 q j a b d).trans (h.2.2 q j a b d)⟩
theorem tx2.K (h : tx2 m m') : txK k m m' := ⟨fun q a _ => h.1 q a, h.2, fun q j _ b d => by rw [h.1 q (by omega)]⟩
theorem txK.set {q : Nat} (h1 : 141 ≤ q) (h2 : q ≤ 144) (x : Int) : txK k m (mset m q k x) := by
  refine ⟨fun q' a b => mset_ne (by omega), fun j a => ms_o (by omega), fun q' j a b d => ?_⟩
  by_cases e : q' = q
  · rw [e]
    exact ms_g a
  · exact ms_o e
theorem tx2.at' (x : Int) : tx2 m (mset m 139 2 x) := ⟨fun q a => mset_ne a, fun j a => ms_g a⟩
theorem txP.F (h : txP p m m') (h1 : 4 * k ≤ p) (h2 : p ≤ 4 * k + 3) : txF k m m' := ⟨h.1, h.2.1, fun j a => h.2.2 j (by omega)⟩
theorem txF.refl : txF k m m := ⟨fun _ _ _ => rfl, fun _ _ => rfl, fun _ _ => rfl⟩
theorem txF.trans (h : txF k m m1) (h' : txF k m1 m2) : txF k m m2 := ⟨fun q a b => (h'.1 q a b).trans (h.1 q a b), fun j a => (h'.2.1 j a).trans (h.2.1 j a), fun j a => (h'.2.2 j a).trans (h.2.2 j a)⟩
theorem txP.refl : txP p m m := ⟨fun _ _ _ => rfl, fun _ _ => rfl, fun _ _ => rfl⟩
theorem txP.at' (x : Int) : txP p m (mset m 147 17 x) := ⟨fun q a _ => mset_ne a, fun j a => ms_g a, fun j _ => ms_o (by omega)⟩
theorem txP.set (x : Int) : txP p m (mset m 154 p x) := ⟨fun q _ a => mset_ne a, fun j _ => ms_o (by omega), fun j a => ms_g a⟩
theorem txP.trans (h : txP p m m1) (h' : txP p m1 m2) : txP p m m2 := ⟨fun q a b => (h'.1 q a b).trans (h.1 q a b), fun j a => (h'.2.1 j a).trans (h.2.1 j a), fun j a => (h'.2.2 j a).trans (h.2.2 j a)⟩
theorem txC.mv {o' : Nat} (h : txC t c o m) (h0 : m' 140 = m 140) (h1 : m' 139 1 = m 139 1) (h2 : m' 139 2 = (o' : Int)) : txC t c o' m' := ⟨h1.trans h.1, h2, fun i hi => by rw [h0]; exact h.2.2 i hi⟩
theorem txM.mv {o' : Nat} (h : txM t c o m) (h0 : m' 152 = m 152) (h1 : m' 147 13 = m 147 13) (h2 : m' 147 17 = (o' : Int)) : txM t c o' m' := ⟨h1.trans h.1, h2, fun i hi => by rw [h0]; exact h.2.2 i hi⟩
theorem txC.nx (h : txC t c o m) : txC t c (o + 1) (mset m 139 2 ((o + 1 : Nat) : Int)) := h.mv (mset_ne (by omega)) (ms_g (by omega)) ms_f
theorem txC.st (h : txC t c o m) {q j : Nat} (x : Int) (h1 : 141 ≤ q) : txC t c o (mset m q j x) := h.mv (mset_ne (by omega)) (ms_o (by omega)) ((ms_o (by omega)).trans h.2.1)
theorem txM.nx (h : txM t c o m) : txM t c (o + 1) (mset m 147 17 ((o + 1 : Nat) : Int)) := h.mv (mset_ne (by omega)) (ms_g (by omega)) ms_f
theorem txM.st (h : txM t c o m) {j : Nat} (x : Int) : txM t c o (mset m 154 j x) := h.mv (mset_ne (by omega)) (ms_o (by omega)) ((ms_o (by omega)).trans h.2.1)
/-! the class reads -/
theorem txC.cur (X : txV t c) (h : txC t c o m) : f_Script_current m = some (if o < c then t o else 0) := by
  have hc := X.1
  unfold f_Script_current
  rw [h.1, h.2.1, if_neg (by omega)]
  by_cases e : o < c
  · have h9 := X.2 o e
    rw [if_pos (by omega), if_pos e, oix_n (by omega), Int.toNat_natCast, h.2.2 o e, och_i ⟨by omega, by omega⟩]
  · rw [if_neg (by omega), if_neg e]
theorem rnl (N : Nat) (m : jMem) (a1 a2 a3 : Int) : f_Script_readNumberL (N + 1) m a1 a2 a3 = if a3 < a1 then (f_Script_current m).bind fun x1 => if x1 < 48 then some (a2, m) else if 57 < x1 then some (a2, m) else f_Script_readNumberL N (mset m 139 2 (jw ((m 139 2) + 1))) a1 (jw ((jw ((if a2 < 0 then 0 else a2) * 10)) + (jw (x1 - 48)))) (jw (a3 + 1)) else some (a2, m) := rfl
theorem rn_go {N : Nat} {a1 a2 a3 : Int} (X : txV t c) (h : txC t c o m) (hd : txd t c o) (h3 : a3 < a1) : f_Script_readNumberL (N + 1) m a1 a2 a3 = f_Script_readNumberL N (mset m 139 2 ((o + 1 : Nat) : Int)) a1 (jw ((jw ((if a2 < 0 then 0 else a2) * 10)) + (jw (t o - 48)))) (jw (a3 + 1)) := by
  have hc := X.1
  obtain ⟨d1, d2, d3⟩ := hd
  rw [rnl, if_pos h3, h.cur X, Option.bind_some, if_pos d1, if_neg (by omega), if_neg (by omega), h.2.1, jw_s (by omega)]
theorem rn_stop {N : Nat} {a1 a2 a3 : Int} (X : txV t c) (h : txC t c o m) (hd : ¬ txd t c o) : f_Script_readNumberL (N + 1) m a1 a2 a3 = some (a2, m) := by
  rw [rnl]
  by_cases h3 : a3 < a1
  · rw [if_pos h3, h.cur X, Option.bind_some]
    by_cases ho : o < c
    · rw [if_pos ho]
      by_cases h48 : t o < 48
      · rw [if_pos h48]
      · rw [if_neg h48]
        by_cases h57 : 57 < t o
        · rw [if_pos h57]
        · exact absurd ⟨ho, by omega, by omega⟩ hd
    · rw [if_neg ho, if_pos (by omega)]
  · rw [if_neg h3]
theorem rn_end {N : Nat} {a1 a2 a3 : Int} (h3 : ¬ a3 < a1) : f_Script_readNumberL (N + 1) m a1 a2 a3 = some (a2, m) := by
  rw [rnl, if_neg h3]
theorem rn_v1 (X : txV t c) (hd : txd t c o) : jw ((jw ((if (-1 : Int) < 0 then 0 else -1) * 10)) + (jw (t o - 48))) = t o - 48 := by
  obtain ⟨d1, d2, d3⟩ := hd
  rw [if_pos (by omega), jw_id (z := t o - 48) ⟨by omega, by omega⟩, show jw (0 * 10) = 0 by decide, Int.zero_add, jw_id ⟨by omega, by omega⟩]
theorem txC.rn1 (X : txV t c) (h : txC t c o m) : ∃ m', f_Script_readNumber m 1 = some (txn1 t c o, m') ∧ txC t c (txo1 t c o) m' ∧ tx2 m m' := by
  unfold f_Script_readNumber
  by_cases hd : txd t c o
  · rw [txn1_y hd, txo1_y hd]
    refine ⟨_, ?_, h.nx, tx2.at' _⟩
    refine Eq.trans (rn_go (N := 99998) X h hd (show (0 : Int) < 1 by omega)) ?_
    refine Eq.trans (rn_end (N := 99997) (by rw [show jw (0 + 1) = 1 by decide]; omega)) ?_
    rw [rn_v1 X hd]
  · rw [txn1_n hd, txo1_n hd]
    exact ⟨m, rn_stop (N := 99998) X h hd, h, ⟨fun _ _ => rfl, fun _ _ => rfl⟩⟩
theorem txC.rn2 (X : txV t c) (h : txC t c o m) : ∃ m', f_Script_readNumber m 2 = some (txn2 t c o, m') ∧ txC t c (txo2 t c o) m' ∧ tx2 m m' := by
  unfold f_Script_readNumber
  by_cases hd : txd t c o
  · unfold txn2 txo2
    rw [if_pos hd, if_pos hd]
    by_cases hd2 : txd t c (o + 1)
    · rw [if_pos hd2, if_pos hd2]
      refine ⟨_, ?_, h.nx.nx, ⟨fun q a => (mset_ne a).trans (mset_ne a), fun j a => (ms_g a).trans (ms_g a)⟩⟩
      refine Eq.trans (rn_go (N := 99998) X h hd (show (0 : Int) < 2 by omega)) ?_
      refine Eq.trans (rn_go (N := 99997) X h.nx hd2 (by rw [show jw (0 + 1) = 1 by decide]; omega)) ?_
      refine Eq.trans (rn_end (N := 99996) (by rw [show jw (jw (0 + 1) + 1) = 2 by decide]; omega)) ?_
      rw [rn_v1 X hd]
      obtain ⟨d1, d2, d3⟩ := hd
      obtain ⟨d4, d5, d6⟩ := hd2
      rw [if_neg (show ¬ t o - 48 < 0 by omega), jw_id (z := t (o + 1) - 48) ⟨by omega, by omega⟩, jw_id (z := (t o - 48) * 10) ⟨by omega, by omega⟩, jw_id ⟨by omega, by omega⟩, Int.mul_comm (t o - 48) 10]
    · rw [if_neg hd2, if_neg hd2]
      refine ⟨_, ?_, h.nx, tx2.at' _⟩
      refine Eq.trans (rn_go (N := 99998) X h hd (show (0 : Int) < 2 by omega)) ?_
      refine Eq.trans (rn_stop (N := 99997) X h.nx hd2) ?_
      rw [rn_v1 X hd]
  · rw [txn2_n hd, txo2_n hd]
    exact ⟨m, rn_stop (N := 99998) X h hd, h, ⟨fun _ _ => rfl, fun _ _ => rfl⟩⟩
theorem txC.sk_y {x : Int} (X : txV t c) (h : txC t c o m) (ho : o < c) (e : t o = x) : f_Script_skip m x = some (1, mset m 139 2 ((o + 1 : Nat) : Int)) := by
  have hc := X.1
  unfold f_Script_skip
  rw [h.cur X, Option.bind_some, if_pos ho, if_pos e, h.2.1, jw_s (by omega)]
theorem txC.sk_n {x : Int} (X : txV t c) (h : txC t c o m) (hx : 0 < x) (e : ¬ (o < c ∧ t o = x)) : f_Script_skip m x = some (0, m) := by
  unfold f_Script_skip
  rw [h.cur X, Option.bind_some]
  by_cases ho : o < c
  · rw [if_pos ho, if_neg (fun q => e ⟨ho, q⟩)]
  · rw [if_neg ho, if_neg (by omega)]
theorem isKy (m : jMem) {x : Int} (h : txk x) : f_Reg_isKind m x = some 1 := by
  unfold f_Reg_isKind
  rcases h with rfl | rfl | rfl
  · rw [if_pos rfl]
  · rw [if_neg (by omega), if_pos rfl]
  · rw [if_neg (by omega), if_neg (by omega), if_pos rfl]
theorem isKn (m : jMem) {x : Int} (h : ¬ txk x) : f_Reg_isKind m x = some 0 := by
  unfold f_Reg_isKind
  rw [if_neg (fun q => h (Or.inl q)), if_neg (fun q => h (Or.inr (Or.inl q))), if_neg (fun q => h (Or.inr (Or.inr q)))]
theorem txC.kd_y (X : txV t c) (h : txC t c o m) (ho : o < c) (e : txk (t o)) : f_Script_skipKind m = some (1, mset m 139 2 ((o + 1 : Nat) : Int)) := by
  unfold f_Script_skipKind
  rw [h.cur X, Option.bind_some, if_pos ho, isKy m e, Option.bind_some, if_neg (by omega), Option.bind_some]
  exact alt1 (h.sk_y X ho rfl)
theorem txC.kd_n (X : txV t c) (h : txC t c o m) (e : ¬ (o < c ∧ txk (t o))) : f_Script_skipKind m = some (0, m) := by
  unfold f_Script_skipKind
  have h0 : f_Reg_isKind m (if o < c then t o else 0) = some 0 := by
    by_cases ho : o < c
    · rw [if_pos ho]
      exact isKn m (fun q => e ⟨ho, q⟩)
    · rw [if_neg ho]
      exact isKn m (fun q => by rcases q with q | q | q <;> omega)
  rw [h.cur X, Option.bind_some, h0, Option.bind_some, if_pos rfl]
theorem txC.sec1 (X : txV t c) (h : txC t c o m) (hk : k < 60) : ∃ m', f_Script_readSecond m (k : Int) 1 = some (if txd t c o then 1 else 0, m') ∧ txC t c (txo1 t c o) m' ∧ txK k m m' ∧ m' 144 k = txn1 t c o ∧ ∀ q, q ≠ 139 → q ≠ 144 → m' q = m q := by
  obtain ⟨m1, e1, w1, f1⟩ := h.rn1 X
  refine ⟨mset m1 144 k (txn1 t c o), ?_, w1.st _ (by omega), (tx2.K f1).trans (txK.set (by omega) (by omega) _), ms_f, fun q a b => by rw [mset_ne b, f1.1 q a]⟩
  unfold f_Script_readSecond
  rw [e1, Option.bind_some]
  dsimp only
  rw [if_neg (by omega), if_pos (by omega), oix_n hk, Int.toNat_natCast]
  by_cases hd : txd t c o
  · rw [if_neg (txn1_p hd), if_pos hd]
  · rw [if_pos (txn1_n hd), if_neg hd]
theorem txC.sec2 (X : txV t c) (h : txC t c o m) (hk : k < 60) : ∃ m', f_Script_readSecond m (k : Int) 2 = some (if txd t c o then 1 else 0, m') ∧ txC t c (txo2 t c o) m' ∧ txK k m m' ∧ m' 144 k = txn2 t c o ∧ ∀ q, q ≠ 139 → q ≠ 144 → m' q = m q := by
  obtain ⟨m1, e1, w1, f1⟩ := h.rn2 X
  refine ⟨mset m1 144 k (txn2 t c o), ?_, w1.st _ (by omega), (tx2.K f1).trans (txK.set (by omega) (by omega) _), ms_f, fun q a b => by rw [mset_ne b, f1.1 q a]⟩
  unfold f_Script_readSecond
  rw [e1, Option.bind_some]
  dsimp only
  rw [if_neg (by omega), if_pos (by omega), oix_n hk, Int.toNat_natCast]
  by_cases hd : txd t c o
  · rw [if_neg (txn2_p hd), if_pos hd]
  · rw [if_pos (txn2_n hd), if_neg hd]
/-! the model reads -/
theorem txM.here (X : txV t c) (h : txM t c o m) : f_Mod_here m = some (if o < c then t o else -1) := by
  have hc := X.1
  unfold f_Mod_here
  rw [h.1, h.2.1]
  by_cases e : o < c
  · rw [if_pos (by omega), if_pos e, oix_n (by omega), Int.toNat_natCast, h.2.2 o e]
  · rw [if_neg (by omega), if_neg e]
theorem txin_y (m : jMem) {x : Int} (h1 : 48 ≤ x) (h2 : x ≤ 57) : f_Mod_in m x 48 57 = some 1 := by
  unfold f_Mod_in
  rw [if_neg (by omega), if_neg (by omega)]
theorem txin_n (m : jMem) {x : Int} (h : ¬ (48 ≤ x ∧ x ≤ 57)) : f_Mod_in m x 48 57 = some 0 := by
  unfold f_Mod_in
  by_cases h1 : x < 48
  · rw [if_pos h1]
  · rw [if_neg h1, if_pos (by omega)]
theorem txM.dig (X : txV t c) (h : txM t c o m) (hd : ¬ txd t c o) : f_Mod_in m (if o < c then t o else -1) 48 57 = some 0 := by
  by_cases ho : o < c
  · rw [if_pos ho]
    exact txin_n m (fun q => hd ⟨ho, q.1, q.2⟩)
  · rw [if_neg ho]
    exact txin_n m (by omega)
theorem fgl (N : Nat) (m : jMem) (a1 a2 a3 : Int) : f_Mod_figuresL (N + 1) m a1 a2 a3 = if a3 < a2 then (f_Mod_here m).bind fun x3 => (f_Mod_in m x3 48 57).bind fun x4 => if x4 = 0 then some (1, m) else oix a1 124 ((f_Mod_here m).bind fun x5 => oix a1 124 (f_Mod_figuresL N (mset (mset m 154 a1.toNat (jw ((jw ((jw (10 * (m 154 a1.toNat))) + x5)) - 48))) 147 17 (jw (((mset m 154 a1.toNat (jw ((jw ((jw (10 * (m 154 a1.toNat))) + x5)) - 48))) 147 17) + 1))) a1 a2 (jw (a3 + 1)))) else some (1, m) := rfl
theorem fg_go {N : Nat} {a2 a3 v : Int} (X : txV t c) (h : txM t c o m) (hd : txd t c o) (h3 : a3 < a2) (hp : p < 124) (hv : m 154 p = v) (v1 : 0 ≤ v) (v2 : v ≤ 99) : f_Mod_figuresL (N + 1) m (p : Int) a2 a3 = f_Mod_figuresL N (mset (mset m 154 p (10 * v + (t o - 48))) 147 17 ((o + 1 : Nat) : Int)) (p : Int) a2 (jw (a3 + 1)) := by
  have hc := X.1
  obtain ⟨d1, d2, d3⟩ := hd
  have e1 : jw (jw (jw (10 * v) + t o) - 48) = 10 * v + (t o - 48) := by
    rw [jw_id (z := 10 * v) ⟨by omega, by omega⟩, jw_id (z := 10 * v + t o) ⟨by omega, by omega⟩, jw_id ⟨by omega, by omega⟩]
    omega
  rw [fgl, if_pos h3, h.here X, Option.bind_some, if_pos d1, txin_y m d2 d3, Option.bind_some, if_neg (by omega), oix_n hp, Option.bind_some, oix_n hp, Int.toNat_natCast, hv, e1, ms_o (by omega), h.2.1, jw_s (by omega)]
theorem fg_stop {N : Nat} {a1 a2 a3 : Int} (X : txV t c) (h : txM t c o m) (hd : ¬ txd t c o) : f_Mod_figuresL (N + 1) m a1 a2 a3 = some (1, m) := by
  rw [fgl]
  by_cases h3 : a3 < a2
  · rw [if_pos h3, h.here X, Option.bind_some, h.dig X hd, Option.bind_some, if_pos rfl]
  · rw [if_neg h3]
theorem fg_end {N : Nat} {a1 a2 a3 : Int} (h3 : ¬ a3 < a2) : f_Mod_figuresL (N + 1) m a1 a2 a3 = some (1, m) := by
  rw [fgl, if_neg h3]
theorem txM.fg_n {a1 a2 : Int} (X : txV t c) (h : txM t c o m) (hd : ¬ txd t c o) : f_Mod_figures m a1 a2 = some (0, m) := by
  unfold f_Mod_figures
  rw [h.here X, Option.bind_some, h.dig X hd, Option.bind_some, if_pos rfl]
theorem txM.fg_h {a2 : Int} (X : txV t c) (h : txM t c o m) (hd : txd t c o) (hp : p < 124) : f_Mod_figures m (p : Int) a2 = f_Mod_figuresL 99999 (mset m 154 p 0) (p : Int) a2 0 := by
  obtain ⟨d1, d2, d3⟩ := hd
  unfold f_Mod_figures
  rw [h.here X, Option.bind_some, if_pos d1, txin_y m d2 d3, Option.bind_some, if_neg (by omega), oix_n hp, Int.toNat_natCast]
theorem txM.fg1 (X : txV t c) (h : txM t c o m) (hd : txd t c o) (hp : p < 124) : ∃ m', f_Mod_figures m (p : Int) 1 = some (1, m') ∧ txM t c (txo1 t c o) m' ∧ txP p m m' ∧ m' 154 p = txn1 t c o := by
  rw [txn1_y hd, txo1_y hd]
  refine ⟨_, ?_, ((h.st (j := p) 0).st (j := p) (10 * 0 + (t o - 48))).nx, ((txP.set 0).trans (txP.set _)).trans (txP.at' _), ?_⟩
  · rw [h.fg_h X hd hp]
    refine Eq.trans (fg_go (N := 99998) X (h.st 0) hd (show (0 : Int) < 1 by omega) hp ms_f (by omega) (by omega)) ?_
    exact fg_end (N := 99997) (by rw [show jw (0 + 1) = 1 by decide]; omega)
  · rw [ms_o (by omega), ms_f]
    omega
theorem txM.fg2 (X : txV t c) (h : txM t c o m) (hd : txd t c o) (hp : p < 124) : ∃ m', f_Mod_figures m (p : Int) 2 = some (1, m') ∧ txM t c (txo2 t c o) m' ∧ txP p m m' ∧ m' 154 p = txn2 t c o := by
  have hd' := hd
  obtain ⟨d1, d2, d3⟩ := hd'
  unfold txn2 txo2
  rw [if_pos hd, if_pos hd]
  have h1 := ((h.st (j := p) 0).st (j := p) (10 * 0 + (t o - 48))).nx
  have v1 : (mset (mset (mset m 154 p 0) 154 p (10 * 0 + (t o - 48))) 147 17 ((o + 1 : Nat) : Int)) 154 p = t o - 48 := by
    rw [ms_o (by omega), ms_f]
    omega
  by_cases hd2 : txd t c (o + 1)
  · rw [if_pos hd2, if_pos hd2]
    refine ⟨_, ?_, (h1.st (j := p) (10 * (t o - 48) + (t (o + 1) - 48))).nx, ((((txP.set 0).trans (txP.set _)).trans (txP.at' _)).trans (txP.set _)).trans (txP.at' _), ?_⟩
    · rw [h.fg_h X hd hp]
      refine Eq.trans (fg_go (N := 99998) X (h.st 0) hd (show (0 : Int) < 2 by omega) hp ms_f (by omega) (by omega)) ?_
      refine Eq.trans (fg_go (N := 99997) X h1 hd2 (by rw [show jw (0 + 1) = 1 by decide]; omega) hp v1 (by omega) (by omega)) ?_
      exact fg_end (N := 99996) (by rw [show jw (jw (0 + 1) + 1) = 2 by decide]; omega)
    · rw [ms_o (by omega), ms_f]
  · rw [if_neg hd2, if_neg hd2]
    refine ⟨_, ?_, h1, ((txP.set 0).trans (txP.set _)).trans (txP.at' _), v1⟩
    rw [h.fg_h X hd hp]
    refine Eq.trans (fg_go (N := 99998) X (h.st 0) hd (show (0 : Int) < 2 by omega) hp ms_f (by omega) (by omega)) ?_
    exact fg_stop (N := 99997) X h1 hd2
theorem txM.sk_y {x : Int} (X : txV t c) (h : txM t c o m) (ho : o < c) (e : t o = x) : f_Mod_skips m x = some (1, mset m 147 17 ((o + 1 : Nat) : Int)) := by
  have hc := X.1
  unfold f_Mod_skips
  rw [h.here X, Option.bind_some, if_pos ho, if_pos e, h.2.1, jw_s (by omega)]
theorem txM.sk_n {x : Int} (X : txV t c) (h : txM t c o m) (hx : 0 < x) (e : ¬ (o < c ∧ t o = x)) : f_Mod_skips m x = some (0, m) := by
  unfold f_Mod_skips
  rw [h.here X, Option.bind_some]
  by_cases ho : o < c
  · rw [if_pos ho, if_neg (fun q => e ⟨ho, q⟩)]
  · rw [if_neg ho, if_neg (by omega)]
theorem txM.kd_y (X : txV t c) (h : txM t c o m) (ho : o < c) (e : txk (t o)) (hp : p < 124) : ∃ m', f_Mod_kindHere m (p : Int) = some (1, m') ∧ txM t c (o + 1) m' ∧ txP p m m' ∧ m' 154 p = t o := by
  have h0 := h.st (j := p) (t o)
  refine ⟨_, ?_, h0.nx, (txP.set _).trans (txP.at' _), (ms_o (by omega)).trans ms_f⟩
  unfold f_Mod_kindHere
  rw [h.here X, Option.bind_some, oix_n hp, Int.toNat_natCast, if_pos ho]
  rcases e with e | e | e
  · refine (alt1 (h0.sk_y X ho e)).trans ?_
    rfl
  · refine (alt0 (h0.sk_n X (by omega) (by omega))).trans ?_
    refine (alt1 (h0.sk_y X ho e)).trans ?_
    rfl
  · refine (alt0 (h0.sk_n X (by omega) (by omega))).trans ?_
    refine (alt0 (h0.sk_n X (by omega) (by omega))).trans ?_
    refine (alt1 (h0.sk_y X ho e)).trans ?_
    rfl
theorem txM.kd_n (X : txV t c) (h : txM t c o m) (e : ¬ (o < c ∧ txk (t o))) (hp : p < 124) : ∃ m', f_Mod_kindHere m (p : Int) = some (0, m') ∧ txM t c o m' ∧ txP p m m' := by
  have h0 := h.st (j := p) (if o < c then t o else -1)
  refine ⟨_, ?_, h0, txP.set _⟩
  unfold f_Mod_kindHere
  rw [h.here X, Option.bind_some, oix_n hp, Int.toNat_natCast]
  refine (alt0 (h0.sk_n X (by omega) (fun q => e ⟨q.1, Or.inl q.2⟩))).trans ?_
  refine (alt0 (h0.sk_n X (by omega) (fun q => e ⟨q.1, Or.inr (Or.inl q.2)⟩))).trans ?_
  refine (alt0 (h0.sk_n X (by omega) (fun q => e ⟨q.1, Or.inr (Or.inr q.2)⟩))).trans ?_
  rfl
/-! a command -/
def rcB (k : Nat) (x : Int) (m0 : jMem) : Option (Int × jMem) := if x = 97 then (f_Script_readNumber m0 2).bind fun qx7 => (f_Script_current (mset qx7.2 142 k qx7.1)).bind fun x8 => och x8 (if qx7.1 = (-1) then some (0, mset (mset qx7.2 142 k qx7.1) 143 k x8) else (f_Script_skipKind (mset (mset qx7.2 142 k qx7.1) 143 k x8)).bind fun qx9 => if qx9.1 = 0 then some (0, qx9.2) else (f_Script_readSecond qx9.2 (k : Int) 1).bind fun qx10 => if qx10.1 = 0 then some (0, qx10.2) else some (1, qx10.2)) else if x = 102 then some (1, m0) else if x = 103 then (f_Script_readNumber m0 2).bind fun qx4 => if qx4.1 = (-1) then some (0, mset qx4.2 142 k qx4.1) else (f_Script_skip (mset qx4.2 142 k qx4.1) 62).bind fun qx5 => if qx5.1 = 0 then some (0, qx5.2) else (f_Script_readSecond qx5.2 (k : Int) 2).bind fun qx6 => if qx6.1 = 0 then some (0, qx6.2) else some (1, qx6.2) else if x = 121 then (f_Script_readNumber m0 1).bind fun qx3 => if qx3.1 = (-1) then some (0, mset qx3.2 142 k qx3.1) else some (1, mset qx3.2 142 k qx3.1) else (f_Script_readNumber m0 2).bind fun qx2 => if qx2.1 = (-1) then some (0, mset qx2.2 142 k qx2.1) else some (1, mset qx2.2 142 k qx2.1)
theorem rc_hd (X : txV t c) (h : txC t c o m) (hk : k < 60) (ho : o < c) (hj : ¬ jidx (t o) < 0) : f_Script_readCommand m (k : Int) = rcB k (t o) (mset (mset m 139 2 ((o + 1 : Nat) : Int)) 141 k (t o)) := by
  have hc := X.1
  have e143 : ∀ (M : jMem) (x : Int), (mset M 143 k x) 142 k = M 142 k := fun M x => ms_o (by omega)
  unfold f_Script_readCommand rcB
  rw [if_neg (by omega), if_pos (by omega), h.cur X, Option.bind_some, if_pos ho, if_neg hj]
  simp only [oix_n hk, Int.toNat_natCast, h.2.1, jw_s (show o < 1000000 by omega), ms_f, e143]
def mcB (k : Nat) (m0 : jMem) : Option (Int × jMem) := (f_Mod_skips m0 102).bind fun qx2 => if qx2.1 = 0 then (f_Mod_skips qx2.2 97).bind fun qx3 => if qx3.1 = 0 then (f_Mod_skips qx3.2 103).bind fun qx4 => if qx4.1 = 0 then (f_Mod_skips qx4.2 121).bind fun qx5 => if qx5.1 = 0 then (f_Mod_skips qx5.2 99).bind fun qx6 => if qx6.1 = 0 then (f_Mod_skips qx6.2 98).bind fun qx8 => if qx8.1 = 0 then (f_Mod_skips qx8.2 112).bind fun qx10 => if qx10.1 = 0 then (f_Mod_skips qx10.2 110).bind fun qx12 => if qx12.1 = 0 then (f_Mod_skips qx12.2 101).bind fun qx14 => if qx14.1 = 0 then (f_Mod_skips qx14.2 107).bind fun qx16 => if qx16.1 = 0 then some (0, qx16.2) else (f_Mod_figures qx16.2 ((4 * k + 1 : Nat) : Int) 2).bind fun qx17 => if qx17.1 = 0 then some (0, qx17.2) else some (1, qx17.2) else (f_Mod_figures qx14.2 ((4 * k + 1 : Nat) : Int) 2).bind fun qx15 => if qx15.1 = 0 then some (0, qx15.2) else some (1, qx15.2) else (f_Mod_figures qx12.2 ((4 * k + 1 : Nat) : Int) 2).bind fun qx13 => if qx13.1 = 0 then some (0, qx13.2) else some (1, qx13.2) else (f_Mod_figures qx10.2 ((4 * k + 1 : Nat) : Int) 2).bind fun qx11 => if qx11.1 = 0 then some (0, qx11.2) else some (1, qx11.2) else (f_Mod_figures qx8.2 ((4 * k + 1 : Nat) : Int) 2).bind fun qx9 => if qx9.1 = 0 then some (0, qx9.2) else some (1, qx9.2) else (f_Mod_figures qx6.2 ((4 * k + 1 : Nat) : Int) 2).bind fun qx7 => if qx7.1 = 0 then some (0, qx7.2) else some (1, qx7.2) else (f_Mod_figures qx5.2 ((4 * k + 1 : Nat) : Int) 1).bind fun qx18 => obt qx18.1 (some (qx18.1, qx18.2)) else (f_Mod_figures qx4.2 ((4 * k + 1 : Nat) : Int) 2).bind fun qx19 => if qx19.1 = 0 then some (0, qx19.2) else (f_Mod_skips qx19.2 62).bind fun qx20 => if qx20.1 = 0 then some (0, qx20.2) else (f_Mod_figures qx20.2 ((4 * k + 2 : Nat) : Int) 2).bind fun qx21 => if qx21.1 = 0 then some (0, qx21.2) else some (1, qx21.2) else (f_Mod_figures qx3.2 ((4 * k + 1 : Nat) : Int) 2).bind fun qx22 => if qx22.1 = 0 then some (0, qx22.2) else (f_Mod_kindHere qx22.2 ((4 * k + 2 : Nat) : Int)).bind fun qx23 => if qx23.1 = 0 then some (0, qx23.2) else (f_Mod_figures qx23.2 ((4 * k + 3 : Nat) : Int) 1).bind fun qx24 => if qx24.1 = 0 then some (0, qx24.2) else some (1, qx24.2) else some (1, qx2.2)
theorem mc_hd (X : txV t c) (h : txM t c o m) (h19 : m 147 19 = (k : Int)) (hk : k ≤ 30) : f_Mod_commandHere m = mcB k (mset m 154 (4 * k) (if o < c then t o else -1)) := by
  have e4 : jw (4 * (k : Int)) = ((4 * k : Nat) : Int) := jw_e (by omega) (by omega) (by omega)
  have e41 : jw (((4 * k : Nat) : Int) + 1) = ((4 * k + 1 : Nat) : Int) := jw_s (by omega)
  have e42 : jw (((4 * k : Nat) : Int) + 2) = ((4 * k + 2 : Nat) : Int) := jw_e (by omega) (by omega) (by omega)
  have e43 : jw (((4 * k : Nat) : Int) + 3) = ((4 * k + 3 : Nat) : Int) := jw_e (by omega) (by omega) (by omega)
  unfold f_Mod_commandHere mcB
  rw [h.here X, Option.bind_some, h19]
  simp only [e4, e41, e42, e43, oix_n (show 4 * k < 124 by omega), Int.toNat_natCast]
def txOK (t : Nat → Int) (c o k : Nat) (b : Bool) (o' : Nat) : Prop :=
  (∀ m, txC t c o m → ∃ m', f_Script_readCommand m (k : Int) = some (if b = true then 1 else 0, m') ∧ txC t c o' m' ∧ txK k m m' ∧ (b = true → cmC t c m' k o)) ∧
  (∀ m, txM t c o m → m 147 19 = (k : Int) → ∃ m', f_Mod_commandHere m = some (if b = true then 1 else 0, m') ∧ txM t c o' m' ∧ txF k m m' ∧ (b = true → cmM t c m' k o))
theorem bif_t {α : Type} {x y : α} : (if true = true then x else y) = x := if_pos rfl
theorem bif_f {α : Type} {x y : α} : (if false = true then x else y) = y := if_neg (by decide)
theorem K0 (m : jMem) (k o : Nat) (x : Int) : txK k m (mset (mset m 139 2 ((o + 1 : Nat) : Int)) 141 k x) := (tx2.K (tx2.at' _)).trans (txK.set (by omega) (by omega) _)
theorem F0' (m : jMem) (k o : Nat) (x : Int) : txF k m (mset (mset m 154 (4 * k) x) 147 17 ((o + 1 : Nat) : Int)) := ((txP.set x).trans (txP.at' _)).F (by omega) (by omega)

theorem tc_no (X : txV t c) (hk : k ≤ 30) (e : o < c → jidx (t o) < 0) : txOK t c o k false o := by
  have el : ∀ x : Int, x = 102 ∨ x = 97 ∨ x = 103 ∨ x = 121 ∨ x = 99 ∨ x = 98 ∨ x = 112 ∨ x = 110 ∨ x = 101 ∨ x = 107 → ¬ (o < c ∧ t o = x) := fun x hx q => by
    have h1 := e q.1
    rw [q.2] at h1
    rcases hx with rfl | rfl | rfl | rfl | rfl | rfl | rfl | rfl | rfl | rfl <;> exact absurd h1 (by decide)
  refine ⟨fun m h => ⟨m, ?_, h, txK.refl, fun q => by cases q⟩, fun m h h19 => ?_⟩
  · rw [bif_f]
    unfold f_Script_readCommand
    rw [if_neg (by omega), if_pos (by omega), h.cur X, Option.bind_some]
    by_cases ho : o < c
    · rw [if_pos ho, if_pos (e ho)]
    · rw [if_neg ho, if_pos (by decide)]
  · have h0 := h.st (j := 4 * k) (if o < c then t o else -1)
    refine ⟨_, ?_, h0, (txP.set _).F (by omega) (by omega), fun q => by cases q⟩
    rw [bif_f, mc_hd X h h19 hk]
    unfold mcB
    refine (alt0 (h0.sk_n X (by omega) (el 102 (by omega)))).trans ?_
    refine (alt0 (h0.sk_n X (by omega) (el 97 (by omega)))).trans ?_
    refine (alt0 (h0.sk_n X (by omega) (el 103 (by omega)))).trans ?_
    refine (alt0 (h0.sk_n X (by omega) (el 121 (by omega)))).trans ?_
    refine (alt0 (h0.sk_n X (by omega) (el 99 (by omega)))).trans ?_
    refine (alt0 (h0.sk_n X (by omega) (el 98 (by omega)))).trans ?_
    refine (alt0 (h0.sk_n X (by omega) (el 112 (by omega)))).trans ?_
    refine (alt0 (h0.sk_n X (by omega) (el 110 (by omega)))).trans ?_
    refine (alt0 (h0.sk_n X (by omega) (el 101 (by omega)))).trans ?_
    refine (alt0 (h0.sk_n X (by omega) (el 107 (by omega)))).trans ?_
    rfl
theorem tc_f (X : txV t c) (hk : k ≤ 30) (ho : o < c) (e : t o = 102) : txOK t c o k true (o + 1) := by
  refine ⟨fun m h => ⟨_, ?_, h.nx.st (q := 141) (j := k) (t o) (by omega), K0 m k o _, fun _ => ⟨ms_f, fun q => absurd e q, fun q => by omega, fun q => by omega⟩⟩, fun m h h19 => ?_⟩
  · rw [bif_t, rc_hd X h (by omega) ho (by rw [e]; decide)]
    unfold rcB
    rw [if_neg (by omega), if_pos e]
  · have h0 := h.st (j := 4 * k) (t o)
    refine ⟨_, ?_, h0.nx, F0' m k o _, fun _ => ⟨(ms_o (by omega)).trans ms_f, fun q => absurd e q, fun q => by omega, fun q => by omega⟩⟩
    rw [bif_t, mc_hd X h h19 hk, if_pos ho]
    unfold mcB
    refine (alt1 (h0.sk_y X ho e)).trans ?_
    rfl
theorem tc_y (X : txV t c) (hk : k ≤ 30) (ho : o < c) (e : t o = 121) : ∃ b, txOK t c o k b (txo1 t c (o + 1)) ∧ (b = true → txd t c (o + 1)) := by
  have eA : cmA t c o = txn1 t c (o + 1) := if_pos e
  by_cases hd : txd t c (o + 1)
  · refine ⟨true, ⟨fun m h => ?_, fun m h h19 => ?_⟩, fun _ => hd⟩
    · obtain ⟨m1, e1, w1, f1⟩ := (h.nx.st (q := 141) (j := k) (t o) (by omega)).rn1 X
      refine ⟨mset m1 142 k (txn1 t c (o + 1)), ?_, w1.st _ (by omega), ((K0 m k o (t o)).trans (tx2.K f1)).trans (txK.set (by omega) (by omega) _), fun _ => ⟨?_, fun _ => by rw [eA]; exact ms_f, fun q => by omega, fun q => by omega⟩⟩
      · rw [bif_t, rc_hd X h (by omega) ho (by rw [e]; decide)]
        unfold rcB
        rw [if_neg (by omega), if_neg (by omega), if_neg (by omega), if_pos e, e1, Option.bind_some]
        dsimp only
        rw [if_neg (txn1_p hd)]
      · rw [ms_o (by omega), f1.1 141 (by omega), ms_f]
    · have h0 := h.st (j := 4 * k) (t o)
      obtain ⟨m1, e1, w1, f1, v1⟩ := h0.nx.fg1 X hd (p := 4 * k + 1) (by omega)
      refine ⟨m1, ?_, w1, (F0' m k o (t o)).trans (f1.F (by omega) (by omega)), fun _ => ⟨?_, fun _ => by rw [eA]; exact v1, fun q => by omega, fun q => by omega⟩⟩
      · rw [bif_t, mc_hd X h h19 hk, if_pos ho]
        unfold mcB
        refine (alt0 (h0.sk_n X (by omega) (by omega))).trans ?_
        refine (alt0 (h0.sk_n X (by omega) (by omega))).trans ?_
        refine (alt0 (h0.sk_n X (by omega) (by omega))).trans ?_
        refine (alt1 (h0.sk_y X ho e)).trans ?_
        show (f_Mod_figures (mset (mset m 154 (4 * k) (t o)) 147 17 ((o + 1 : Nat) : Int)) ((4 * k + 1 : Nat) : Int) 1).bind _ = _
        rw [e1]
        rfl
      · rw [f1.2.2 (4 * k) (by omega), ms_o (by omega), ms_f]
  · rw [txo1_n hd]
    refine ⟨false, ⟨fun m h => ?_, fun m h h19 => ?_⟩, fun q => by cases q⟩
    · obtain ⟨m1, e1, w1, f1⟩ := (h.nx.st (q := 141) (j := k) (t o) (by omega)).rn1 X
      rw [txo1_n hd] at w1
      refine ⟨mset m1 142 k (txn1 t c (o + 1)), ?_, w1.st _ (by omega), ((K0 m k o (t o)).trans (tx2.K f1)).trans (txK.set (by omega) (by omega) _), fun q => by cases q⟩
      rw [bif_f, rc_hd X h (by omega) ho (by rw [e]; decide)]
      unfold rcB
      rw [if_neg (by omega), if_neg (by omega), if_neg (by omega), if_pos e, e1, Option.bind_some]
      dsimp only
      rw [if_pos (txn1_n hd)]
    · have h0 := h.st (j := 4 * k) (t o)
      refine ⟨_, ?_, h0.nx, F0' m k o (t o), fun q => by cases q⟩
      rw [bif_f, mc_hd X h h19 hk, if_pos ho]
      unfold mcB
      refine (alt0 (h0.sk_n X (by omega) (by omega))).trans ?_
      refine (alt0 (h0.sk_n X (by omega) (by omega))).trans ?_
      refine (alt0 (h0.sk_n X (by omega) (by omega))).trans ?_
      refine (alt1 (h0.sk_y X ho e)).trans ?_
      show (f_Mod_figures (mset (mset m 154 (4 * k) (t o)) 147 17 ((o + 1 : Nat) : Int)) ((4 * k + 1 : Nat) : Int) 1).bind _ = _
      rw [h0.nx.fg_n X hd]
      rfl
/-- a letter and a number -/
theorem mc_p (X : txV t c) (h0 : txM t c o m) (ho : o < c) (e : t o = 99 ∨ t o = 98 ∨ t o = 112 ∨ t o = 110 ∨ t o = 101 ∨ t o = 107) : mcB k m = (f_Mod_figures (mset m 147 17 ((o + 1 : Nat) : Int)) ((4 * k + 1 : Nat) : Int) 2).bind fun q => if q.1 = 0 then some (0, q.2) else some (1, q.2) := by
  unfold mcB
  rcases e with e | e | e | e | e | e
  · refine (alt0 (h0.sk_n X (by omega) (by omega))).trans ?_
    refine (alt0 (h0.sk_n X (by omega) (by omega))).trans ?_
    refine (alt0 (h0.sk_n X (by omega) (by omega))).trans ?_
    refine (alt0 (h0.sk_n X (by omega) (by omega))).trans ?_
    refine (alt1 (h0.sk_y X ho e)).trans ?_
    rfl
  · refine (alt0 (h0.sk_n X (by omega) (by omega))).trans ?_
    refine (alt0 (h0.sk_n X (by omega) (by omega))).trans ?_
    refine (alt0 (h0.sk_n X (by omega) (by omega))).trans ?_
    refine (alt0 (h0.sk_n X (by omega) (by omega))).trans ?_
    refine (alt0 (h0.sk_n X (by omega) (by omega))).trans ?_
    refine (alt1 (h0.sk_y X ho e)).trans ?_
    rfl
  · refine (alt0 (h0.sk_n X (by omega) (by omega))).trans ?_
    refine (alt0 (h0.sk_n X (by omega) (by omega))).trans ?_
    refine (alt0 (h0.sk_n X (by omega) (by omega))).trans ?_
    refine (alt0 (h0.sk_n X (by omega) (by omega))).trans ?_
    refine (alt0 (h0.sk_n X (by omega) (by omega))).trans ?_
    refine (alt0 (h0.sk_n X (by omega) (by omega))).trans ?_
    refine (alt1 (h0.sk_y X ho e)).trans ?_
    rfl
  · refine (alt0 (h0.sk_n X (by omega) (by omega))).trans ?_
    refine (alt0 (h0.sk_n X (by omega) (by omega))).trans ?_
    refine (alt0 (h0.sk_n X (by omega) (by omega))).trans ?_
    refine (alt0 (h0.sk_n X (by omega) (by omega))).trans ?_
    refine (alt0 (h0.sk_n X (by omega) (by omega))).trans ?_
    refine (alt0 (h0.sk_n X (by omega) (by omega))).trans ?_
    refine (alt0 (h0.sk_n X (by omega) (by omega))).trans ?_
    refine (alt1 (h0.sk_y X ho e)).trans ?_
    rfl
  · refine (alt0 (h0.sk_n X (by omega) (by omega))).trans ?_
    refine (alt0 (h0.sk_n X (by omega) (by omega))).trans ?_
    refine (alt0 (h0.sk_n X (by omega) (by omega))).trans ?_
    refine (alt0 (h0.sk_n X (by omega) (by omega))).trans ?_
    refine (alt0 (h0.sk_n X (by omega) (by omega))).trans ?_
    refine (alt0 (h0.sk_n X (by omega) (by omega))).trans ?_
    refine (alt0 (h0.sk_n X (by omega) (by omega))).trans ?_
    refine (alt0 (h0.sk_n X (by omega) (by omega))).trans ?_
    refine (alt1 (h0.sk_y X ho e)).trans ?_
    rfl
  · refine (alt0 (h0.sk_n X (by omega) (by omega))).trans ?_
    refine (alt0 (h0.sk_n X (by omega) (by omega))).trans ?_
    refine (alt0 (h0.sk_n X (by omega) (by omega))).trans ?_
    refine (alt0 (h0.sk_n X (by omega) (by omega))).trans ?_
    refine (alt0 (h0.sk_n X (by omega) (by omega))).trans ?_
    refine (alt0 (h0.sk_n X (by omega) (by omega))).trans ?_
    refine (alt0 (h0.sk_n X (by omega) (by omega))).trans ?_
    refine (alt0 (h0.sk_n X (by omega) (by omega))).trans ?_
    refine (alt0 (h0.sk_n X (by omega) (by omega))).trans ?_
    refine (alt1 (h0.sk_y X ho e)).trans ?_
    rfl
theorem tc_p (X : txV t c) (hk : k ≤ 30) (ho : o < c) (e : t o = 99 ∨ t o = 98 ∨ t o = 112 ∨ t o = 110 ∨ t o = 101 ∨ t o = 107) : ∃ b, txOK t c o k b (txo2 t c (o + 1)) ∧ (b = true → txd t c (o + 1)) := by
  have eA : cmA t c o = txn2 t c (o + 1) := if_neg (by omega)
  have ej : ¬ jidx (t o) < 0 := by
    rcases e with e | e | e | e | e | e <;> rw [e] <;> decide
  by_cases hd : txd t c (o + 1)
  · refine ⟨true, ⟨fun m h => ?_, fun m h h19 => ?_⟩, fun _ => hd⟩
    · obtain ⟨m1, e1, w1, f1⟩ := (h.nx.st (q := 141) (j := k) (t o) (by omega)).rn2 X
      refine ⟨mset m1 142 k (txn2 t c (o + 1)), ?_, w1.st _ (by omega), ((K0 m k o (t o)).trans (tx2.K f1)).trans (txK.set (by omega) (by omega) _), fun _ => ⟨?_, fun _ => by rw [eA]; exact ms_f, fun q => by omega, fun q => by omega⟩⟩
      · rw [bif_t, rc_hd X h (by omega) ho ej]
        unfold rcB
        rw [if_neg (by omega), if_neg (by omega), if_neg (by omega), if_neg (by omega), e1, Option.bind_some]
        dsimp only
        rw [if_neg (txn2_p hd)]
      · rw [ms_o (by omega), f1.1 141 (by omega), ms_f]
    · have h0 := h.st (j := 4 * k) (t o)
      obtain ⟨m1, e1, w1, f1, v1⟩ := h0.nx.fg2 X hd (p := 4 * k + 1) (by omega)
      refine ⟨m1, ?_, w1, (F0' m k o (t o)).trans (f1.F (by omega) (by omega)), fun _ => ⟨?_, fun _ => by rw [eA]; exact v1, fun q => by omega, fun q => by omega⟩⟩
      · rw [bif_t, mc_hd X h h19 hk, if_pos ho, mc_p X h0 ho e, e1]
        rfl
      · rw [f1.2.2 (4 * k) (by omega), ms_o (by omega), ms_f]
  · rw [txo2_n hd]
    refine ⟨false, ⟨fun m h => ?_, fun m h h19 => ?_⟩, fun q => by cases q⟩
    · obtain ⟨m1, e1, w1, f1⟩ := (h.nx.st (q := 141) (j := k) (t o) (by omega)).rn2 X
      rw [txo2_n hd] at w1
      refine ⟨mset m1 142 k (txn2 t c (o + 1)), ?_, w1.st _ (by omega), ((K0 m k o (t o)).trans (tx2.K f1)).trans (txK.set (by omega) (by omega) _), fun q => by cases q⟩
      rw [bif_f, rc_hd X h (by omega) ho ej]
      unfold rcB
      rw [if_neg (by omega), if_neg (by omega), if_neg (by omega), if_neg (by omega), e1, Option.bind_some]
      dsimp only
      rw [if_pos (txn2_n hd)]
    · have h0 := h.st (j := 4 * k) (t o)
      refine ⟨_, ?_, h0.nx, F0' m k o (t o), fun q => by cases q⟩
      rw [bif_f, mc_hd X h h19 hk, if_pos ho, mc_p X h0 ho e, h0.nx.fg_n X hd]
      rfl
/-- a gift -/
theorem mc_g (X : txV t c) (h0 : txM t c o m) (ho : o < c) (e : t o = 103) : mcB k m = (f_Mod_figures (mset m 147 17 ((o + 1 : Nat) : Int)) ((4 * k + 1 : Nat) : Int) 2).bind fun qx19 => if qx19.1 = 0 then some (0, qx19.2) else (f_Mod_skips qx19.2 62).bind fun qx20 => if qx20.1 = 0 then some (0, qx20.2) else (f_Mod_figures qx20.2 ((4 * k + 2 : Nat) : Int) 2).bind fun qx21 => if qx21.1 = 0 then some (0, qx21.2) else some (1, qx21.2) := by
  unfold mcB
  refine (alt0 (h0.sk_n X (by omega) (by omega))).trans ?_
  refine (alt0 (h0.sk_n X (by omega) (by omega))).trans ?_
  refine (alt1 (h0.sk_y X ho e)).trans ?_
  rfl
theorem rc_g (e : t o = 103) : rcB k (t o) m = (f_Script_readNumber m 2).bind fun qx4 => if qx4.1 = (-1) then some (0, mset qx4.2 142 k qx4.1) else (f_Script_skip (mset qx4.2 142 k qx4.1) 62).bind fun qx5 => if qx5.1 = 0 then some (0, qx5.2) else (f_Script_readSecond qx5.2 (k : Int) 2).bind fun qx6 => if qx6.1 = 0 then some (0, qx6.2) else some (1, qx6.2) := by
  unfold rcB
  rw [if_neg (by omega), if_neg (by omega), if_pos e]
theorem tc_g (X : txV t c) (hk : k ≤ 30) (ho : o < c) (e : t o = 103) : ∃ b o', txOK t c o k b o' ∧ (b = true → o < o' ∧ o' ≤ c) := by
  have eA : cmA t c o = txn2 t c (o + 1) := if_neg (by omega)
  have eB : cmB t c o = txn2 t c (txo2 t c (o + 1) + 1) := if_neg (by omega)
  have ej : ¬ jidx (t o) < 0 := by
    rw [e]
    decide
  by_cases hd : txd t c (o + 1)
  · have hb := txo2_b hd
    generalize ho2 : txo2 t c (o + 1) = o2 at hb eB
    by_cases hs : o2 < c ∧ t o2 = 62
    · by_cases hd2 : txd t c (o2 + 1)
      · have hb2 := txo2_b hd2
        refine ⟨true, txo2 t c (o2 + 1), ⟨fun m h => ?_, fun m h h19 => ?_⟩, fun _ => ⟨by omega, by omega⟩⟩
        · obtain ⟨m1, e1, w1, f1⟩ := (h.nx.st (q := 141) (j := k) (t o) (by omega)).rn2 X
          rw [ho2] at w1
          have w2 := w1.st (q := 142) (j := k) (txn2 t c (o + 1)) (by omega)
          obtain ⟨m3, e3, w3, f3, v3, q3⟩ := w2.nx.sec2 X (k := k) (by omega)
          refine ⟨m3, ?_, w3, ((((K0 m k o (t o)).trans (tx2.K f1)).trans (txK.set (q := 142) (by omega) (by omega) (txn2 t c (o + 1)))).trans (tx2.K (tx2.at' ((o2 + 1 : Nat) : Int)))).trans f3, fun _ => ⟨?_, fun _ => ?_, fun q => by omega, fun _ => ?_⟩⟩
          · rw [bif_t, rc_hd X h (by omega) ho ej, rc_g e, e1, Option.bind_some]
            dsimp only
            rw [if_neg (txn2_p hd)]
            refine (alt1 (w2.sk_y X hs.1 hs.2)).trans ?_
            dsimp only
            rw [e3, if_pos hd2]
            rfl
          · rw [q3 141 (by omega) (by omega), ms_o (by omega), ms_o (by omega), f1.1 141 (by omega), ms_f]
          · rw [q3 142 (by omega) (by omega), ms_o (by omega), ms_f, eA]
          · rw [v3, eB]
        · have h0 := h.st (j := 4 * k) (t o)
          obtain ⟨m1, e1, w1, f1, v1⟩ := h0.nx.fg2 X hd (p := 4 * k + 1) (by omega)
          rw [ho2] at w1
          obtain ⟨m2, e2, w2, f2, v2⟩ := w1.nx.fg2 X hd2 (p := 4 * k + 2) (by omega)
          refine ⟨m2, ?_, w2, (((F0' m k o (t o)).trans (f1.F (by omega) (by omega))).trans ((txP.at' (p := 4 * k + 1) _).F (by omega) (by omega))).trans (f2.F (by omega) (by omega)), fun _ => ⟨?_, fun _ => ?_, fun q => by omega, fun _ => ?_⟩⟩
          · rw [bif_t, mc_hd X h h19 hk, if_pos ho, mc_g X h0 ho e]
            refine (alt1 e1).trans ?_
            refine (alt1 (w1.sk_y X hs.1 hs.2)).trans ?_
            refine (alt1 e2).trans ?_
            rfl
          · rw [f2.2.2 (4 * k) (by omega), ms_o (by omega), f1.2.2 (4 * k) (by omega), ms_o (by omega), ms_f]
          · rw [f2.2.2 (4 * k + 1) (by omega), ms_o (by omega), v1, eA]
          · rw [v2, eB]
      · refine ⟨false, o2 + 1, ⟨fun m h => ?_, fun m h h19 => ?_⟩, fun q => by cases q⟩
        · obtain ⟨m1, e1, w1, f1⟩ := (h.nx.st (q := 141) (j := k) (t o) (by omega)).rn2 X
          rw [ho2] at w1
          have w2 := w1.st (q := 142) (j := k) (txn2 t c (o + 1)) (by omega)
          obtain ⟨m3, e3, w3, f3, v3, q3⟩ := w2.nx.sec2 X (k := k) (by omega)
          rw [txo2_n hd2] at w3
          refine ⟨m3, ?_, w3, ((((K0 m k o (t o)).trans (tx2.K f1)).trans (txK.set (q := 142) (by omega) (by omega) (txn2 t c (o + 1)))).trans (tx2.K (tx2.at' ((o2 + 1 : Nat) : Int)))).trans f3, fun q => by cases q⟩
          rw [bif_f, rc_hd X h (by omega) ho ej, rc_g e, e1, Option.bind_some]
          dsimp only
          rw [if_neg (txn2_p hd)]
          refine (alt1 (w2.sk_y X hs.1 hs.2)).trans ?_
          dsimp only
          rw [e3, if_neg hd2]
          rfl
        · have h0 := h.st (j := 4 * k) (t o)
          obtain ⟨m1, e1, w1, f1, v1⟩ := h0.nx.fg2 X hd (p := 4 * k + 1) (by omega)
          rw [ho2] at w1
          refine ⟨_, ?_, w1.nx, ((F0' m k o (t o)).trans (f1.F (by omega) (by omega))).trans ((txP.at' (p := 4 * k + 1) _).F (by omega) (by omega)), fun q => by cases q⟩
          rw [bif_f, mc_hd X h h19 hk, if_pos ho, mc_g X h0 ho e]
          refine (alt1 e1).trans ?_
          refine (alt1 (w1.sk_y X hs.1 hs.2)).trans ?_
          refine (alt0 (w1.nx.fg_n X hd2)).trans ?_
          rfl
    · refine ⟨false, o2, ⟨fun m h => ?_, fun m h h19 => ?_⟩, fun q => by cases q⟩
      · obtain ⟨m1, e1, w1, f1⟩ := (h.nx.st (q := 141) (j := k) (t o) (by omega)).rn2 X
        rw [ho2] at w1
        have w2 := w1.st (q := 142) (j := k) (txn2 t c (o + 1)) (by omega)
        refine ⟨_, ?_, w2, ((K0 m k o (t o)).trans (tx2.K f1)).trans (txK.set (q := 142) (by omega) (by omega) (txn2 t c (o + 1))), fun q => by cases q⟩
        rw [bif_f, rc_hd X h (by omega) ho ej, rc_g e, e1, Option.bind_some]
        dsimp only
        rw [if_neg (txn2_p hd)]
        refine (alt0 (w2.sk_n X (by omega) hs)).trans ?_
        rfl
      · have h0 := h.st (j := 4 * k) (t o)
        obtain ⟨m1, e1, w1, f1, v1⟩ := h0.nx.fg2 X hd (p := 4 * k + 1) (by omega)
        rw [ho2] at w1
        refine ⟨m1, ?_, w1, (F0' m k o (t o)).trans (f1.F (by omega) (by omega)), fun q => by cases q⟩
        rw [bif_f, mc_hd X h h19 hk, if_pos ho, mc_g X h0 ho e]
        refine (alt1 e1).trans ?_
        refine (alt0 (w1.sk_n X (by omega) hs)).trans ?_
        rfl
  · refine ⟨false, o + 1, ⟨fun m h => ?_, fun m h h19 => ?_⟩, fun q => by cases q⟩
    · obtain ⟨m1, e1, w1, f1⟩ := (h.nx.st (q := 141) (j := k) (t o) (by omega)).rn2 X
      rw [txo2_n hd] at w1
      refine ⟨mset m1 142 k (txn2 t c (o + 1)), ?_, w1.st _ (by omega), ((K0 m k o (t o)).trans (tx2.K f1)).trans (txK.set (by omega) (by omega) _), fun q => by cases q⟩
      rw [bif_f, rc_hd X h (by omega) ho ej, rc_g e, e1, Option.bind_some]
      dsimp only
      rw [if_pos (txn2_n hd)]
    · have h0 := h.st (j := 4 * k) (t o)
      refine ⟨_, ?_, h0.nx, F0' m k o (t o), fun q => by cases q⟩
      rw [bif_f, mc_hd X h h19 hk, if_pos ho, mc_g X h0 ho e]
      refine (alt0 (h0.nx.fg_n X hd)).trans ?_
      rfl
/-- a new habit -/
theorem mc_a (X : txV t c) (h0 : txM t c o m) (ho : o < c) (e : t o = 97) : mcB k m = (f_Mod_figures (mset m 147 17 ((o + 1 : Nat) : Int)) ((4 * k + 1 : Nat) : Int) 2).bind fun qx22 => if qx22.1 = 0 then some (0, qx22.2) else (f_Mod_kindHere qx22.2 ((4 * k + 2 : Nat) : Int)).bind fun qx23 => if qx23.1 = 0 then some (0, qx23.2) else (f_Mod_figures qx23.2 ((4 * k + 3 : Nat) : Int) 1).bind fun qx24 => if qx24.1 = 0 then some (0, qx24.2) else some (1, qx24.2) := by
  unfold mcB
  refine (alt0 (h0.sk_n X (by omega) (by omega))).trans ?_
  refine (alt1 (h0.sk_y X ho e)).trans ?_
  rfl
theorem rc_a (e : t o = 97) : rcB k (t o) m = (f_Script_readNumber m 2).bind fun qx7 => (f_Script_current (mset qx7.2 142 k qx7.1)).bind fun x8 => och x8 (if qx7.1 = (-1) then some (0, mset (mset qx7.2 142 k qx7.1) 143 k x8) else (f_Script_skipKind (mset (mset qx7.2 142 k qx7.1) 143 k x8)).bind fun qx9 => if qx9.1 = 0 then some (0, qx9.2) else (f_Script_readSecond qx9.2 (k : Int) 1).bind fun qx10 => if qx10.1 = 0 then some (0, qx10.2) else some (1, qx10.2)) := by
  unfold rcB
  rw [if_pos e]
theorem txch (X : txV t c) (o : Nat) : 0 ≤ (if o < c then t o else 0) ∧ (if o < c then t o else 0) < 65536 := by
  by_cases ho : o < c
  · have h9 := X.2 o ho
    rw [if_pos ho]
    omega
  · rw [if_neg ho]
    omega
theorem tc_a (X : txV t c) (hk : k ≤ 30) (ho : o < c) (e : t o = 97) : ∃ b o', txOK t c o k b o' ∧ (b = true → o < o' ∧ o' ≤ c ∧ txk (t (txo2 t c (o + 1)))) := by
  have eA : cmA t c o = txn2 t c (o + 1) := if_neg (by omega)
  have eB : cmB t c o = txn1 t c (txo2 t c (o + 1) + 1) := if_pos e
  have ej : ¬ jidx (t o) < 0 := by
    rw [e]
    decide
  by_cases hd : txd t c (o + 1)
  · have hb := txo2_b hd
    generalize ho2 : txo2 t c (o + 1) = o2 at hb eB ⊢
    by_cases hs : o2 < c ∧ txk (t o2)
    · by_cases hd2 : txd t c (o2 + 1)
      · refine ⟨true, txo1 t c (o2 + 1), ⟨fun m h => ?_, fun m h h19 => ?_⟩, fun _ => ⟨?_, ?_, hs.2⟩⟩
        · obtain ⟨m1, e1, w1, f1⟩ := (h.nx.st (q := 141) (j := k) (t o) (by omega)).rn2 X
          rw [ho2] at w1
          have w2 := w1.st (q := 142) (j := k) (txn2 t c (o + 1)) (by omega)
          have ec := w2.cur X
          rw [if_pos hs.1] at ec
          have w2' := w2.st (q := 143) (j := k) (t o2) (by omega)
          obtain ⟨m3, e3, w3, f3, v3, q3⟩ := w2'.nx.sec1 X (k := k) (by omega)
          refine ⟨m3, ?_, w3, (((((K0 m k o (t o)).trans (tx2.K f1)).trans (txK.set (q := 142) (by omega) (by omega) (txn2 t c (o + 1)))).trans (txK.set (q := 143) (by omega) (by omega) (t o2))).trans (tx2.K (tx2.at' ((o2 + 1 : Nat) : Int)))).trans f3, fun _ => ⟨?_, fun _ => ?_, fun _ => ?_, fun _ => ?_⟩⟩
          · have h9 := X.2 o2 hs.1
            rw [bif_t, rc_hd X h (by omega) ho ej, rc_a e, e1, Option.bind_some]
            dsimp only
            rw [ec, Option.bind_some, och_i ⟨by omega, by omega⟩, if_neg (txn2_p hd)]
            refine (alt1 (w2'.kd_y X hs.1 hs.2)).trans ?_
            dsimp only
            rw [e3, if_pos hd2]
            rfl
          · rw [q3 141 (by omega) (by omega), ms_o (by omega), ms_o (by omega), ms_o (by omega), f1.1 141 (by omega), ms_f]
          · rw [q3 142 (by omega) (by omega), ms_o (by omega), ms_o (by omega), ms_f, eA]
          · rw [q3 143 (by omega) (by omega), ms_o (by omega), ms_f, ho2]
          · rw [v3, eB]
        · have h0 := h.st (j := 4 * k) (t o)
          obtain ⟨m1, e1, w1, f1, v1⟩ := h0.nx.fg2 X hd (p := 4 * k + 1) (by omega)
          rw [ho2] at w1
          obtain ⟨m2, e2, w2, f2, v2⟩ := w1.kd_y X hs.1 hs.2 (p := 4 * k + 2) (by omega)
          obtain ⟨m3, e3, w3, f3, v3⟩ := w2.fg1 X hd2 (p := 4 * k + 3) (by omega)
          refine ⟨m3, ?_, w3, (((F0' m k o (t o)).trans (f1.F (by omega) (by omega))).trans (f2.F (by omega) (by omega))).trans (f3.F (by omega) (by omega)), fun _ => ⟨?_, fun _ => ?_, fun _ => ⟨?_, ?_⟩, fun q => by omega⟩⟩
          · rw [bif_t, mc_hd X h h19 hk, if_pos ho, mc_a X h0 ho e]
            refine (alt1 e1).trans ?_
            refine (alt1 e2).trans ?_
            refine (alt1 e3).trans ?_
            rfl
          · rw [f3.2.2 (4 * k) (by omega), f2.2.2 (4 * k) (by omega), f1.2.2 (4 * k) (by omega), ms_o (by omega), ms_f]
          · rw [f3.2.2 (4 * k + 1) (by omega), f2.2.2 (4 * k + 1) (by omega), v1, eA]
          · rw [f3.2.2 (4 * k + 2) (by omega), v2, ho2]
          · rw [v3, eB]
        · rw [txo1_y hd2]
          omega
        · rw [txo1_y hd2]
          obtain ⟨d1, d2, d3⟩ := hd2
          omega
      · refine ⟨false, o2 + 1, ⟨fun m h => ?_, fun m h h19 => ?_⟩, fun q => by cases q⟩
        · obtain ⟨m1, e1, w1, f1⟩ := (h.nx.st (q := 141) (j := k) (t o) (by omega)).rn2 X
          rw [ho2] at w1
          have w2 := w1.st (q := 142) (j := k) (txn2 t c (o + 1)) (by omega)
          have ec := w2.cur X
          rw [if_pos hs.1] at ec
          have w2' := w2.st (q := 143) (j := k) (t o2) (by omega)
          obtain ⟨m3, e3, w3, f3, v3, q3⟩ := w2'.nx.sec1 X (k := k) (by omega)
          rw [txo1_n hd2] at w3
          refine ⟨m3, ?_, w3, (((((K0 m k o (t o)).trans (tx2.K f1)).trans (txK.set (q := 142) (by omega) (by omega) (txn2 t c (o + 1)))).trans (txK.set (q := 143) (by omega) (by omega) (t o2))).trans (tx2.K (tx2.at' ((o2 + 1 : Nat) : Int)))).trans f3, fun q => by cases q⟩
          have h9 := X.2 o2 hs.1
          rw [bif_f, rc_hd X h (by omega) ho ej, rc_a e, e1, Option.bind_some]
          dsimp only
          rw [ec, Option.bind_some, och_i ⟨by omega, by omega⟩, if_neg (txn2_p hd)]
          refine (alt1 (w2'.kd_y X hs.1 hs.2)).trans ?_
          dsimp only
          rw [e3, if_neg hd2]
          rfl
        · have h0 := h.st (j := 4 * k) (t o)
          obtain ⟨m1, e1, w1, f1, v1⟩ := h0.nx.fg2 X hd (p := 4 * k + 1) (by omega)
          rw [ho2] at w1
          obtain ⟨m2, e2, w2, f2, v2⟩ := w1.kd_y X hs.1 hs.2 (p := 4 * k + 2) (by omega)
          refine ⟨m2, ?_, w2, ((F0' m k o (t o)).trans (f1.F (by omega) (by omega))).trans (f2.F (by omega) (by omega)), fun q => by cases q⟩
          rw [bif_f, mc_hd X h h19 hk, if_pos ho, mc_a X h0 ho e]
          refine (alt1 e1).trans ?_
          refine (alt1 e2).trans ?_
          refine (alt0 (w2.fg_n X hd2)).trans ?_
          rfl
    · refine ⟨false, o2, ⟨fun m h => ?_, fun m h h19 => ?_⟩, fun q => by cases q⟩
      · obtain ⟨m1, e1, w1, f1⟩ := (h.nx.st (q := 141) (j := k) (t o) (by omega)).rn2 X
        rw [ho2] at w1
        have w2 := w1.st (q := 142) (j := k) (txn2 t c (o + 1)) (by omega)
        have ec := w2.cur X
        have w2' := w2.st (q := 143) (j := k) (if o2 < c then t o2 else 0) (by omega)
        refine ⟨_, ?_, w2', (((K0 m k o (t o)).trans (tx2.K f1)).trans (txK.set (q := 142) (by omega) (by omega) (txn2 t c (o + 1)))).trans (txK.set (q := 143) (by omega) (by omega) _), fun q => by cases q⟩
        rw [bif_f, rc_hd X h (by omega) ho ej, rc_a e, e1, Option.bind_some]
        dsimp only
        rw [ec, Option.bind_some, och_i (txch X o2), if_neg (txn2_p hd)]
        refine (alt0 (w2'.kd_n X hs)).trans ?_
        rfl
      · have h0 := h.st (j := 4 * k) (t o)
        obtain ⟨m1, e1, w1, f1, v1⟩ := h0.nx.fg2 X hd (p := 4 * k + 1) (by omega)
        rw [ho2] at w1
        obtain ⟨m2, e2, w2, f2⟩ := w1.kd_n X hs (p := 4 * k + 2) (by omega)
        refine ⟨m2, ?_, w2, ((F0' m k o (t o)).trans (f1.F (by omega) (by omega))).trans (f2.F (by omega) (by omega)), fun q => by cases q⟩
        rw [bif_f, mc_hd X h h19 hk, if_pos ho, mc_a X h0 ho e]
        refine (alt1 e1).trans ?_
        refine (alt0 e2).trans ?_
        rfl
  · refine ⟨false, o + 1, ⟨fun m h => ?_, fun m h h19 => ?_⟩, fun q => by cases q⟩
    · obtain ⟨m1, e1, w1, f1⟩ := (h.nx.st (q := 141) (j := k) (t o) (by omega)).rn2 X
      rw [txo2_n hd] at w1
      have w2 := w1.st (q := 142) (j := k) (txn2 t c (o + 1)) (by omega)
      have ec := w2.cur X
      refine ⟨_, ?_, w2.st (q := 143) (j := k) (if o + 1 < c then t (o + 1) else 0) (by omega), (((K0 m k o (t o)).trans (tx2.K f1)).trans (txK.set (q := 142) (by omega) (by omega) (txn2 t c (o + 1)))).trans (txK.set (q := 143) (by omega) (by omega) _), fun q => by cases q⟩
      rw [bif_f, rc_hd X h (by omega) ho ej, rc_a e, e1, Option.bind_some]
      dsimp only
      rw [ec, Option.bind_some, och_i (txch X (o + 1)), if_pos (txn2_n hd)]
    · have h0 := h.st (j := 4 * k) (t o)
      refine ⟨_, ?_, h0.nx, F0' m k o (t o), fun q => by cases q⟩
      rw [bif_f, mc_hd X h h19 hk, if_pos ho, mc_a X h0 ho e]
      refine (alt0 (h0.nx.fg_n X hd)).trans ?_
      rfl
/-- what a command may be -/
def cmV (t : Nat → Int) (c o : Nat) : Prop := (t o = 102 ∨ t o = 97 ∨ t o = 103 ∨ t o = 121 ∨ t o = 99 ∨ t o = 98 ∨ t o = 112 ∨ t o = 110 ∨ t o = 101 ∨ t o = 107) ∧ (t o = 97 → txk (t (txo2 t c (o + 1))))
theorem tc_all (X : txV t c) (hk : k ≤ 30) (hoc : o ≤ c) : ∃ b o', txOK t c o k b o' ∧ (b = true → o < o' ∧ o' ≤ c ∧ cmV t c o) := by
  by_cases ho : o < c
  · by_cases a1 : t o = 102
    · exact ⟨true, o + 1, tc_f X hk ho a1, fun _ => ⟨by omega, by omega, ⟨by omega, fun q => by omega⟩⟩⟩
    · by_cases a2 : t o = 97
      · obtain ⟨b, o', h1, h2⟩ := tc_a X hk ho a2
        exact ⟨b, o', h1, fun q => ⟨(h2 q).1, (h2 q).2.1, ⟨by omega, fun _ => (h2 q).2.2⟩⟩⟩
      · by_cases a3 : t o = 103
        · obtain ⟨b, o', h1, h2⟩ := tc_g X hk ho a3
          exact ⟨b, o', h1, fun q => ⟨(h2 q).1, (h2 q).2, ⟨by omega, fun q => by omega⟩⟩⟩
        · by_cases a4 : t o = 121
          · obtain ⟨b, h1, h2⟩ := tc_y X hk ho a4
            refine ⟨b, _, h1, fun q => ?_⟩
            have hd := h2 q
            rw [txo1_y hd]
            obtain ⟨d1, d2, d3⟩ := hd
            exact ⟨by omega, by omega, ⟨by omega, fun q => by omega⟩⟩
          · by_cases a5 : t o = 99 ∨ t o = 98 ∨ t o = 112 ∨ t o = 110 ∨ t o = 101 ∨ t o = 107
            · obtain ⟨b, h1, h2⟩ := tc_p X hk ho a5
              refine ⟨b, _, h1, fun q => ?_⟩
              have hb := txo2_b (h2 q)
              exact ⟨by omega, by omega, ⟨by omega, fun q => by omega⟩⟩
            · refine ⟨false, o, tc_no X hk (fun _ => ?_), fun q => by cases q⟩
              unfold jidx
              rw [if_neg a1, if_neg (by omega), if_neg (by omega), if_neg a2, if_neg (by omega), if_neg (by omega), if_neg (by omega), if_neg (by omega), if_neg a3, if_neg a4]
              omega
  · exact ⟨false, o, tc_no X hk (fun q => absurd q ho), fun q => by cases q⟩
end Tx

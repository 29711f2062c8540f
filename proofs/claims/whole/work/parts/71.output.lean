/-! ===== output ===== -/
/-- the class has written l behind n signs -/
def owC (n : Nat) (l : List Int) (m m' : jMem) : Prop := n + l.length ≤ 60 ∧ m' 145 1 = ((n + l.length : Nat) : Int) ∧ (∀ q, q ≠ 145 → q ≠ 146 → m' q = m q) ∧ (∀ j, j < n → m' 146 j = m 146 j) ∧ ∀ j x, l[j]? = some x → m' 146 (n + j) = x ∧ 0 ≤ x ∧ x < 65536
/-- the model has -/
def owM (n : Nat) (l : List Int) (m m' : jMem) : Prop := m' 147 16 = ((n + l.length : Nat) : Int) ∧ (∀ q, q ≠ 147 → q ≠ 153 → m' q = m q) ∧ (∀ j, j ≠ 16 → m' 147 j = m 147 j) ∧ (∀ j, j < n → m' 153 j = m 153 j) ∧ ∀ j x, l[j]? = some x → m' 153 (n + j) = x
section Ow
variable {m m1 m2 m' : jMem} {n : Nat} {l l2 : List Int} {g : Nat → Int} {od ps : Nat → Nat}
theorem owC.nil (h : m 145 1 = (n : Int)) (hn : n ≤ 60) : owC n [] m m := ⟨hn, h, fun _ _ _ => rfl, fun _ _ => rfl, fun j x e => by simp at e⟩
theorem owM.nil (h : m 147 16 = (n : Int)) : owM n [] m m := ⟨h, fun _ _ _ => rfl, fun _ _ => rfl, fun _ _ => rfl, fun j x e => by simp at e⟩
theorem owC.app (h : owC n l m m1) (h2 : owC (n + l.length) l2 m1 m2) : owC n (l ++ l2) m m2 := by
  obtain ⟨a0, a1, a2, a3, a4⟩ := h
  obtain ⟨b0, b1, b2, b3, b4⟩ := h2
  refine ⟨?_, ?_, fun q q1 q2 => (b2 q q1 q2).trans (a2 q q1 q2), fun j hj => (b3 j (by omega)).trans (a3 j hj), fun j x e => ?_⟩
  · rw [List.length_append]
    omega
  · rw [b1, List.length_append, Nat.add_assoc]
  · by_cases hj : j < l.length
    · rw [List.getElem?_append_left hj] at e
      rw [b3 (n + j) (by omega)]
      exact a4 j x e
    · rw [List.getElem?_append_right (show l.length ≤ j by omega)] at e
      have h3 := b4 (j - l.length) x e
      rw [show n + l.length + (j - l.length) = n + j by omega] at h3
      exact h3
theorem owM.app (h : owM n l m m1) (h2 : owM (n + l.length) l2 m1 m2) : owM n (l ++ l2) m m2 := by
  obtain ⟨a1, a2, a5, a3, a4⟩ := h
  obtain ⟨b1, b2, b5, b3, b4⟩ := h2
  refine ⟨?_, fun q q1 q2 => (b2 q q1 q2).trans (a2 q q1 q2), fun j hj => (b5 j hj).trans (a5 j hj), fun j hj => (b3 j (by omega)).trans (a3 j hj), fun j x e => ?_⟩
  · rw [b1, List.length_append, Nat.add_assoc]
  · by_cases hj : j < l.length
    · rw [List.getElem?_append_left hj] at e
      rw [b3 (n + j) (by omega)]
      exact a4 j x e
    · rw [List.getElem?_append_right (show l.length ≤ j by omega)] at e
      have h3 := b4 (j - l.length) x e
      rw [show n + l.length + (j - l.length) = n + j by omega] at h3
      exact h3
theorem owC.rp (w : owC n l m m') (V : GP g) (H : RP 1 m g od ps) : RP 1 m' g od ps := H.tr (BE.of fun q _ _ => w.2.2.1 q (by omega) (by omega)) V
theorem owC.rh (w : owC n l m m') (W : GH g) (R : RH 1 m g) : RH 1 m' g := R.tr (BE.of fun q _ _ => w.2.2.1 q (by omega) (by omega)) W
theorem owC_put {x : Int} (h : m 145 1 = (n : Int)) (hn : n < 60) (hx : 0 ≤ x ∧ x < 65536) : ∃ m', f_Output_put m x = some m' ∧ owC n [x] m m' := by
  refine ⟨mset (mset m 146 n x) 145 1 ((n + 1 : Nat) : Int), ?_, hn, ?_, fun q q1 q2 => by rw [mset_ne q1, mset_ne q2], fun j hj => ?_, fun j y e => ?_⟩
  · unfold f_Output_put
    rw [h, if_neg (by omega), if_pos (by omega), oix_n hn, och_i hx, Int.toNat_natCast, ms_o (by omega), h, jw_s (by omega)]
  · rw [ms_f]
    rfl
  · rw [ms_o (by omega), ms_g (by omega)]
  · cases j with
    | zero =>
      rw [List.getElem?_cons_zero] at e
      have e' := Option.some.inj e
      rw [← e', show n + 0 = n from rfl, ms_o (by omega), ms_f]
      exact ⟨rfl, hx⟩
    | succ j =>
      rw [List.getElem?_cons_succ] at e
      simp at e
theorem owM_put {x : Int} (h : m 147 16 = (n : Int)) (hn : n < 60) (hx : 0 ≤ x ∧ x < 65536) : ∃ m', f_Mod_writes m x = some m' ∧ owM n [x] m m' := by
  refine ⟨mset (mset m 153 n x) 147 16 ((n + 1 : Nat) : Int), ?_, ?_, fun q q1 q2 => by rw [mset_ne q1, mset_ne q2], fun j hj => by rw [ms_g hj, ms_o (by omega)], fun j hj => ?_, fun j y e => ?_⟩
  · unfold f_Mod_writes
    rw [show x % 65536 = x by omega, h, oix_n hn, och_i hx, Int.toNat_natCast, ms_o (by omega), h, jw_s (by omega)]
  · rw [ms_f]
    rfl
  · rw [ms_o (by omega), ms_g (by omega)]
  · cases j with
    | zero =>
      rw [List.getElem?_cons_zero] at e
      have e' := Option.some.inj e
      rw [← e', show n + 0 = n from rfl, ms_o (by omega), ms_f]
    | succ j =>
      rw [List.getElem?_cons_succ] at e
      simp at e
def oun (a : Int) : List Int := if a < 10 then [48 + a % 10] else [48 + a / 10, 48 + a % 10]
theorem oun_le (a : Int) : (oun a).length ≤ 2 := by
  unfold oun
  by_cases h : a < 10
  · rw [if_pos h]
    simp only [List.length_cons, List.length_nil]
    omega
  · rw [if_neg h]
    simp only [List.length_cons, List.length_nil]
    omega
theorem owC_num {a : Int} (h : m 145 1 = (n : Int)) (hn : n + 2 ≤ 60) (ha : 0 ≤ a ∧ a < 100) : ∃ m', f_Output_putNumber m a = some m' ∧ owC n (oun a) m m' := by
  have e1 : (jw (48 + (a % 10))) % 65536 = 48 + a % 10 := by
    rw [jw_id ⟨by omega, by omega⟩]
    omega
  have e2 : (jw (48 + (a / 10))) % 65536 = 48 + a / 10 := by
    rw [jw_id ⟨by omega, by omega⟩]
    omega
  unfold f_Output_putNumber oun
  by_cases h9 : a < 10
  · rw [if_pos h9, if_pos h9, if_pos ⟨by omega, ha.1⟩, e1]
    obtain ⟨m1, p1, w1⟩ := owC_put h (show n < 60 by omega) (show 0 ≤ 48 + a % 10 ∧ 48 + a % 10 < 65536 by omega)
    rw [p1]
    exact ⟨m1, rfl, w1⟩
  · rw [if_neg h9, if_neg h9, if_pos ⟨by omega, ha.1⟩, e2]
    obtain ⟨m1, p1, w1⟩ := owC_put h (show n < 60 by omega) (show 0 ≤ 48 + a / 10 ∧ 48 + a / 10 < 65536 by omega)
    have f1 : m1 145 1 = ((n + 1 : Nat) : Int) := w1.2.1
    rw [p1, Option.bind_some, if_pos ⟨by omega, ha.1⟩, e1]
    obtain ⟨m2, p2, w2⟩ := owC_put f1 (show n + 1 < 60 by omega) (show 0 ≤ 48 + a % 10 ∧ 48 + a % 10 < 65536 by omega)
    rw [p2]
    have w3 := owC.app w1 w2
    exact ⟨m2, rfl, w3⟩
theorem owM_num {a : Int} (h : m 147 16 = (n : Int)) (hn : n + 2 ≤ 60) (ha : 0 ≤ a ∧ a < 100) : ∃ m', f_Mod_writesNumber m a = some m' ∧ owM n (oun a) m m' := by
  have e1 : jw (48 + (a % 10)) = 48 + a % 10 := jw_id ⟨by omega, by omega⟩
  have e2 : jw (48 + (a / 10)) = 48 + a / 10 := jw_id ⟨by omega, by omega⟩
  unfold f_Mod_writesNumber oun
  by_cases h9 : a < 10
  · rw [if_neg (show ¬ 9 < a by omega), if_pos h9, if_pos ⟨by omega, ha.1⟩, e1]
    obtain ⟨m1, p1, w1⟩ := owM_put h (show n < 60 by omega) (show 0 ≤ 48 + a % 10 ∧ 48 + a % 10 < 65536 by omega)
    rw [p1]
    exact ⟨m1, rfl, w1⟩
  · rw [if_pos (show 9 < a by omega), if_neg h9, if_pos ⟨by omega, ha.1⟩, e2]
    obtain ⟨m1, p1, w1⟩ := owM_put h (show n < 60 by omega) (show 0 ≤ 48 + a / 10 ∧ 48 + a / 10 < 65536 by omega)
    have f1 : m1 147 16 = ((n + 1 : Nat) : Int) := w1.1
    rw [p1, Option.bind_some, if_pos ⟨by omega, ha.1⟩, e1]
    obtain ⟨m2, p2, w2⟩ := owM_put f1 (show n + 1 < 60 by omega) (show 0 ≤ 48 + a % 10 ∧ 48 + a % 10 < 65536 by omega)
    rw [p2]
    have w3 := owM.app w1 w2
    exact ⟨m2, rfl, w3⟩
/-! a habit -/
def ouh (g : Nat → Int) (i : Nat) (t : Int) : List Int := if hf g (i : Int) t < 0 then [] else [32] ++ ([ltr t] ++ (oun (hs g (hf g (i : Int) t).toNat) ++ (if he g (hf g (i : Int) t).toNat = 1 then [33] else [])))
theorem ouh_le (g : Nat → Int) (i : Nat) (t : Int) : (ouh g i t).length ≤ 5 := by
  unfold ouh
  have h := oun_le (hs g (hf g (i : Int) t).toNat)
  by_cases h1 : hf g (i : Int) t < 0
  · rw [if_pos h1, List.length_nil]
    omega
  · rw [if_neg h1]
    by_cases h2 : he g (hf g (i : Int) t).toNat = 1
    · rw [if_pos h2]
      simp only [List.length_append, List.length_cons, List.length_nil]
      omega
    · rw [if_neg h2]
      simp only [List.length_append, List.length_cons, List.length_nil]
      omega
theorem owC_hab (W : GH g) (R : RH 1 m g) {i : Nat} {t : Int} (h : m 145 1 = (n : Int)) (hn : n + 5 ≤ 60) : ∃ m', f_Reg_putHabit m (hf g (i : Int) t) = some m' ∧ owC n (ouh g i t) m m' := by
  unfold f_Reg_putHabit ouh
  rcases hf_spec g (i : Int) t with ⟨e, -⟩ | ⟨l, e, hl, -, ek⟩
  · rw [e, if_pos rfl, if_pos (by omega)]
    exact ⟨m, rfl, owC.nil h (by omega)⟩
  · have B := W.hb hl
    have hS := B.s
    rw [e, if_neg (by omega), if_neg (by omega), Int.toNat_natCast]
    obtain ⟨m1, p1, w1⟩ := owC_put h (show n < 60 by omega) (show (0 : Int) ≤ 32 ∧ (32 : Int) < 65536 by omega)
    have e1 : m1 145 1 = ((n + 1 : Nat) : Int) := w1.2.1
    have R1 := w1.rh W R
    rw [p1, Option.bind_some, H_kind W R1 hl, Option.bind_some, ek]
    obtain ⟨m2, p2, w2⟩ := owC_put e1 (show n + 1 < 60 by omega) (ltr_ch t)
    have e2 : m2 145 1 = ((n + 1 + 1 : Nat) : Int) := w2.2.1
    have R2 := w2.rh W R1
    rw [p2, Option.bind_some, H_str W R2 hl, Option.bind_some]
    obtain ⟨m3, p3, w3⟩ := owC_num e2 (show n + 1 + 1 + 2 ≤ 60 by omega) (show 0 ≤ hs g l ∧ hs g l < 100 by omega)
    have e3 : m3 145 1 = ((n + 1 + 1 + (oun (hs g l)).length : Nat) : Int) := w3.2.1
    have hln := oun_le (hs g l)
    have R3 := w3.rh W R2
    rw [p3, Option.bind_some, H_ent W R3 hl, Option.bind_some]
    rcases B.e with h0 | h1
    · rw [if_pos h0, if_neg (show ¬ he g l = 1 by omega)]
      have w4 := owC.nil e3 (by omega)
      have ww := owC.app w1 (owC.app w2 (owC.app w3 w4))
      exact ⟨m3, rfl, ww⟩
    · rw [if_neg (show ¬ he g l = 0 by omega), if_pos h1]
      obtain ⟨m4, p4, w4⟩ := owC_put e3 (by omega) (show (0 : Int) ≤ 33 ∧ (33 : Int) < 65536 by omega)
      rw [p4]
      have ww := owC.app w1 (owC.app w2 (owC.app w3 w4))
      exact ⟨m4, rfl, ww⟩
theorem owM_hab (W : GH g) (hg : m 148 = g) {i : Nat} {t t' : Int} (ht : t = 0 ∨ t = 1 ∨ t = 2) (ht' : t + 1 = t') (h : m 147 16 = (n : Int)) (hn : n + 5 ≤ 60) (N : Nat) : ∃ m', f_Mod_writePersonL (N + 1) m (i : Int) t = f_Mod_writePersonL N m' (i : Int) t' ∧ owM n (ouh g i t) m m' := by
  have hW := W.n
  have ej : jw (t + 1) = t' := by
    rw [jw_id ⟨by omega, by omega⟩, ht']
  have hd : f_Mod_writePersonL (N + 1) m (i : Int) t = if t < 3 then (f_Mod_held m (i : Int) t).bind fun x13 => if x13 < 0 then f_Mod_writePersonL N m (i : Int) (jw (t + 1)) else (f_Mod_writes m 32).bind fun m14 => (f_Mod_letterOf m14 t).bind fun x15 => (f_Mod_writes m14 x15).bind fun m16 => (f_Mod_of m16 x13 2).bind fun x17 => (f_Mod_writesNumber m16 x17).bind fun m18 => (f_Mod_of m18 x13 3).bind fun x19 => if x19 = 1 then (f_Mod_writes m18 33).bind fun m20 => f_Mod_writePersonL N m20 (i : Int) (jw (t + 1)) else f_Mod_writePersonL N m18 (i : Int) (jw (t + 1)) else some (m 147 16, m) := rfl
  rw [hd]
  unfold ouh
  rw [if_pos (show t < 3 by omega), M_held W hg, Option.bind_some]
  rcases hf_spec g (i : Int) t with ⟨e, -⟩ | ⟨l, e, hl, -, ek⟩
  · rw [e, if_pos (show (-1 : Int) < 0 by omega), if_pos (show (-1 : Int) < 0 by omega), ej]
    exact ⟨m, rfl, owM.nil h⟩
  · have B := W.hb hl
    have hS := B.s
    rw [e, if_neg (show ¬ (l : Int) < 0 by omega), if_neg (show ¬ (l : Int) < 0 by omega), Int.toNat_natCast]
    obtain ⟨m1, p1, w1⟩ := owM_put h (show n < 60 by omega) (show (0 : Int) ≤ 32 ∧ (32 : Int) < 65536 by omega)
    have e1 : m1 147 16 = ((n + 1 : Nat) : Int) := w1.1
    have g1 : m1 148 = g := (w1.2.1 148 (by omega) (by omega)).trans hg
    have el : f_Mod_letterOf m1 t = some (ltr t) := by
      unfold f_Mod_letterOf ltr
      rcases ht with rfl | rfl | rfl <;> rfl
    rw [p1, Option.bind_some, el, Option.bind_some]
    obtain ⟨m2, p2, w2⟩ := owM_put e1 (show n + 1 < 60 by omega) (ltr_ch t)
    have e2 : m2 147 16 = ((n + 1 + 1 : Nat) : Int) := w2.1
    have g2 : m2 148 = g := (w2.2.1 148 (by omega) (by omega)).trans g1
    rw [p2, Option.bind_some, M_hs g2 (by omega), Option.bind_some]
    obtain ⟨m3, p3, w3⟩ := owM_num e2 (show n + 1 + 1 + 2 ≤ 60 by omega) (show 0 ≤ hs g l ∧ hs g l < 100 by omega)
    have e3 : m3 147 16 = ((n + 1 + 1 + (oun (hs g l)).length : Nat) : Int) := w3.1
    have hln := oun_le (hs g l)
    have g3 : m3 148 = g := (w3.2.1 148 (by omega) (by omega)).trans g2
    rw [p3, Option.bind_some, M_he g3 (by omega), Option.bind_some, ej]
    rcases B.e with h0 | h1
    · rw [if_neg (show ¬ he g l = 1 by omega), if_neg (show ¬ he g l = 1 by omega)]
      have w4 := owM.nil e3
      have ww := owM.app w1 (owM.app w2 (owM.app w3 w4))
      exact ⟨m3, rfl, ww⟩
    · rw [if_pos h1, if_pos h1]
      obtain ⟨m4, p4, w4⟩ := owM_put e3 (by omega) (show (0 : Int) ≤ 33 ∧ (33 : Int) < 65536 by omega)
      rw [p4]
      have ww := owM.app w1 (owM.app w2 (owM.app w3 w4))
      exact ⟨m4, rfl, ww⟩
/-! the three habits -/
def outl (m : jMem) (a : Int) : Option ((Int ⊕ String) × jMem) := (f_Habits_find m a 100).bind fun x6 => (f_Reg_putHabit m x6).bind fun m7 => (f_Habits_find m7 a 115).bind fun x8 => (f_Reg_putHabit m7 x8).bind fun m9 => (f_Habits_find m9 a 104).bind fun x10 => (f_Reg_putHabit m9 x10).bind fun m11 => some (.inl (m11 145 1), m11)
theorem owC_tl (W : GH g) (R : RH 1 m g) {i : Nat} (h : m 145 1 = (n : Int)) (hn : n + 15 ≤ 60) : ∃ m', outl m (i : Int) = some (.inl (m' 145 1), m') ∧ owC n (ouh g i 0 ++ (ouh g i 1 ++ ouh g i 2)) m m' := by
  have l0 := ouh_le g i 0
  have l1 := ouh_le g i 1
  have f0 : f_Habits_find m (i : Int) 100 = some (hf g (i : Int) 0) := H_find W R (t := 0) (by omega) (Or.inl rfl)
  obtain ⟨m1, p1, w1⟩ := owC_hab W R (i := i) (t := 0) h (by omega)
  have R1 := w1.rh W R
  have f1 : f_Habits_find m1 (i : Int) 115 = some (hf g (i : Int) 1) := H_find W R1 (t := 1) (by omega) (Or.inr (Or.inl rfl))
  obtain ⟨m2, p2, w2⟩ := owC_hab W R1 (i := i) (t := 1) w1.2.1 (by omega)
  have R2 := w2.rh W R1
  have f2 : f_Habits_find m2 (i : Int) 104 = some (hf g (i : Int) 2) := H_find W R2 (t := 2) (by omega) (Or.inr (Or.inr rfl))
  obtain ⟨m3, p3, w3⟩ := owC_hab W R2 (i := i) (t := 2) w2.2.1 (by omega)
  refine ⟨m3, ?_, owC.app w1 (owC.app w2 w3)⟩
  unfold outl
  rw [f0, Option.bind_some, p1, Option.bind_some, f1, Option.bind_some, p2, Option.bind_some, f2, Option.bind_some, p3, Option.bind_some]
theorem owM_tl (W : GH g) (hg : m 148 = g) {i : Nat} (h : m 147 16 = (n : Int)) (hn : n + 15 ≤ 60) : ∃ m', f_Mod_writePersonL 99999 m (i : Int) 0 = some (m' 147 16, m') ∧ owM n (ouh g i 0 ++ (ouh g i 1 ++ ouh g i 2)) m m' := by
  have l0 := ouh_le g i 0
  have l1 := ouh_le g i 1
  obtain ⟨m1, p1, w1⟩ := owM_hab W hg (i := i) (t := 0) (t' := 1) (Or.inl rfl) rfl h (by omega) 99998
  have g1 : m1 148 = g := (w1.2.1 148 (by omega) (by omega)).trans hg
  obtain ⟨m2, p2, w2⟩ := owM_hab W g1 (i := i) (t := 1) (t' := 2) (Or.inr (Or.inl rfl)) rfl w1.1 (by omega) 99997
  have g2 : m2 148 = g := (w2.2.1 148 (by omega) (by omega)).trans g1
  obtain ⟨m3, p3, w3⟩ := owM_hab W g2 (i := i) (t := 2) (t' := 3) (Or.inr (Or.inr rfl)) rfl w2.1 (by omega) 99996
  refine ⟨m3, ?_, owM.app w1 (owM.app w2 w3)⟩
  have p4 : f_Mod_writePersonL (99995 + 1) m3 (i : Int) 3 = some (m3 147 16, m3) := by
    unfold f_Mod_writePersonL
    rw [if_neg (by omega)]
  exact Eq.trans p1 (Eq.trans p2 (Eq.trans p3 p4))
/-! the parent, and the rest -/
def oupt (g : Nat → Int) (i : Nat) : List Int := (if gp g i < 0 then [] else [60] ++ oun (gp g i)) ++ (ouh g i 0 ++ (ouh g i 1 ++ ouh g i 2))
theorem owC_pt (V : GP g) (H : RP 1 m g od ps) (W : GH g) (R : RH 1 m g) {i : Nat} (hi : i < gn g) (h : m 145 1 = (n : Int)) (hn : n + 20 ≤ 60) : ∃ m', ((f_People_parent m (i : Int)).bind fun x5 => if x5 = (-1) then outl m (i : Int) else (f_Output_put m 60).bind fun m12 => (f_Output_putNumber m12 x5).bind fun m13 => outl m13 (i : Int)) = some (.inl (m' 145 1), m') ∧ owC n (oupt g i) m m' := by
  have hV := V.n
  unfold oupt
  rw [P_par V H hi, Option.bind_some]
  rcases V.f i hi with e | e
  · rw [if_pos e, if_pos (by omega)]
    obtain ⟨m1, p1, w1⟩ := owC_tl W R (i := i) h (by omega)
    exact ⟨m1, p1, w1⟩
  · rw [if_neg (by omega), if_neg (by omega)]
    obtain ⟨m1, p1, w1⟩ := owC_put h (show n < 60 by omega) (show (0 : Int) ≤ 60 ∧ (60 : Int) < 65536 by omega)
    have e1 : m1 145 1 = ((n + 1 : Nat) : Int) := w1.2.1
    obtain ⟨m2, p2, w2⟩ := owC_num e1 (show n + 1 + 2 ≤ 60 by omega) (show 0 ≤ gp g i ∧ gp g i < 100 by omega)
    have l2 := oun_le (gp g i)
    have w12 := owC.app w1 w2
    obtain ⟨m3, p3, w3⟩ := owC_tl W (w12.rh W R) (i := i) (n := n + 1 + (oun (gp g i)).length) w2.2.1 (by omega)
    have e9 : n + ([60] ++ oun (gp g i)).length = n + 1 + (oun (gp g i)).length := by
      rw [List.length_append, ← Nat.add_assoc]
      rfl
    rw [p1, Option.bind_some, p2, Option.bind_some]
    exact ⟨m3, p3, owC.app w12 (by rw [e9]; exact w3)⟩
theorem owM_pt (V : GP g) (W : GH g) (hg : m 148 = g) {i : Nat} (hi : i < gn g) (h : m 147 16 = (n : Int)) (hn : n + 20 ≤ 60) : ∃ m', ((f_Mod_parent m (i : Int)).bind fun x4 => if x4 < 0 then f_Mod_writePersonL 99999 m (i : Int) 0 else (f_Mod_writes m 60).bind fun m5 => (f_Mod_parent m5 (i : Int)).bind fun x6 => (f_Mod_writesNumber m5 x6).bind fun m7 => f_Mod_writePersonL 99999 m7 (i : Int) 0) = some (m' 147 16, m') ∧ owM n (oupt g i) m m' := by
  have hV := V.n
  unfold oupt
  rw [M_par hg (show i < 16 by omega), Option.bind_some]
  rcases V.f i hi with e | e
  · rw [if_pos (by omega), if_pos (by omega)]
    obtain ⟨m1, p1, w1⟩ := owM_tl W hg (i := i) h (by omega)
    exact ⟨m1, p1, w1⟩
  · rw [if_neg (by omega), if_neg (by omega)]
    obtain ⟨m1, p1, w1⟩ := owM_put h (show n < 60 by omega) (show (0 : Int) ≤ 60 ∧ (60 : Int) < 65536 by omega)
    have e1 : m1 147 16 = ((n + 1 : Nat) : Int) := w1.1
    have g1 : m1 148 = g := (w1.2.1 148 (by omega) (by omega)).trans hg
    obtain ⟨m2, p2, w2⟩ := owM_num e1 (show n + 1 + 2 ≤ 60 by omega) (show 0 ≤ gp g i ∧ gp g i < 100 by omega)
    have g2 : m2 148 = g := (w2.2.1 148 (by omega) (by omega)).trans g1
    have l2 := oun_le (gp g i)
    have w12 := owM.app w1 w2
    obtain ⟨m3, p3, w3⟩ := owM_tl W g2 (i := i) (n := n + 1 + (oun (gp g i)).length) w2.1 (by omega)
    have e9 : n + ([60] ++ oun (gp g i)).length = n + 1 + (oun (gp g i)).length := by
      rw [List.length_append, ← Nat.add_assoc]
      rfl
    rw [p1, Option.bind_some, M_par g1 (show i < 16 by omega), Option.bind_some, p2, Option.bind_some]
    exact ⟨m3, p3, owM.app w12 (by rw [e9]; exact w3)⟩
def oup (g : Nat → Int) (i : Nat) : List Int := oun (i : Int) ++ ((if gal g i = true then [] else [43]) ++ oupt g i)
theorem owC_per (V : GP g) (H : RP 1 m g od ps) (W : GH g) (R : RH 1 m g) {i : Nat} (hi : i < gn g) : ∃ m', f_Reg_writePerson m (i : Int) = some (.inl (m' 145 1), m') ∧ owC 0 (oup g i) (mset m 145 1 0) m' := by
  have hV := V.n
  generalize hm0 : mset m 145 1 0 = m0
  have e0 : m0 145 1 = ((0 : Nat) : Int) := by
    rw [← hm0, ms_f]
    rfl
  have B0 : BE 1 1 m m0 := BE.of fun q _ _ => by
    rw [← hm0]
    exact mset_ne (by omega)
  have R0' := R.tr B0 W
  have H0 := H.tr B0 V
  obtain ⟨m1, p1, w1⟩ := owC_num e0 (by omega) (show 0 ≤ (i : Int) ∧ (i : Int) < 100 by omega)
  have l1 := oun_le (i : Int)
  have R1 := w1.rh W R0'
  have H1 := w1.rp V H0
  have hd : f_Reg_writePerson m (i : Int) = (f_People_isLiving m1 (i : Int)).bind fun x4 => if x4 = 0 then (f_Output_put m1 43).bind fun m20 => (f_People_parent m20 (i : Int)).bind fun x5 => if x5 = (-1) then outl m20 (i : Int) else (f_Output_put m20 60).bind fun m12 => (f_Output_putNumber m12 x5).bind fun m13 => outl m13 (i : Int) else (f_People_parent m1 (i : Int)).bind fun x5 => if x5 = (-1) then outl m1 (i : Int) else (f_Output_put m1 60).bind fun m12 => (f_Output_putNumber m12 x5).bind fun m13 => outl m13 (i : Int) := by
    unfold f_Reg_writePerson f_Output_clear
    rw [RqP_in V H hi, Option.bind_some, oel_n, Option.bind_some, hm0, p1, Option.bind_some]
    rfl
  rw [hd, P_liv V H1 hi, Option.bind_some, V.al hi]
  unfold oup
  by_cases ha : gal g i = true
  · rw [if_pos ha, if_neg (by omega), if_pos ha]
    obtain ⟨m2, p2, w2⟩ := owC_pt V H1 W R1 hi (n := 0 + (oun (i : Int)).length) w1.2.1 (by omega)
    exact ⟨m2, p2, owC.app w1 w2⟩
  · rw [if_neg ha, if_pos rfl, if_neg ha]
    obtain ⟨m2, p2, w2⟩ := owC_put (n := 0 + (oun (i : Int)).length) w1.2.1 (by omega) (show (0 : Int) ≤ 43 ∧ (43 : Int) < 65536 by omega)
    obtain ⟨m3, p3, w3⟩ := owC_pt V (w2.rp V H1) W (w2.rh W R1) hi (n := 0 + (oun (i : Int)).length + 1) w2.2.1 (by omega)
    rw [p2, Option.bind_some]
    exact ⟨m3, p3, owC.app w1 (owC.app w2 w3)⟩
theorem owM_per (V : GP g) (W : GH g) (hg : m 148 = g) {i : Nat} (hi : i < gn g) : ∃ m', f_Mod_writePerson m (i : Int) = some (m' 147 16, m') ∧ owM 0 (oup g i) (mset (Fm m 0) 147 16 0) m' := by
  have hV := V.n
  have hd : f_Mod_writePerson m (i : Int) = (f_Mod_writesNumber (mset (Fm m 0) 147 16 0) (i : Int)).bind fun m2 => (f_Mod_lives m2 (i : Int)).bind fun x3 => if x3 = 0 then (f_Mod_writes m2 43).bind fun m8 => (f_Mod_parent m8 (i : Int)).bind fun x4 => if x4 < 0 then f_Mod_writePersonL 99999 m8 (i : Int) 0 else (f_Mod_writes m8 60).bind fun m5 => (f_Mod_parent m5 (i : Int)).bind fun x6 => (f_Mod_writesNumber m5 x6).bind fun m7 => f_Mod_writePersonL 99999 m7 (i : Int) 0 else (f_Mod_parent m2 (i : Int)).bind fun x4 => if x4 < 0 then f_Mod_writePersonL 99999 m2 (i : Int) 0 else (f_Mod_writes m2 60).bind fun m5 => (f_Mod_parent m5 (i : Int)).bind fun x6 => (f_Mod_writesNumber m5 x6).bind fun m7 => f_Mod_writePersonL 99999 m7 (i : Int) 0 := by
    unfold f_Mod_writePerson
    rw [M_nob_in V hg hi, Option.bind_some]
    dsimp only
    rw [if_pos rfl]
  have g0 : (mset (Fm m 0) 147 16 0) 148 = g := (mset_ne (by omega)).trans (Fz_g hg)
  rw [hd]
  generalize hm0 : mset (Fm m 0) 147 16 0 = m0 at g0
  have e0 : m0 147 16 = ((0 : Nat) : Int) := by
    rw [← hm0, ms_f]
    rfl
  obtain ⟨m1, p1, w1⟩ := owM_num e0 (by omega) (show 0 ≤ (i : Int) ∧ (i : Int) < 100 by omega)
  have l1 := oun_le (i : Int)
  have g1 : m1 148 = g := (w1.2.1 148 (by omega) (by omega)).trans g0
  rw [p1, Option.bind_some, M_liv V g1 hi, Option.bind_some, V.al hi]
  unfold oup
  by_cases ha : gal g i = true
  · rw [if_pos ha, if_neg (by omega), if_pos ha]
    obtain ⟨m2, p2, w2⟩ := owM_pt V W g1 hi (n := 0 + (oun (i : Int)).length) w1.1 (by omega)
    exact ⟨m2, p2, owM.app w1 w2⟩
  · rw [if_neg ha, if_pos rfl, if_neg ha]
    obtain ⟨m2, p2, w2⟩ := owM_put (n := 0 + (oun (i : Int)).length) w1.1 (by omega) (show (0 : Int) ≤ 43 ∧ (43 : Int) < 65536 by omega)
    have g2 : m2 148 = g := (w2.2.1 148 (by omega) (by omega)).trans g1
    obtain ⟨m3, p3, w3⟩ := owM_pt V W g2 hi (n := 0 + (oun (i : Int)).length + 1) w2.1 (by omega)
    rw [p2, Option.bind_some]
    exact ⟨m3, p3, owM.app w1 (owM.app w2 w3)⟩
/-! the line -/
def oul (par : Nat → Int) : Nat → Int → List Int
  | 0, _ => []
  | k + 1, x => if x < 0 then [] else [60] ++ (oun x ++ oul par k (par x.toNat))
theorem owC_ln (V : GP g) : ∀ (k N c n : Nat) (x : Int) (m : jMem), okx (gn g) x → muX (gp g) x ≤ k → c + k ≤ 16 → k < N → n + 3 * k ≤ 60 → m 145 1 = (n : Int) → RP 1 m g od ps → ∃ m', f_Reg_writeLineL N m x (c : Int) = some (.inl (m' 145 1), m') ∧ owC n (oul (gp g) k x) m m'
  | _, 0, _, _, _, _, _, _, _, h, _, _, _ => by omega
  | 0, N + 1, c, n, x, m, hx, hm, hc, hN, h6, h, H => by
    rcases hx.cases with rfl | ⟨i, rfl, hi⟩
    · refine ⟨m, ?_, owC.nil h (by omega)⟩
      unfold f_Reg_writeLineL
      by_cases h16 : (c : Int) < 16
      · rw [if_pos h16, if_pos rfl]
      · rw [if_neg h16]
    · have := muX_p V.f hi
      omega
  | k + 1, N + 1, c, n, x, m, hx, hm, hc, hN, h6, h, H => by
    rcases hx.cases with rfl | ⟨i, rfl, hi⟩
    · refine ⟨m, ?_, ?_⟩
      · unfold f_Reg_writeLineL
        rw [if_pos (show (c : Int) < 16 by omega), if_pos rfl]
      · unfold oul
        rw [if_pos (by omega)]
        exact owC.nil h (by omega)
    · have hV := V.n
      have hmu := muX_p V.f hi
      obtain ⟨m1, p1, w1⟩ := owC_put h (show n < 60 by omega) (show (0 : Int) ≤ 60 ∧ (60 : Int) < 65536 by omega)
      have e1 : m1 145 1 = ((n + 1 : Nat) : Int) := w1.2.1
      obtain ⟨m2, p2, w2⟩ := owC_num e1 (by omega) (show 0 ≤ (i : Int) ∧ (i : Int) < 100 by omega)
      have e2 : m2 145 1 = ((n + 1 + (oun (i : Int)).length : Nat) : Int) := w2.2.1
      have l2 := oun_le (i : Int)
      have H2 := w2.rp V (w1.rp V H)
      obtain ⟨m3, p3, w3⟩ := owC_ln V k N (c + 1) (n + 1 + (oun (i : Int)).length) (gp g i) m2 (okx_par V.f hi) (by omega) (by omega) (by omega) (by omega) e2 H2
      refine ⟨m3, ?_, ?_⟩
      · unfold f_Reg_writeLineL
        rw [if_pos (show (c : Int) < 16 by omega), if_neg (show ¬ (i : Int) = -1 by omega), p1, Option.bind_some, p2, Option.bind_some, P_par V H2 hi, Option.bind_some, jw_s (by omega)]
        exact p3
      · unfold oul
        rw [if_neg (show ¬ (i : Int) < 0 by omega), Int.toNat_natCast]
        exact owC.app w1 (owC.app w2 w3)
theorem owM_ln (V : GP g) : ∀ (k N n : Nat) (x : Int) (m : jMem), okx (gn g) x → muX (gp g) x ≤ k → k < N → n + 3 * k ≤ 60 → m 147 16 = (n : Int) → m 148 = g → ∃ m', f_Mod_writeLineL N m x = some (m' 147 16, m') ∧ owM n (oul (gp g) k x) m m'
  | _, 0, _, _, _, _, _, h, _, _, _ => by omega
  | 0, N + 1, n, x, m, hx, hm, hN, h6, h, hg => by
    rcases hx.cases with rfl | ⟨i, rfl, hi⟩
    · refine ⟨m, ?_, owM.nil h⟩
      unfold f_Mod_writeLineL
      rw [if_pos (by omega)]
    · have := muX_p V.f hi
      omega
  | k + 1, N + 1, n, x, m, hx, hm, hN, h6, h, hg => by
    rcases hx.cases with rfl | ⟨i, rfl, hi⟩
    · refine ⟨m, ?_, ?_⟩
      · unfold f_Mod_writeLineL
        rw [if_pos (by omega)]
      · unfold oul
        rw [if_pos (by omega)]
        exact owM.nil h
    · have hV := V.n
      have hmu := muX_p V.f hi
      obtain ⟨m1, p1, w1⟩ := owM_put h (show n < 60 by omega) (show (0 : Int) ≤ 60 ∧ (60 : Int) < 65536 by omega)
      have e1 : m1 147 16 = ((n + 1 : Nat) : Int) := w1.1
      obtain ⟨m2, p2, w2⟩ := owM_num e1 (by omega) (show 0 ≤ (i : Int) ∧ (i : Int) < 100 by omega)
      have e2 : m2 147 16 = ((n + 1 + (oun (i : Int)).length : Nat) : Int) := w2.1
      have l2 := oun_le (i : Int)
      have g2 : m2 148 = g := (w2.2.1 148 (by omega) (by omega)).trans ((w1.2.1 148 (by omega) (by omega)).trans hg)
      obtain ⟨m3, p3, w3⟩ := owM_ln V k N (n + 1 + (oun (i : Int)).length) (gp g i) m2 (okx_par V.f hi) (by omega) (by omega) (by omega) e2 g2
      refine ⟨m3, ?_, ?_⟩
      · unfold f_Mod_writeLineL
        rw [if_neg (show ¬ (i : Int) < 0 by omega), p1, Option.bind_some, p2, Option.bind_some, M_par g2 (show i < 16 by omega), Option.bind_some]
        exact p3
      · unfold oul
        rw [if_neg (show ¬ (i : Int) < 0 by omega), Int.toNat_natCast]
        exact owM.app w1 (owM.app w2 w3)
end Ow
/-! the calls -/
section OutCalls
variable {m m' : jMem}
/-- the invariant, behind an output -/
theorem IV.ou (I : IV m) (k : ∀ q, q ≠ 145 → q ≠ 146 → q ≠ 147 → q ≠ 153 → q ≠ 155 → m' q = m q) (k7 : ∀ j, j ≠ 7 → j ≠ 8 → j ≠ 16 → m' 147 j = m 147 j) (O : OU m') : IV m' := by
  obtain ⟨i1, ⟨d, nx, a1, a2, a3, a4, a5, a6⟩, ⟨t1, t2, t3⟩, ⟨s1, s2⟩, iJ, -, iC, i8⟩ := I
  have far : ∀ q, (q < 145 ∨ (147 < q ∧ q < 153)) → m' q = m q := fun q hq => k q (by omega) (by omega) (by omega) (by omega) (by omega)
  have bl : ∀ b, b ≤ 127 → BE b b m m' := fun b hb => BE.of fun q h1 h2 => far q (by omega)
  refine ⟨?_, ⟨d, nx, ?_, a2, ?_, ?_, a5, fun j hj => ?_⟩, ⟨t1.tr (bl 1 (by omega)), t2.tr (bl 127 (by omega)), fun s hs => (t3 s hs).tr (bl _ (by omega))⟩, ⟨?_, fun hz => ?_⟩, ?_, O, ?_, ?_⟩
  · rw [far 148 (by omega)]
    exact i1.tr (bl 1 (by omega))
  · rw [far 17 (by omega)]; exact a1
  · rw [far 17 (by omega)]; exact a3
  · rw [k7 5 (by omega) (by omega) (by omega)]; exact a4
  · rw [far 149 (by omega)]
    have h9 := Nat.mod_lt (nx + 8 - j) (show 9 > 0 by omega)
    exact (a6 j hj).tr (bl _ (by omega))
  · rw [far 0 (by omega), k7 4 (by omega) (by omega) (by omega)]; exact s1
  · rw [far 0 (by omega)] at hz
    rw [far 150 (by omega)]
    exact (s2 hz).tr (bl 127 (by omega))
  · unfold RJ
    rw [far 0 (by omega), k7 9 (by omega) (by omega) (by omega), k7 10 (by omega) (by omega) (by omega), k7 14 (by omega) (by omega) (by omega), k7 11 (by omega) (by omega) (by omega)]
    exact iJ
  · unfold SC
    rw [far 139 (by omega), far 140 (by omega), far 152 (by omega), k7 13 (by omega) (by omega) (by omega)]
    exact iC
  · rw [k7 6 (by omega) (by omega) (by omega)]; exact i8
/-- both sides have written the same -/
theorem Qou (I : IV m) {A : Option (Int × jMem)} {B : jMem → Option (Int × jMem)} {L : List Int} {m1 : jMem} (w : owC 0 L (mset m 145 1 0) m1) (hA : A = some (0, mset m1 155 0 (m1 145 1))) (hB : ∃ m2, B (mset m1 155 0 (m1 145 1)) = some (m2 147 16, m2) ∧ owM 0 L (mset (Fm (mset m1 155 0 (m1 145 1)) 0) 147 16 0) m2) : Qok A B := by
  obtain ⟨m2, e2, w2⟩ := hB
  obtain ⟨c0, c1, c2, c3, c4⟩ := w
  obtain ⟨b1, b2, b3, b4, b5⟩ := w2
  have v0 : m2 147 16 = m1 145 1 := b1.trans c1.symm
  have k2 : ∀ q, q ≠ 147 → q ≠ 153 → q ≠ 155 → m2 q = m1 q := fun q h1 h2 h3 => by
    rw [b2 q h1 h2, mset_ne h1, Fm_row h1, mset_ne h3]
  refine ⟨0, _, _, m2, hA, e2, ?_, fun _ => ?_, I.ou (fun q h1 h2 h3 h4 h5 => ?_) (fun j h1 h2 h3 => ?_) ⟨L.length, by omega, ?_, ?_, fun i hi => ?_⟩⟩
  · rw [b3 8 (by omega), ms_g (by omega), Fm_8]
  · rw [b2 155 (by omega) (by omega), mset_ne (by omega), Fm_row (by omega), ms_f, v0]
  · rw [k2 q h3 h4 h5, c2 q h1 h2, mset_ne h1]
  · rw [b3 j h3, ms_g h3, Fm_j h1 h2, ms_o (by omega), c2 147 (by omega) (by omega), ms_o (by omega)]
  · rw [k2 145 (by omega) (by omega) (by omega), c1, Nat.zero_add]
  · rw [b1, Nat.zero_add]
  · have e := List.getElem?_eq_getElem hi
    obtain ⟨x1, x2, x3⟩ := c4 i _ e
    have y1 := b5 i _ e
    rw [Nat.zero_add] at x1 y1
    rw [k2 146 (by omega) (by omega) (by omega), x1, y1]
    exact ⟨rfl, x2, x3⟩
theorem q_writePerson (I : IV m) (a : Int) : Qok (f_Law_writePerson m a) (fun m1 => f_Mod_writePerson m1 a) := by
  obtain ⟨od, ps, H, R, Y, V, W, L⟩ := I.g
  by_cases h : 0 ≤ a ∧ a < m 148 0
  · obtain ⟨i, rfl, hi⟩ := pin V h
    obtain ⟨m1, e1, w1⟩ := owC_per V H W R hi
    have g1 : (mset m1 155 0 (m1 145 1)) 148 = m 148 := by
      rw [mset_ne (by omega), w1.2.2.1 148 (by omega) (by omega), mset_ne (by omega)]
    exact Qou I w1 (LwritePerson_i e1) (owM_per V W g1 hi)
  · refine Qc (v := 0) I (show (1 : Int) ≠ 0 by omega) (LwritePerson_e1 (m' := m) ?_) ?_ (MQr.F _ 1)
    · unfold f_Reg_writePerson
      rw [RqP_out V H h, Option.bind_some, oel_s]
    · show f_Mod_writePerson _ _ = _
      unfold f_Mod_writePerson
      rw [M_nob_out V rfl h, Option.bind_some]
      dsimp only
      rw [if_neg (by omega)]
theorem q_writeLine (I : IV m) (a : Int) : Qok (f_Law_writeLine m a) (fun m1 => f_Mod_writeLine m1 a) := by
  obtain ⟨od, ps, H, R, Y, V, W, L⟩ := I.g
  have hV := V.n
  by_cases h : 0 ≤ a ∧ a < m 148 0
  · obtain ⟨i, rfl, hi⟩ := pin V h
    have hmu := muX_par V hi
    have l1 := oun_le (i : Int)
    have hC : ∃ m1, f_Reg_writeLine m (i : Int) = some (.inl (m1 145 1), m1) ∧ owC 0 (oun (i : Int) ++ oul (gp (m 148)) 15 (gp (m 148) i)) (mset m 145 1 0) m1 := by
      have B0 : BE 1 1 m (mset m 145 1 0) := BE.of fun q _ _ => mset_ne (by omega)
      have H0 := H.tr B0 V
      have e0 : (mset m 145 1 0) 145 1 = ((0 : Nat) : Int) := ms_f
      obtain ⟨m1, p1, w1⟩ := owC_num e0 (by omega) (show 0 ≤ (i : Int) ∧ (i : Int) < 100 by omega)
      have H1 := w1.rp V H0
      obtain ⟨m2, p2, w2⟩ := owC_ln V 15 99999 0 (0 + (oun (i : Int)).length) (gp (m 148) i) m1 (okx_par V.f hi) (by omega) (by omega) (by omega) (by omega) w1.2.1 H1
      refine ⟨m2, ?_, owC.app w1 w2⟩
      unfold f_Reg_writeLine f_Output_clear
      rw [RqP_in V H hi, Option.bind_some, oel_n, Option.bind_some, p1, Option.bind_some, P_par V H1 hi, Option.bind_some]
      exact p2
    obtain ⟨m1, e1, w1⟩ := hC
    have g1 : (mset m1 155 0 (m1 145 1)) 148 = m 148 := by
      rw [mset_ne (by omega), w1.2.2.1 148 (by omega) (by omega), mset_ne (by omega)]
    refine Qou I w1 (LwriteLine_i e1) ?_
    generalize mset m1 155 0 (m1 145 1) = mA at g1
    have g2 : (mset (Fm mA 0) 147 16 0) 148 = m 148 := (mset_ne (by omega)).trans (Fz_g g1)
    have e0 : (mset (Fm mA 0) 147 16 0) 147 16 = ((0 : Nat) : Int) := ms_f
    obtain ⟨m3, p3, w3⟩ := owM_num e0 (by omega) (show 0 ≤ (i : Int) ∧ (i : Int) < 100 by omega)
    have g3 : m3 148 = m 148 := (w3.2.1 148 (by omega) (by omega)).trans g2
    obtain ⟨m4, p4, w4⟩ := owM_ln V 15 99999 (0 + (oun (i : Int)).length) (gp (m 148) i) m3 (okx_par V.f hi) (by omega) (by omega) (by omega) w3.1 g3
    refine ⟨m4, ?_, owM.app w3 w4⟩
    show f_Mod_writeLine _ _ = _
    unfold f_Mod_writeLine
    rw [M_nob_in V g1 hi, Option.bind_some]
    dsimp only
    rw [if_pos rfl, p3, Option.bind_some, M_par g3 (show i < 16 by omega), Option.bind_some]
    exact p4
  · refine Qc (v := 0) I (show (1 : Int) ≠ 0 by omega) (LwriteLine_e1 (m' := m) ?_) ?_ (MQr.F _ 1)
    · unfold f_Reg_writeLine
      rw [RqP_out V H h, Option.bind_some, oel_s]
    · show f_Mod_writeLine _ _ = _
      unfold f_Mod_writeLine
      rw [M_nob_out V rfl h, Option.bind_some]
      dsimp only
      rw [if_neg (by omega)]
end OutCalls

/-! ===== blocks and rows: copies ===== -/
theorem ms_o {m : jMem} {q j : Nat} {x : Int} {q' j' : Nat} (h : q' ≠ q) : mset m q j x q' j' = m q' j' := congrFun (mset_ne h) j'
theorem ms_s {m : jMem} {q j : Nat} {x : Int} {j' : Nat} : mset m q j x q j' = if j' = j then x else m q j' := congrFun mset_row j'
theorem ms_f {m : jMem} {q j : Nat} {x : Int} : mset m q j x q j = x := ms_s.trans (if_pos rfl)
theorem ms_g {m : jMem} {q j j' : Nat} {x : Int} (h : j' ≠ j) : mset m q j x q j' = m q j' := ms_s.trans (if_neg h)
/-- the block b' of m' is the block b of m -/
def BE (b b' : Nat) (m m' : jMem) : Prop :=
  m' b' 2 = m b 2 ∧ m' (b' + 1) 4 = m (b + 1) 4 ∧
  (∀ j, j < 16 → m' (b' + 2) j = m (b + 2) j ∧ m' (b' + 3) j = m (b + 3) j ∧ m' (b' + 4) j = m (b + 4) j ∧ m' (b' + 5) j = m (b + 5) j) ∧
  (m' (b' + 6) 5 = m (b + 6) 5 ∧ m' (b' + 6) 6 = m (b + 6) 6 ∧ m' (b' + 6) 7 = m (b + 6) 7 ∧ m' (b' + 6) 8 = m (b + 6) 8) ∧
  ∀ j, j < 20 → m' (b' + 7) j = m (b + 7) j ∧ m' (b' + 8) j = m (b + 8) j ∧ m' (b' + 9) j = m (b + 9) j ∧ m' (b' + 10) j = m (b + 10) j ∧ m' (b' + 11) j = m (b + 11) j
theorem BE.of {b : Nat} {m m' : jMem} (h : ∀ q, b ≤ q → q < b + 12 → m' q = m q) : BE b b m m' := by
  unfold BE
  rw [h b (by omega) (by omega), h (b + 1) (by omega) (by omega), h (b + 2) (by omega) (by omega), h (b + 3) (by omega) (by omega), h (b + 4) (by omega) (by omega), h (b + 5) (by omega) (by omega), h (b + 6) (by omega) (by omega), h (b + 7) (by omega) (by omega), h (b + 8) (by omega) (by omega), h (b + 9) (by omega) (by omega), h (b + 10) (by omega) (by omega), h (b + 11) (by omega) (by omega)]
  exact ⟨rfl, rfl, fun _ _ => ⟨rfl, rfl, rfl, rfl⟩, ⟨rfl, rfl, rfl, rfl⟩, fun _ _ => ⟨rfl, rfl, rfl, rfl, rfl⟩⟩
/-- what the machine's arrays hold, used or not -/
def TY (b : Nat) (m : jMem) : Prop := (∀ j, j < 16 → m (b + 4) j = 0 ∨ m (b + 4) j = 1) ∧ ∀ j, j < 20 → (0 ≤ m (b + 7) j ∧ m (b + 7) j < 65536) ∧ (m (b + 10) j = 0 ∨ m (b + 10) j = 1) ∧ (m (b + 11) j = 0 ∨ m (b + 11) j = 1)
theorem TY.tr {b b' : Nat} {m m' : jMem} (h : BE b b' m m') (T : TY b m) : TY b' m' := by
  refine ⟨fun j hj => ?_, fun j hj => ?_⟩
  · rw [(h.2.2.1 j hj).2.2.1]
    exact T.1 j hj
  · obtain ⟨e1, e2, e3, e4, e5⟩ := h.2.2.2.2 j hj
    rw [e1, e4, e5]
    exact T.2 j hj
/-- the block b is the row g, and that is a right state -/
def RS (b : Nat) (m : jMem) (g : Nat → Int) : Prop := ∃ od ps, RP b m g od ps ∧ RH b m g ∧ m b 2 = g 2 ∧ GP g ∧ GH g ∧ GL g
theorem RP.tr {b b' : Nat} {m m' : jMem} {g : Nat → Int} {od ps : Nat → Nat} (h : BE b b' m m') (V : GP g) (H : RP b m g od ps) : RP b' m' g od ps := by
  have hn := V.n
  refine ⟨h.2.1.trans H.1, fun i hi => ?_, H.2.2⟩
  obtain ⟨e1, e2, e3, e4⟩ := h.2.2.1 i (by omega)
  rw [e1, e2, e3, e4]
  exact H.2.1 i hi
theorem RH.tr {b b' : Nat} {m m' : jMem} {g : Nat → Int} (h : BE b b' m m') (W : GH g) (R : RH b m g) : RH b' m' g := by
  have hn := W.n
  obtain ⟨f1, f2, f3, f4⟩ := h.2.2.2.1
  refine ⟨⟨f1.trans R.1.1, f2.trans R.1.2.1, f3.trans R.1.2.2.1, f4.trans R.1.2.2.2⟩, fun k hk => ?_⟩
  obtain ⟨e1, e2, e3, e4, e5⟩ := h.2.2.2.2 k (by omega)
  rw [e1, e2, e3, e4, e5]
  exact R.2 k hk
theorem RS.tr {b b' : Nat} {m m' : jMem} {g : Nat → Int} (h : BE b b' m m') (S : RS b m g) : RS b' m' g := by
  obtain ⟨od, ps, H, R, Y, V, W, L⟩ := S
  exact ⟨od, ps, H.tr h V, R.tr h W, h.1.trans Y, V, W, L⟩
theorem RS.cg {b : Nat} {m : jMem} {g g' : Nat → Int} (e : ∀ j, j < 138 → g' j = g j) (S : RS b m g) : RS b m g' := by
  obtain ⟨od, ps, H, R, Y, V, W, L⟩ := S
  have hn := V.n
  have hw := W.n
  have n1 : gn g' = gn g := by unfold gn; rw [e 0 (by omega)]
  have n2 : hN g' = hN g := by unfold hN; rw [e 1 (by omega)]
  have p1 : ∀ i, i < 16 → gp g' i = gp g i := fun i hi => congrFun (gp_cg fun j _ _ => e j (by omega)) i
  have p2 : ∀ i, i < 16 → ga g' i = ga g i := fun i hi => congrFun (ga_cg fun j _ _ => e j (by omega)) i
  have p3 : ∀ i, i < 16 → gal g' i = gal g i := fun i hi => by unfold gal; rw [p2 i hi]
  have k1 : ∀ k, k < 20 → hh g' k = hh g k := fun k h => e _ (by omega)
  have k2 : ∀ k, k < 20 → hk g' k = hk g k := fun k h => e _ (by omega)
  have k3 : ∀ k, k < 20 → hs g' k = hs g k := fun k h => e _ (by omega)
  have k4 : ∀ k, k < 20 → he g' k = he g k := fun k h => e _ (by omega)
  have k5 : ∀ k, k < 20 → hpr g' k = hpr g k := fun k h => e _ (by omega)
  have ep : ∀ i, i < gn g → gp g' i = gp g i := fun i hi => p1 i (by omega)
  refine ⟨od, ps, ⟨?_, fun i hi => ?_, ?_⟩, ⟨?_, fun k hk => ?_⟩, ?_, ⟨?_, ?_, ?_, fun i hi => ?_⟩, ⟨?_, fun k hk => ?_, fun k l hk hl => ?_, ?_⟩, fun k hk => ?_⟩
  · rw [e 0 (by omega)]; exact H.1
  · rw [n1] at hi
    rw [p1 i (by omega), p2 i (by omega), dp_congr V.f ep i hi]
    exact H.2.1 i hi
  · rw [n1]
    exact OD_congr V.f ep H.2.2
  · rw [e 1 (by omega), e 3 (by omega), e 4 (by omega), e 5 (by omega)]
    exact R.1
  · rw [n2] at hk
    rw [k1 k (by omega), k2 k (by omega), k3 k (by omega), k4 k (by omega), k5 k (by omega)]
    exact R.2 k hk
  · rw [e 2 (by omega)]; exact Y
  · rw [e 0 (by omega)]; exact V.1
  · rw [e 0 (by omega)]; exact V.2.1
  · rw [n1]; exact fvp_congr V.f ep
  · rw [n1] at hi
    rw [p2 i (by omega)]
    exact V.2.2.2 i hi
  · rw [e 1 (by omega)]; exact W.1
  · rw [n2] at hk
    unfold HB
    rw [n1, k1 k (by omega), k2 k (by omega), k3 k (by omega), k4 k (by omega), k5 k (by omega)]
    exact W.2.1 k hk
  · rw [n2] at hk hl
    rw [k1 k (by omega), k1 l (by omega), k2 k (by omega), k2 l (by omega)]
    exact W.2.2.1 k l hk hl
  · rw [n2, e 3 (by omega), e 4 (by omega), e 5 (by omega), cntF_congr idn (fun k => !hld g' k) (fun k => !hld g k) (hN g) 0 (fun r _ hr => by
      show (!decide (0 ≤ hh g' r)) = (!decide (0 ≤ hh g r))
      rw [k1 r (by omega)])]
    exact W.2.2.2
  · rw [n2] at hk
    rw [k1 k (by omega)]
    intro h0
    have hb := (W.hb hk).h
    have h1 : (hh g k).toNat < 16 := by
      rcases hb with h2 | h2
      · omega
      · omega
    rw [p3 _ h1]
    exact L k hk h0
section Copy
variable {b1 b2 : Nat}
theorem C_pL (hd : b1 + 12 ≤ b2 ∨ b2 + 12 ≤ b1) : ∀ (k a N : Nat) (m : jMem), a + k = 16 → k < N → TY b2 m → ∃ m', f_People_copyFromL N m b1 b2 (a : Int) = some m' ∧ (∀ q, (q ≤ b1 ∨ b1 + 6 ≤ q) → m' q = m q) ∧ m' (b1 + 1) 4 = m (b2 + 1) 4 ∧ ∀ j, j < 16 → m' (b1 + 2) j = (if a ≤ j then m (b2 + 2) j else m (b1 + 2) j) ∧ m' (b1 + 3) j = (if a ≤ j then m (b2 + 3) j else m (b1 + 3) j) ∧ m' (b1 + 4) j = (if a ≤ j then m (b2 + 4) j else m (b1 + 4) j) ∧ m' (b1 + 5) j = (if a ≤ j then m (b2 + 5) j else m (b1 + 5) j)
  | _, _, 0, _, _, h, _ => by omega
  | 0, a, N + 1, m, ha, _, _ => by
    refine ⟨mset m (b1 + 1) 4 (m (b2 + 1) 4), ?_, fun q hq => mset_ne (by omega), ms_f, fun j hj => ?_⟩
    · unfold f_People_copyFromL
      rw [if_neg (by omega)]
    · rw [if_neg (by omega), if_neg (by omega), if_neg (by omega), if_neg (by omega), ms_o (by omega), ms_o (by omega), ms_o (by omega), ms_o (by omega)]
      exact ⟨rfl, rfl, rfl, rfl⟩
  | k + 1, a, N + 1, m, ha, hN, T => by
    have ha' : a < 16 := by omega
    generalize hs : mset (mset (mset (mset m (b1 + 2) a (m (b2 + 2) a)) (b1 + 3) a (m (b2 + 3) a)) (b1 + 4) a (m (b2 + 4) a)) (b1 + 5) a (m (b2 + 5) a) = s
    have r0 : ∀ q, (q ≤ b1 + 1 ∨ b1 + 6 ≤ q) → s q = m q := fun q hq => by
      rw [← hs, mset_ne (by omega), mset_ne (by omega), mset_ne (by omega), mset_ne (by omega)]
    have r2 : ∀ j, s (b1 + 2) j = if j = a then m (b2 + 2) a else m (b1 + 2) j := fun j => by
      rw [← hs, ms_o (by omega), ms_o (by omega), ms_o (by omega), ms_s]
    have r3 : ∀ j, s (b1 + 3) j = if j = a then m (b2 + 3) a else m (b1 + 3) j := fun j => by
      rw [← hs, ms_o (by omega), ms_o (by omega), ms_s, ms_o (by omega)]
    have r4 : ∀ j, s (b1 + 4) j = if j = a then m (b2 + 4) a else m (b1 + 4) j := fun j => by
      rw [← hs, ms_o (by omega), ms_s, ms_o (by omega), ms_o (by omega)]
    have r5 : ∀ j, s (b1 + 5) j = if j = a then m (b2 + 5) a else m (b1 + 5) j := fun j => by
      rw [← hs, ms_s, ms_o (by omega), ms_o (by omega), ms_o (by omega)]
    obtain ⟨m', e, h1, h2, h3⟩ := C_pL hd k (a + 1) N s (by omega) (by omega) (by
      unfold TY
      rw [r0 (b2 + 4) (by omega), r0 (b2 + 7) (by omega), r0 (b2 + 10) (by omega), r0 (b2 + 11) (by omega)]
      exact T)
    refine ⟨m', ?_, fun q hq => (h1 q hq).trans (r0 q (by omega)), h2.trans (by rw [r0 _ (by omega)]), fun j hj => ?_⟩
    · rw [← e, ← hs]
      conv => lhs; unfold f_People_copyFromL
      rw [if_pos (show (a : Int) < 16 by omega)]
      simp only [oix_n ha', Int.toNat_natCast]
      simp (disch := omega) only [ms_o]
      rw [obt_i (T.1 a ha'), jw_s (by omega)]
    · obtain ⟨g2, g3, g4, g5⟩ := h3 j hj
      rw [g2, g3, g4, g5, r2, r3, r4, r5, r0 (b2 + 2) (by omega), r0 (b2 + 3) (by omega), r0 (b2 + 4) (by omega), r0 (b2 + 5) (by omega)]
      by_cases c : j = a
      · subst c
        simp
      · by_cases c2 : a ≤ j
        · simp [c, c2, show a + 1 ≤ j by omega]
        · simp [c, c2, show ¬ a + 1 ≤ j by omega]
theorem C_hL (hd : b1 + 12 ≤ b2 ∨ b2 + 12 ≤ b1) : ∀ (k a N : Nat) (m : jMem), a + k = 20 → k < N → TY b2 m → ∃ m', f_Habits_copyFromL N m b1 b2 (a : Int) = some m' ∧ (∀ q, (q ≤ b1 + 5 ∨ b1 + 12 ≤ q) → m' q = m q) ∧ (m' (b1 + 6) 5 = m (b2 + 6) 5 ∧ m' (b1 + 6) 6 = m (b2 + 6) 6 ∧ m' (b1 + 6) 7 = m (b2 + 6) 7 ∧ m' (b1 + 6) 8 = m (b2 + 6) 8) ∧ ∀ j, j < 20 → m' (b1 + 7) j = (if a ≤ j then m (b2 + 7) j else m (b1 + 7) j) ∧ m' (b1 + 8) j = (if a ≤ j then m (b2 + 8) j else m (b1 + 8) j) ∧ m' (b1 + 9) j = (if a ≤ j then m (b2 + 9) j else m (b1 + 9) j) ∧ m' (b1 + 10) j = (if a ≤ j then m (b2 + 10) j else m (b1 + 10) j) ∧ m' (b1 + 11) j = (if a ≤ j then m (b2 + 11) j else m (b1 + 11) j)
  | _, _, 0, _, _, h, _ => by omega
  | 0, a, N + 1, m, ha, _, _ => by
    refine ⟨mset (mset (mset (mset m (b1 + 6) 5 (m (b2 + 6) 5)) (b1 + 6) 6 (m (b2 + 6) 6)) (b1 + 6) 7 (m (b2 + 6) 7)) (b1 + 6) 8 (m (b2 + 6) 8), ?_, fun q hq => ?_, ?_, fun j hj => ?_⟩
    · unfold f_Habits_copyFromL
      rw [if_neg (by omega)]
      simp (disch := omega) only [ms_o]
    · rw [mset_ne (by omega), mset_ne (by omega), mset_ne (by omega), mset_ne (by omega)]
    · refine ⟨?_, ?_, ?_, ms_f⟩
      · rw [ms_g (by omega), ms_g (by omega), ms_g (by omega), ms_f]
      · rw [ms_g (by omega), ms_g (by omega), ms_f]
      · rw [ms_g (by omega), ms_f]
    · rw [if_neg (by omega), if_neg (by omega), if_neg (by omega), if_neg (by omega), if_neg (by omega)]
      simp (disch := omega) only [ms_o]
      exact ⟨trivial, trivial, trivial, trivial, trivial⟩
  | k + 1, a, N + 1, m, ha, hN, T => by
    have ha' : a < 20 := by omega
    generalize hs : mset (mset (mset (mset (mset m (b1 + 7) a (m (b2 + 7) a)) (b1 + 8) a (m (b2 + 8) a)) (b1 + 9) a (m (b2 + 9) a)) (b1 + 10) a (m (b2 + 10) a)) (b1 + 11) a (m (b2 + 11) a) = s
    have r0 : ∀ q, (q ≤ b1 + 6 ∨ b1 + 12 ≤ q) → s q = m q := fun q hq => by
      rw [← hs, mset_ne (by omega), mset_ne (by omega), mset_ne (by omega), mset_ne (by omega), mset_ne (by omega)]
    have r7 : ∀ j, s (b1 + 7) j = if j = a then m (b2 + 7) a else m (b1 + 7) j := fun j => by
      rw [← hs, ms_o (by omega), ms_o (by omega), ms_o (by omega), ms_o (by omega), ms_s]
    have r8 : ∀ j, s (b1 + 8) j = if j = a then m (b2 + 8) a else m (b1 + 8) j := fun j => by
      rw [← hs, ms_o (by omega), ms_o (by omega), ms_o (by omega), ms_s, ms_o (by omega)]
    have r9 : ∀ j, s (b1 + 9) j = if j = a then m (b2 + 9) a else m (b1 + 9) j := fun j => by
      rw [← hs, ms_o (by omega), ms_o (by omega), ms_s, ms_o (by omega), ms_o (by omega)]
    have r10 : ∀ j, s (b1 + 10) j = if j = a then m (b2 + 10) a else m (b1 + 10) j := fun j => by
      rw [← hs, ms_o (by omega), ms_s, ms_o (by omega), ms_o (by omega), ms_o (by omega)]
    have r11 : ∀ j, s (b1 + 11) j = if j = a then m (b2 + 11) a else m (b1 + 11) j := fun j => by
      rw [← hs, ms_s, ms_o (by omega), ms_o (by omega), ms_o (by omega), ms_o (by omega)]
    obtain ⟨m', e, h1, h2, h3⟩ := C_hL hd k (a + 1) N s (by omega) (by omega) (by
      unfold TY
      rw [r0 (b2 + 4) (by omega), r0 (b2 + 7) (by omega), r0 (b2 + 10) (by omega), r0 (b2 + 11) (by omega)]
      exact T)
    refine ⟨m', ?_, fun q hq => (h1 q hq).trans (r0 q (by omega)), ?_, fun j hj => ?_⟩
    · rw [← e, ← hs]
      conv => lhs; unfold f_Habits_copyFromL
      rw [if_pos (show (a : Int) < 20 by omega)]
      simp only [oix_n ha', Int.toNat_natCast]
      simp (disch := omega) only [ms_o]
      obtain ⟨t1, t2, t3⟩ := T.2 a ha'
      rw [och_i t1, obt_i t2, obt_i t3, jw_s (by omega)]
    · rw [h2.1, h2.2.1, h2.2.2.1, h2.2.2.2, r0 (b2 + 6) (by omega)]
      exact ⟨rfl, rfl, rfl, rfl⟩
    · obtain ⟨g2, g3, g4, g5, g6⟩ := h3 j hj
      rw [g2, g3, g4, g5, g6, r7, r8, r9, r10, r11, r0 (b2 + 7) (by omega), r0 (b2 + 8) (by omega), r0 (b2 + 9) (by omega), r0 (b2 + 10) (by omega), r0 (b2 + 11) (by omega)]
      by_cases c : j = a
      · subst c
        simp
      · by_cases c2 : a ≤ j
        · simp [c, c2, show a + 1 ≤ j by omega]
        · simp [c, c2, show ¬ a + 1 ≤ j by omega]
theorem C_st {m : jMem} (h1 : isSt b1 = true) (h2 : isSt b2 = true) (hd : b1 + 12 ≤ b2 ∨ b2 + 12 ≤ b1) (T : TY b2 m) : ∃ m', f_State_copyFrom m b1 b2 = some m' ∧ BE b2 b1 m m' ∧ ∀ q, (q < b1 ∨ b1 + 12 ≤ q) → m' q = m q := by
  obtain ⟨m1, e1, p1, p2, p3⟩ := C_pL hd 16 0 99999 m (by omega) (by omega) T
  have T1 : TY b2 m1 := T.tr (BE.of fun q a b => p1 q (by omega))
  obtain ⟨m2, e2, q1, q2, q3⟩ := C_hL hd 20 0 99999 m1 (by omega) (by omega) T1
  have e1' : f_People_copyFromL 99999 m b1 b2 0 = some m1 := e1
  have e2' : f_Habits_copyFromL 99999 m1 b1 b2 0 = some m2 := e2
  have o2 : ∀ r, r < 12 → m2 (b2 + r) = m (b2 + r) := fun r hr => (q1 _ (by omega)).trans (p1 _ (by omega))
  have o1 : ∀ r, r < 12 → m1 (b2 + r) = m (b2 + r) := fun r hr => p1 _ (by omega)
  refine ⟨mset m2 b1 2 (m2 b2 2), ?_, ⟨?_, ?_, fun j hj => ?_, ?_, fun j hj => ?_⟩, fun q hq => ?_⟩
  · unfold f_State_copyFrom oS
    rw [if_pos h1, if_pos h2, e1', Option.bind_some, e2', Option.bind_some]
  · rw [ms_f]
    exact congrFun (o2 0 (by omega)) 2
  · rw [ms_o (by omega), q1 _ (by omega), p2]
  · obtain ⟨g2, g3, g4, g5⟩ := p3 j hj
    rw [ms_o (by omega), ms_o (by omega), ms_o (by omega), ms_o (by omega), q1 (b1 + 2) (by omega), q1 (b1 + 3) (by omega), q1 (b1 + 4) (by omega), q1 (b1 + 5) (by omega), g2, g3, g4, g5]
    exact ⟨if_pos (by omega), if_pos (by omega), if_pos (by omega), if_pos (by omega)⟩
  · rw [ms_o (by omega), ms_o (by omega), ms_o (by omega), ms_o (by omega), q2.1, q2.2.1, q2.2.2.1, q2.2.2.2, o1 6 (by omega)]
    exact ⟨rfl, rfl, rfl, rfl⟩
  · obtain ⟨g2, g3, g4, g5, g6⟩ := q3 j hj
    rw [ms_o (by omega), ms_o (by omega), ms_o (by omega), ms_o (by omega), ms_o (by omega), g2, g3, g4, g5, g6, o1 7 (by omega), o1 8 (by omega), o1 9 (by omega), o1 10 (by omega), o1 11 (by omega)]
    exact ⟨if_pos (by omega), if_pos (by omega), if_pos (by omega), if_pos (by omega), if_pos (by omega)⟩
  · rw [mset_ne (by omega), q1 _ (by omega), p1 _ (by omega)]
end Copy
theorem isSt_1 : isSt 1 = true := by decide +kernel
theorem isSt_127 : isSt 127 = true := by decide +kernel
theorem isSt_slot : ∀ s, s < 9 → isSt (19 + 12 * s) = true := by decide +kernel
/-! the model's copies of a row -/
theorem K148_149L (o1 o2 : Nat) (h1 : o1 + 138 ≤ 138) (h2 : o2 + 138 ≤ 1104) : ∀ (k a N : Nat) (m : jMem), a + k = 138 → k < N → ∃ m', f_Mod_copies_148_149L N m (o1 : Int) (o2 : Int) (a : Int) = some m' ∧ (∀ q, q ≠ 149 → m' q = m q) ∧ ∀ j, m' 149 j = if o2 + a ≤ j ∧ j < o2 + 138 then m 148 (o1 + (j - o2)) else m 149 j
  | _, _, 0, _, _, h => by omega
  | 0, a, N + 1, m, ha, _ => by
    refine ⟨m, ?_, fun _ _ => rfl, fun j => (if_neg (by omega)).symm⟩
    unfold f_Mod_copies_148_149L
    rw [if_neg (by omega)]
  | k + 1, a, N + 1, m, ha, hN => by
    obtain ⟨m', e, f1, f2⟩ := K148_149L o1 o2 h1 h2 k (a + 1) N (mset m 149 (o2 + a) (m 148 (o1 + a))) (by omega) (by omega)
    refine ⟨m', ?_, fun q hq => (f1 q hq).trans (mset_ne hq), fun j => ?_⟩
    · rw [← e]
      conv => lhs; unfold f_Mod_copies_148_149L
      rw [if_pos (show (a : Int) < 138 by omega), jw_e (y := ((o1 + a : Nat) : Int)) (by omega) (by omega) (by omega), jw_e (y := ((o2 + a : Nat) : Int)) (by omega) (by omega) (by omega), oix_n (by omega), oix_n (by omega), Int.toNat_natCast, Int.toNat_natCast, jw_s (by omega)]
    · rw [f2, ms_s, ms_o (by decide)]
      by_cases c : j = o2 + a
      · rw [if_neg (by omega), if_pos c, if_pos (by omega), c, show o2 + a - o2 = a by omega]
      · rw [if_neg c]
        by_cases c2 : o2 + a ≤ j ∧ j < o2 + 138
        · rw [if_pos (by omega), if_pos c2]
        · rw [if_neg (by omega), if_neg c2]
theorem K148_149 (o1 o2 : Nat) (h1 : o1 + 138 ≤ 138) (h2 : o2 + 138 ≤ 1104) (m : jMem) : ∃ m', f_Mod_copies_148_149 m (o1 : Int) (o2 : Int) = some m' ∧ (∀ q, q ≠ 149 → m' q = m q) ∧ ∀ j, m' 149 j = if o2 ≤ j ∧ j < o2 + 138 then m 148 (o1 + (j - o2)) else m 149 j := K148_149L o1 o2 h1 h2 138 0 99999 m (by omega) (by omega)
theorem K148_151L (o1 o2 : Nat) (h1 : o1 + 138 ≤ 138) (h2 : o2 + 138 ≤ 138) : ∀ (k a N : Nat) (m : jMem), a + k = 138 → k < N → ∃ m', f_Mod_copies_148_151L N m (o1 : Int) (o2 : Int) (a : Int) = some m' ∧ (∀ q, q ≠ 151 → m' q = m q) ∧ ∀ j, m' 151 j = if o2 + a ≤ j ∧ j < o2 + 138 then m 148 (o1 + (j - o2)) else m 151 j
  | _, _, 0, _, _, h => by omega
  | 0, a, N + 1, m, ha, _ => by
    refine ⟨m, ?_, fun _ _ => rfl, fun j => (if_neg (by omega)).symm⟩
    unfold f_Mod_copies_148_151L
    rw [if_neg (by omega)]
  | k + 1, a, N + 1, m, ha, hN => by
    obtain ⟨m', e, f1, f2⟩ := K148_151L o1 o2 h1 h2 k (a + 1) N (mset m 151 (o2 + a) (m 148 (o1 + a))) (by omega) (by omega)
    refine ⟨m', ?_, fun q hq => (f1 q hq).trans (mset_ne hq), fun j => ?_⟩
    · rw [← e]
      conv => lhs; unfold f_Mod_copies_148_151L
      rw [if_pos (show (a : Int) < 138 by omega), jw_e (y := ((o1 + a : Nat) : Int)) (by omega) (by omega) (by omega), jw_e (y := ((o2 + a : Nat) : Int)) (by omega) (by omega) (by omega), oix_n (by omega), oix_n (by omega), Int.toNat_natCast, Int.toNat_natCast, jw_s (by omega)]
    · rw [f2, ms_s, ms_o (by decide)]
      by_cases c : j = o2 + a
      · rw [if_neg (by omega), if_pos c, if_pos (by omega), c, show o2 + a - o2 = a by omega]
      · rw [if_neg c]
        by_cases c2 : o2 + a ≤ j ∧ j < o2 + 138
        · rw [if_pos (by omega), if_pos c2]
        · rw [if_neg (by omega), if_neg c2]
theorem K148_151 (o1 o2 : Nat) (h1 : o1 + 138 ≤ 138) (h2 : o2 + 138 ≤ 138) (m : jMem) : ∃ m', f_Mod_copies_148_151 m (o1 : Int) (o2 : Int) = some m' ∧ (∀ q, q ≠ 151 → m' q = m q) ∧ ∀ j, m' 151 j = if o2 ≤ j ∧ j < o2 + 138 then m 148 (o1 + (j - o2)) else m 151 j := K148_151L o1 o2 h1 h2 138 0 99999 m (by omega) (by omega)
theorem K151_149L (o1 o2 : Nat) (h1 : o1 + 138 ≤ 138) (h2 : o2 + 138 ≤ 1104) : ∀ (k a N : Nat) (m : jMem), a + k = 138 → k < N → ∃ m', f_Mod_copies_151_149L N m (o1 : Int) (o2 : Int) (a : Int) = some m' ∧ (∀ q, q ≠ 149 → m' q = m q) ∧ ∀ j, m' 149 j = if o2 + a ≤ j ∧ j < o2 + 138 then m 151 (o1 + (j - o2)) else m 149 j
  | _, _, 0, _, _, h => by omega
  | 0, a, N + 1, m, ha, _ => by
    refine ⟨m, ?_, fun _ _ => rfl, fun j => (if_neg (by omega)).symm⟩
    unfold f_Mod_copies_151_149L
    rw [if_neg (by omega)]
  | k + 1, a, N + 1, m, ha, hN => by
    obtain ⟨m', e, f1, f2⟩ := K151_149L o1 o2 h1 h2 k (a + 1) N (mset m 149 (o2 + a) (m 151 (o1 + a))) (by omega) (by omega)
    refine ⟨m', ?_, fun q hq => (f1 q hq).trans (mset_ne hq), fun j => ?_⟩
    · rw [← e]
      conv => lhs; unfold f_Mod_copies_151_149L
      rw [if_pos (show (a : Int) < 138 by omega), jw_e (y := ((o1 + a : Nat) : Int)) (by omega) (by omega) (by omega), jw_e (y := ((o2 + a : Nat) : Int)) (by omega) (by omega) (by omega), oix_n (by omega), oix_n (by omega), Int.toNat_natCast, Int.toNat_natCast, jw_s (by omega)]
    · rw [f2, ms_s, ms_o (by decide)]
      by_cases c : j = o2 + a
      · rw [if_neg (by omega), if_pos c, if_pos (by omega), c, show o2 + a - o2 = a by omega]
      · rw [if_neg c]
        by_cases c2 : o2 + a ≤ j ∧ j < o2 + 138
        · rw [if_pos (by omega), if_pos c2]
        · rw [if_neg (by omega), if_neg c2]
theorem K151_149 (o1 o2 : Nat) (h1 : o1 + 138 ≤ 138) (h2 : o2 + 138 ≤ 1104) (m : jMem) : ∃ m', f_Mod_copies_151_149 m (o1 : Int) (o2 : Int) = some m' ∧ (∀ q, q ≠ 149 → m' q = m q) ∧ ∀ j, m' 149 j = if o2 ≤ j ∧ j < o2 + 138 then m 151 (o1 + (j - o2)) else m 149 j := K151_149L o1 o2 h1 h2 138 0 99999 m (by omega) (by omega)
theorem K151_148L (o1 o2 : Nat) (h1 : o1 + 138 ≤ 138) (h2 : o2 + 138 ≤ 138) : ∀ (k a N : Nat) (m : jMem), a + k = 138 → k < N → ∃ m', f_Mod_copies_151_148L N m (o1 : Int) (o2 : Int) (a : Int) = some m' ∧ (∀ q, q ≠ 148 → m' q = m q) ∧ ∀ j, m' 148 j = if o2 + a ≤ j ∧ j < o2 + 138 then m 151 (o1 + (j - o2)) else m 148 j
  | _, _, 0, _, _, h => by omega
  | 0, a, N + 1, m, ha, _ => by
    refine ⟨m, ?_, fun _ _ => rfl, fun j => (if_neg (by omega)).symm⟩
    unfold f_Mod_copies_151_148L
    rw [if_neg (by omega)]
  | k + 1, a, N + 1, m, ha, hN => by
    obtain ⟨m', e, f1, f2⟩ := K151_148L o1 o2 h1 h2 k (a + 1) N (mset m 148 (o2 + a) (m 151 (o1 + a))) (by omega) (by omega)
    refine ⟨m', ?_, fun q hq => (f1 q hq).trans (mset_ne hq), fun j => ?_⟩
    · rw [← e]
      conv => lhs; unfold f_Mod_copies_151_148L
      rw [if_pos (show (a : Int) < 138 by omega), jw_e (y := ((o1 + a : Nat) : Int)) (by omega) (by omega) (by omega), jw_e (y := ((o2 + a : Nat) : Int)) (by omega) (by omega) (by omega), oix_n (by omega), oix_n (by omega), Int.toNat_natCast, Int.toNat_natCast, jw_s (by omega)]
    · rw [f2, ms_s, ms_o (by decide)]
      by_cases c : j = o2 + a
      · rw [if_neg (by omega), if_pos c, if_pos (by omega), c, show o2 + a - o2 = a by omega]
      · rw [if_neg c]
        by_cases c2 : o2 + a ≤ j ∧ j < o2 + 138
        · rw [if_pos (by omega), if_pos c2]
        · rw [if_neg (by omega), if_neg c2]
theorem K151_148 (o1 o2 : Nat) (h1 : o1 + 138 ≤ 138) (h2 : o2 + 138 ≤ 138) (m : jMem) : ∃ m', f_Mod_copies_151_148 m (o1 : Int) (o2 : Int) = some m' ∧ (∀ q, q ≠ 148 → m' q = m q) ∧ ∀ j, m' 148 j = if o2 ≤ j ∧ j < o2 + 138 then m 151 (o1 + (j - o2)) else m 148 j := K151_148L o1 o2 h1 h2 138 0 99999 m (by omega) (by omega)
theorem K149_148L (o1 o2 : Nat) (h1 : o1 + 138 ≤ 1104) (h2 : o2 + 138 ≤ 138) : ∀ (k a N : Nat) (m : jMem), a + k = 138 → k < N → ∃ m', f_Mod_copies_149_148L N m (o1 : Int) (o2 : Int) (a : Int) = some m' ∧ (∀ q, q ≠ 148 → m' q = m q) ∧ ∀ j, m' 148 j = if o2 + a ≤ j ∧ j < o2 + 138 then m 149 (o1 + (j - o2)) else m 148 j
  | _, _, 0, _, _, h => by omega
  | 0, a, N + 1, m, ha, _ => by
    refine ⟨m, ?_, fun _ _ => rfl, fun j => (if_neg (by omega)).symm⟩
    unfold f_Mod_copies_149_148L
    rw [if_neg (by omega)]
  | k + 1, a, N + 1, m, ha, hN => by
    obtain ⟨m', e, f1, f2⟩ := K149_148L o1 o2 h1 h2 k (a + 1) N (mset m 148 (o2 + a) (m 149 (o1 + a))) (by omega) (by omega)
    refine ⟨m', ?_, fun q hq => (f1 q hq).trans (mset_ne hq), fun j => ?_⟩
    · rw [← e]
      conv => lhs; unfold f_Mod_copies_149_148L
      rw [if_pos (show (a : Int) < 138 by omega), jw_e (y := ((o1 + a : Nat) : Int)) (by omega) (by omega) (by omega), jw_e (y := ((o2 + a : Nat) : Int)) (by omega) (by omega) (by omega), oix_n (by omega), oix_n (by omega), Int.toNat_natCast, Int.toNat_natCast, jw_s (by omega)]
    · rw [f2, ms_s, ms_o (by decide)]
      by_cases c : j = o2 + a
      · rw [if_neg (by omega), if_pos c, if_pos (by omega), c, show o2 + a - o2 = a by omega]
      · rw [if_neg c]
        by_cases c2 : o2 + a ≤ j ∧ j < o2 + 138
        · rw [if_pos (by omega), if_pos c2]
        · rw [if_neg (by omega), if_neg c2]
theorem K149_148 (o1 o2 : Nat) (h1 : o1 + 138 ≤ 1104) (h2 : o2 + 138 ≤ 138) (m : jMem) : ∃ m', f_Mod_copies_149_148 m (o1 : Int) (o2 : Int) = some m' ∧ (∀ q, q ≠ 148 → m' q = m q) ∧ ∀ j, m' 148 j = if o2 ≤ j ∧ j < o2 + 138 then m 149 (o1 + (j - o2)) else m 148 j := K149_148L o1 o2 h1 h2 138 0 99999 m (by omega) (by omega)
theorem K148_150L (o1 o2 : Nat) (h1 : o1 + 138 ≤ 138) (h2 : o2 + 138 ≤ 138) : ∀ (k a N : Nat) (m : jMem), a + k = 138 → k < N → ∃ m', f_Mod_copies_148_150L N m (o1 : Int) (o2 : Int) (a : Int) = some m' ∧ (∀ q, q ≠ 150 → m' q = m q) ∧ ∀ j, m' 150 j = if o2 + a ≤ j ∧ j < o2 + 138 then m 148 (o1 + (j - o2)) else m 150 j
  | _, _, 0, _, _, h => by omega
  | 0, a, N + 1, m, ha, _ => by
    refine ⟨m, ?_, fun _ _ => rfl, fun j => (if_neg (by omega)).symm⟩
    unfold f_Mod_copies_148_150L
    rw [if_neg (by omega)]
  | k + 1, a, N + 1, m, ha, hN => by
    obtain ⟨m', e, f1, f2⟩ := K148_150L o1 o2 h1 h2 k (a + 1) N (mset m 150 (o2 + a) (m 148 (o1 + a))) (by omega) (by omega)
    refine ⟨m', ?_, fun q hq => (f1 q hq).trans (mset_ne hq), fun j => ?_⟩
    · rw [← e]
      conv => lhs; unfold f_Mod_copies_148_150L
      rw [if_pos (show (a : Int) < 138 by omega), jw_e (y := ((o1 + a : Nat) : Int)) (by omega) (by omega) (by omega), jw_e (y := ((o2 + a : Nat) : Int)) (by omega) (by omega) (by omega), oix_n (by omega), oix_n (by omega), Int.toNat_natCast, Int.toNat_natCast, jw_s (by omega)]
    · rw [f2, ms_s, ms_o (by decide)]
      by_cases c : j = o2 + a
      · rw [if_neg (by omega), if_pos c, if_pos (by omega), c, show o2 + a - o2 = a by omega]
      · rw [if_neg c]
        by_cases c2 : o2 + a ≤ j ∧ j < o2 + 138
        · rw [if_pos (by omega), if_pos c2]
        · rw [if_neg (by omega), if_neg c2]
theorem K148_150 (o1 o2 : Nat) (h1 : o1 + 138 ≤ 138) (h2 : o2 + 138 ≤ 138) (m : jMem) : ∃ m', f_Mod_copies_148_150 m (o1 : Int) (o2 : Int) = some m' ∧ (∀ q, q ≠ 150 → m' q = m q) ∧ ∀ j, m' 150 j = if o2 ≤ j ∧ j < o2 + 138 then m 148 (o1 + (j - o2)) else m 150 j := K148_150L o1 o2 h1 h2 138 0 99999 m (by omega) (by omega)
theorem K150_148L (o1 o2 : Nat) (h1 : o1 + 138 ≤ 138) (h2 : o2 + 138 ≤ 138) : ∀ (k a N : Nat) (m : jMem), a + k = 138 → k < N → ∃ m', f_Mod_copies_150_148L N m (o1 : Int) (o2 : Int) (a : Int) = some m' ∧ (∀ q, q ≠ 148 → m' q = m q) ∧ ∀ j, m' 148 j = if o2 + a ≤ j ∧ j < o2 + 138 then m 150 (o1 + (j - o2)) else m 148 j
  | _, _, 0, _, _, h => by omega
  | 0, a, N + 1, m, ha, _ => by
    refine ⟨m, ?_, fun _ _ => rfl, fun j => (if_neg (by omega)).symm⟩
    unfold f_Mod_copies_150_148L
    rw [if_neg (by omega)]
  | k + 1, a, N + 1, m, ha, hN => by
    obtain ⟨m', e, f1, f2⟩ := K150_148L o1 o2 h1 h2 k (a + 1) N (mset m 148 (o2 + a) (m 150 (o1 + a))) (by omega) (by omega)
    refine ⟨m', ?_, fun q hq => (f1 q hq).trans (mset_ne hq), fun j => ?_⟩
    · rw [← e]
      conv => lhs; unfold f_Mod_copies_150_148L
      rw [if_pos (show (a : Int) < 138 by omega), jw_e (y := ((o1 + a : Nat) : Int)) (by omega) (by omega) (by omega), jw_e (y := ((o2 + a : Nat) : Int)) (by omega) (by omega) (by omega), oix_n (by omega), oix_n (by omega), Int.toNat_natCast, Int.toNat_natCast, jw_s (by omega)]
    · rw [f2, ms_s, ms_o (by decide)]
      by_cases c : j = o2 + a
      · rw [if_neg (by omega), if_pos c, if_pos (by omega), c, show o2 + a - o2 = a by omega]
      · rw [if_neg c]
        by_cases c2 : o2 + a ≤ j ∧ j < o2 + 138
        · rw [if_pos (by omega), if_pos c2]
        · rw [if_neg (by omega), if_neg c2]
theorem K150_148 (o1 o2 : Nat) (h1 : o1 + 138 ≤ 138) (h2 : o2 + 138 ≤ 138) (m : jMem) : ∃ m', f_Mod_copies_150_148 m (o1 : Int) (o2 : Int) = some m' ∧ (∀ q, q ≠ 148 → m' q = m q) ∧ ∀ j, m' 148 j = if o2 ≤ j ∧ j < o2 + 138 then m 150 (o1 + (j - o2)) else m 148 j := K150_148L o1 o2 h1 h2 138 0 99999 m (by omega) (by omega)

/-! ===== a change, or a refusal, on both sides ===== -/
/-- the class has changed and kept go; the model hasn't yet -/
def Pst (m : jMem) (go g' : Nat → Int) : Prop := RS 1 m g' ∧ TA m ∧ SN m ∧ RJ m ∧ OU m ∧ SC m ∧ m 147 6 = 0 ∧
  ∃ c nx : Nat, nx < 9 ∧ c ≤ 8 ∧ m 147 5 = (c : Int) ∧ m 17 1 = (((nx + 1) % 9 : Nat) : Int) ∧ m 17 2 = (if c = 8 then 8 else (c : Int) + 1) ∧ RS (19 + 12 * nx) m go ∧ ∀ j, j < c → RS (19 + 12 * ((nx + 8 - j) % 9)) m (fun i => m 149 (138 * (c - 1 - j) + i))
/-- the class has refused; the model hasn't yet -/
def Rst (m : jMem) (r d : Int) : Prop := RS 1 m (m 148) ∧ HI m ∧ TA m ∧ SN m ∧ OU m ∧ SC m ∧ m 147 6 = 0 ∧ m 0 8 = m 147 14 ∧ -1 ≤ m 0 8 ∧ m 0 9 = r ∧ m 0 10 = d ∧ m 0 11 = 0
section Cong
variable {m m' : jMem}
theorem TA.sq (h : SQ m m') (T : TA m) : TA m' := ⟨T.1.tr (h.be (Or.inl rfl)), T.2.1.tr (h.be (Or.inr (by omega))), fun s hs => (T.2.2 s hs).tr (h.be (Or.inr (by omega)))⟩
theorem SN.sq (h : SQ m m') (S : SN m) : SN m' := by
  refine ⟨?_, fun hz => ?_⟩
  · rw [h.1 0 (by omega), h.2.2 4 (by omega)]; exact S.1
  · rw [h.1 0 (by omega)] at hz
    rw [h.1 150 (by omega)]
    exact (S.2 hz).tr (h.be (Or.inr (by omega)))
theorem RJ.sq (h : SQ m m') (J : RJ m) : RJ m' := by
  unfold RJ
  rw [h.1 0 (by omega), h.2.2 9 (by omega), h.2.2 10 (by omega), h.2.2 14 (by omega), h.2.2 11 (by omega)]
  exact J
theorem OU.sq (h : SQ m m') (O : OU m) : OU m' := by
  unfold OU
  rw [h.1 145 (by omega), h.2.2 16 (by omega), h.1 146 (by omega), h.1 153 (by omega)]
  exact O
theorem SC.sq (h : SQ m m') (O : SC m) : SC m' := by
  unfold SC
  rw [h.2.1, h.2.2 13 (by omega), h.1 140 (by omega), h.1 152 (by omega)]
  exact O
theorem HI.sq (h : SQ m m') (O : HI m) : HI m' := by
  obtain ⟨c, nx, a1, a2, a3, a4, a5, a6⟩ := O
  refine ⟨c, nx, ?_, a2, ?_, ?_, a5, fun j hj => ?_⟩
  · rw [h.1 17 (by omega)]; exact a1
  · rw [h.1 17 (by omega)]; exact a3
  · rw [h.2.2 5 (by omega)]; exact a4
  · rw [h.1 149 (by omega)]
    exact (a6 j hj).tr (h.be (Or.inr (by have := Nat.mod_lt (nx + 8 - j) (show 9 > 0 by omega); omega)))
theorem Pst.sq {go g' : Nat → Int} (h : SQ m m') (P : Pst m go g') : Pst m' go g' := by
  obtain ⟨p1, p2, p3, p4, p5, p6, p7, c, nx, q1, q2, q3, q4, q5, q6, q7⟩ := P
  refine ⟨p1.tr (h.be (Or.inl rfl)), p2.sq h, p3.sq h, p4.sq h, p5.sq h, p6.sq h, ?_, c, nx, q1, q2, ?_, ?_, ?_, ?_, fun j hj => ?_⟩
  · rw [h.2.2 6 (by omega)]; exact p7
  · rw [h.2.2 5 (by omega)]; exact q3
  · rw [h.1 17 (by omega)]; exact q4
  · rw [h.1 17 (by omega)]; exact q5
  · exact q6.tr (h.be (Or.inr (by omega)))
  · rw [h.1 149 (by omega)]
    exact (q7 j hj).tr (h.be (Or.inr (by have := Nat.mod_lt (nx + 8 - j) (show 9 > 0 by omega); omega)))
theorem Rst.sq {r d : Int} (h : SQ m m') (P : Rst m r d) : Rst m' r d := by
  obtain ⟨p1, p2, p3, p4, p5, p6, p7, p8, p9, p10, p11, p12⟩ := P
  refine ⟨?_, p2.sq h, p3.sq h, p4.sq h, p5.sq h, p6.sq h, ?_, ?_, ?_, ?_, ?_, ?_⟩
  · rw [h.1 148 (by omega)]
    exact p1.tr (h.be (Or.inl rfl))
  · rw [h.2.2 6 (by omega)]; exact p7
  · rw [h.1 0 (by omega), h.2.2 14 (by omega)]; exact p8
  · rw [h.1 0 (by omega)]; exact p9
  · rw [h.1 0 (by omega)]; exact p10
  · rw [h.1 0 (by omega)]; exact p11
  · rw [h.1 0 (by omega)]; exact p12
end Cong
section Mut
variable {m : jMem}
/-- marked, changed, kept -/
theorem mutP (I : IV m) {g' : Nat → Int} {m1 m2 m3 : jMem} {c nx : Nat} (hn : nx < 9) (hc : c ≤ 8) (a1 : m 17 1 = (nx : Int)) (a3 : m 17 2 = (c : Int)) (a4 : m 147 5 = (c : Int)) (a6 : ∀ j, j < c → RS (19 + 12 * ((nx + 8 - j) % 9)) m (fun i => m 149 (138 * (c - 1 - j) + i)))
    (hB : BE 1 (19 + 12 * nx) m m1) (hK : ∀ q, (q < 19 + 12 * nx ∨ 19 + 12 * nx + 12 ≤ q) → m1 q = m q)
    (h2 : ∀ q, (q = 0 ∨ 14 ≤ q) → m2 q = m1 q) (S2 : RS 1 m2 g') (T2 : TY 1 m2)
    (k1 : m3 17 1 = (((nx + 1) % 9 : Nat) : Int)) (k2 : m3 17 2 = (if c = 8 then 8 else (c : Int) + 1)) (k3 : ∀ q, q ≠ 17 → m3 q = m2 q) : Pst m3 (m 148) g' := by
  obtain ⟨i1, -, ⟨t1, t2, t3⟩, ⟨s1, s2⟩, iJ, iO, iC, i8⟩ := I
  have far : ∀ q, (q = 0 ∨ 127 ≤ q) → m3 q = m q := fun q hq => (k3 q (by omega)).trans ((h2 q (by omega)).trans (hK q (by omega)))
  have blk : ∀ s, s < 9 → s ≠ nx → BE (19 + 12 * s) (19 + 12 * s) m m3 := fun s hs hne => BE.of fun q b1 b2 => (k3 q (by omega)).trans ((h2 q (by omega)).trans (hK q (by omega)))
  have bnx : BE 1 (19 + 12 * nx) m m3 := by
    have e : ∀ q, 19 + 12 * nx ≤ q → q < 19 + 12 * nx + 12 → m3 q = m1 q := fun q b1 b2 => (k3 q (by omega)).trans (h2 q (by omega))
    unfold BE at hB ⊢
    rw [e _ (by omega) (by omega), e (19 + 12 * nx + 1) (by omega) (by omega), e (19 + 12 * nx + 2) (by omega) (by omega), e (19 + 12 * nx + 3) (by omega) (by omega), e (19 + 12 * nx + 4) (by omega) (by omega), e (19 + 12 * nx + 5) (by omega) (by omega), e (19 + 12 * nx + 6) (by omega) (by omega), e (19 + 12 * nx + 7) (by omega) (by omega), e (19 + 12 * nx + 8) (by omega) (by omega), e (19 + 12 * nx + 9) (by omega) (by omega), e (19 + 12 * nx + 10) (by omega) (by omega), e (19 + 12 * nx + 11) (by omega) (by omega)]
    exact hB
  have b1 : BE 1 1 m2 m3 := BE.of fun q _ _ => k3 q (by omega)
  have b127 : BE 127 127 m m3 := BE.of fun q _ _ => far q (by omega)
  refine ⟨S2.tr b1, ⟨T2.tr b1, t2.tr b127, fun s hs => ?_⟩, ⟨?_, fun hz => ?_⟩, ?_, ?_, ?_, ?_, c, nx, hn, hc, ?_, k1, k2, i1.tr bnx, fun j hj => ?_⟩
  · by_cases e : s = nx
    · rw [e]; exact t1.tr bnx
    · exact (t3 s hs).tr (blk s hs e)
  · rw [far 0 (by omega), far 147 (by omega)]; exact s1
  · rw [far 0 (by omega)] at hz
    rw [far 150 (by omega)]
    exact (s2 hz).tr b127
  · unfold RJ
    rw [far 0 (by omega), far 147 (by omega)]; exact iJ
  · unfold OU
    rw [far 145 (by omega), far 146 (by omega), far 147 (by omega), far 153 (by omega)]; exact iO
  · unfold SC
    rw [far 139 (by omega), far 140 (by omega), far 147 (by omega), far 152 (by omega)]; exact iC
  · rw [far 147 (by omega)]; exact i8
  · rw [far 147 (by omega)]; exact a4
  · rw [far 149 (by omega)]
    have hlt := Nat.mod_lt (nx + 8 - j) (show 9 > 0 by omega)
    exact (a6 j hj).tr (blk _ hlt (by omega))
/-- the class's side of a change -/
theorem mutR (I : IV m) {act : jMem → Option (Int × jMem)} {v : Int} {g' : Nat → Int} (hv : 0 ≤ v)
    (hact : ∀ m1, BE 1 1 m m1 → TY 1 m1 → ∃ m2, act m1 = some (v, m2) ∧ (∀ q, (q = 0 ∨ 14 ≤ q) → m2 q = m1 q) ∧ RS 1 m2 g' ∧ TY 1 m2) :
    ∃ m3, ((f_History_mark m).bind fun m2 => (act m2).bind fun qx3 => (f_Reg_settle qx3.2 qx3.1).bind fun qx4 => sel qx4.1 (fun x4 => some ((.inl x4 : Int ⊕ String), qx4.2)) (fun e6 => some (.inr e6, qx4.2))) = some (.inl v, m3) ∧ m3 148 = m 148 ∧ Pst m3 (m 148) g' := by
  have J := I
  obtain ⟨-, ⟨c, nx, a1, a2, a3, a4, a5, a6⟩, ⟨t1, -⟩, -⟩ := J
  obtain ⟨m1, e1, hB, hK⟩ := H_mark a1 a2 t1
  have b1 : BE 1 1 m m1 := BE.of fun q _ _ => hK q (by omega)
  obtain ⟨m2, e2, h2, S2, T2⟩ := hact m1 b1 (t1.tr b1)
  have x1 : m2 17 1 = (nx : Int) := by rw [h2 17 (by omega), hK 17 (by omega)]; exact a1
  have x2 : m2 17 2 = (c : Int) := by rw [h2 17 (by omega), hK 17 (by omega)]; exact a3
  obtain ⟨m3, e3, k1, k2, k3⟩ := H_keep x1 a2 x2 a5
  refine ⟨m3, ?_, ?_, mutP I a2 a5 a1 a3 a4 a6 hB hK h2 S2 T2 k1 k2 k3⟩
  · rw [e1, Option.bind_some, e2, Option.bind_some]
    show (f_Reg_settle m2 v).bind _ = _
    unfold f_Reg_settle
    rw [if_neg (by omega), e3]
    rfl
  · rw [k3 148 (by omega), h2 148 (by omega), hK 148 (by omega)]
/-- the class's side of a refusal -/
theorem rejR (I : IV m) {act : jMem → Option (Int × jMem)} {r d : Int}
    (hact : ∀ m1, BE 1 1 m m1 → TY 1 m1 → act m1 = some (-1, mset (mset m1 13 3 r) 13 4 d)) :
    ∃ m3, ((f_History_mark m).bind fun m2 => (act m2).bind fun qx3 => (f_Reg_settle qx3.2 qx3.1).bind fun qx4 => sel qx4.1 (fun x4 => some ((.inl x4 : Int ⊕ String), qx4.2)) (fun e6 => some (.inr e6, qx4.2))) = some (.inr "java/lang/UnsupportedOperationException", m3) ∧ m3 148 = m 148 ∧ Rst m3 r d := by
  have J := I
  obtain ⟨i1, ⟨c, nx, a1, a2, a3, a4, a5, a6⟩, ⟨t1, t2, t3⟩, ⟨s1, s2⟩, ⟨j1, j2, j3, j4, j5⟩, iO, iC, i8⟩ := J
  obtain ⟨m1, e1, hB, hK⟩ := H_mark a1 a2 t1
  have b1 : BE 1 1 m m1 := BE.of fun q _ _ => hK q (by omega)
  have e2 := hact m1 b1 (t1.tr b1)
  generalize hm2 : mset (mset m1 13 3 r) 13 4 d = m2 at e2
  have q2 : ∀ q, q ≠ 13 → m2 q = m1 q := fun q hq => by rw [← hm2, mset_ne hq, mset_ne hq]
  have v3 : m2 13 3 = r := by rw [← hm2, ms_g (by omega), ms_f]
  have v4 : m2 13 4 = d := by rw [← hm2, ms_f]
  generalize hm3 : mset (mset (mset m2 0 9 r) 0 10 d) 0 11 0 = m3
  have q3 : ∀ q, q ≠ 0 → m3 q = m2 q := fun q hq => by rw [← hm3, mset_ne hq, mset_ne hq, mset_ne hq]
  have z : ∀ j, j ≠ 9 → j ≠ 10 → j ≠ 11 → m3 0 j = m 0 j := fun j h1 h2 h3 => by
    rw [← hm3, ms_g h3, ms_g h2, ms_g h1, q2 0 (by omega), hK 0 (by omega)]
  have q4 : ∀ q, q ≠ 0 → q ≠ 13 → (q < 19 + 12 * nx ∨ 19 + 12 * nx + 12 ≤ q) → m3 q = m q := fun q h1 h2 h3 => (q3 q h1).trans ((q2 q h2).trans (hK q h3))
  have bnx : BE 1 (19 + 12 * nx) m m3 := by
    have e : ∀ q, 19 + 12 * nx ≤ q → m3 q = m1 q := fun q b1 => (q3 q (by omega)).trans (q2 q (by omega))
    unfold BE at hB ⊢
    rw [e _ (by omega), e (19 + 12 * nx + 1) (by omega), e (19 + 12 * nx + 2) (by omega), e (19 + 12 * nx + 3) (by omega), e (19 + 12 * nx + 4) (by omega), e (19 + 12 * nx + 5) (by omega), e (19 + 12 * nx + 6) (by omega), e (19 + 12 * nx + 7) (by omega), e (19 + 12 * nx + 8) (by omega), e (19 + 12 * nx + 9) (by omega), e (19 + 12 * nx + 10) (by omega), e (19 + 12 * nx + 11) (by omega)]
    exact hB
  have b13 : BE 1 1 m m3 := BE.of fun q _ _ => q4 q (by omega) (by omega) (by omega)
  have b127 : BE 127 127 m m3 := BE.of fun q _ _ => q4 q (by omega) (by omega) (by omega)
  have blk : ∀ s, s < 9 → s ≠ nx → BE (19 + 12 * s) (19 + 12 * s) m m3 := fun s hs hne => BE.of fun q b1 b2 => q4 q (by omega) (by omega) (by omega)
  have far : ∀ q, 127 ≤ q → m3 q = m q := fun q hq => q4 q (by omega) (by omega) (by omega)
  refine ⟨m3, ?_, far 148 (by omega), ?_, ⟨c, nx, ?_, a2, ?_, ?_, a5, fun j hj => ?_⟩, ⟨t1.tr b13, t2.tr b127, fun s hs => ?_⟩, ⟨?_, fun hz => ?_⟩, ?_, ?_, ?_, ?_, ?_, ?_, ?_, ?_⟩
  · rw [e1, Option.bind_some, e2, Option.bind_some]
    show (f_Reg_settle m2 (-1)).bind _ = _
    unfold f_Reg_settle f_Reg_noteRejection
    rw [if_pos (by omega), v3, v4, hm3]
    rfl
  · rw [far 148 (by omega)]; exact i1.tr b13
  · rw [q4 17 (by omega) (by omega) (by omega)]; exact a1
  · rw [q4 17 (by omega) (by omega) (by omega)]; exact a3
  · rw [far 147 (by omega)]; exact a4
  · rw [far 149 (by omega)]
    have hlt := Nat.mod_lt (nx + 8 - j) (show 9 > 0 by omega)
    exact (a6 j hj).tr (blk _ hlt (by omega))
  · by_cases e : s = nx
    · rw [e]; exact t1.tr bnx
    · exact (t3 s hs).tr (blk s hs e)
  · rw [z 5 (by omega) (by omega) (by omega), far 147 (by omega)]; exact s1
  · rw [z 5 (by omega) (by omega) (by omega)] at hz
    rw [far 150 (by omega)]
    exact (s2 hz).tr b127
  · unfold OU
    rw [far 145 (by omega), far 146 (by omega), far 147 (by omega), far 153 (by omega)]; exact iO
  · unfold SC
    rw [far 139 (by omega), far 140 (by omega), far 147 (by omega), far 152 (by omega)]; exact iC
  · rw [far 147 (by omega)]; exact i8
  · rw [z 8 (by omega) (by omega) (by omega), far 147 (by omega)]; exact j3
  · rw [z 8 (by omega) (by omega) (by omega)]; exact j4
  · rw [← hm3, ms_g (by omega), ms_g (by omega), ms_f]
  · rw [← hm3, ms_g (by omega), ms_f]
  · rw [← hm3, ms_f]
/-- the model's side of a refusal -/
theorem rejM {m : jMem} {r d c : Int} (P : Rst m r d) (hr : r ≠ 12) : ∃ m', f_Mod_rejects m c r d = some (0, m') ∧ m' 147 8 = c ∧ IV m' := by
  obtain ⟨p1, p2, p3, p4, p5, p6, p7, p8, p9, p10, p11, p12⟩ := P
  generalize hm : mset (mset (mset (mset (mset m 147 8 c) 147 7 1) 147 9 r) 147 10 d) 147 11 0 = m'
  have q1 : ∀ q, q ≠ 147 → m' q = m q := fun q hq => by rw [← hm, mset_ne hq, mset_ne hq, mset_ne hq, mset_ne hq, mset_ne hq]
  have q2 : ∀ j, j ≠ 7 → j ≠ 8 → j ≠ 9 → j ≠ 10 → j ≠ 11 → m' 147 j = m 147 j := fun j h7 h8 h9 h10 h11 => by
    rw [← hm, ms_g h11, ms_g h10, ms_g h9, ms_g h7, ms_g h8]
  have be : ∀ b, b ≤ 127 → BE b b m m' := fun b hb => BE.of fun q _ _ => q1 q (by omega)
  refine ⟨m', by rw [← hm]; rfl, ?_, ?_, ?_, ⟨p3.1.tr (be 1 (by omega)), p3.2.1.tr (be 127 (by omega)), fun s hs => (p3.2.2 s hs).tr (be _ (by omega))⟩, ⟨?_, fun hz => ?_⟩, ⟨?_, ?_, ?_, ?_, ?_⟩, ?_, ?_, ?_⟩
  · rw [← hm, ms_g (by omega), ms_g (by omega), ms_g (by omega), ms_g (by omega), ms_f]
  · rw [q1 148 (by omega)]; exact p1.tr (be 1 (by omega))
  · obtain ⟨c, nx, a1, a2, a3, a4, a5, a6⟩ := p2
    refine ⟨c, nx, ?_, a2, ?_, ?_, a5, fun j hj => ?_⟩
    · rw [q1 17 (by omega)]; exact a1
    · rw [q1 17 (by omega)]; exact a3
    · rw [q2 5 (by omega) (by omega) (by omega) (by omega) (by omega)]; exact a4
    · rw [q1 149 (by omega)]
      have hlt := Nat.mod_lt (nx + 8 - j) (show 9 > 0 by omega)
      exact (a6 j hj).tr (be _ (by omega))
  · rw [q1 0 (by omega), q2 4 (by omega) (by omega) (by omega) (by omega) (by omega)]; exact p4.1
  · rw [q1 0 (by omega)] at hz
    rw [q1 150 (by omega)]
    exact (p4.2 hz).tr (be 127 (by omega))
  · rw [q1 0 (by omega), p10, ← hm, ms_g (by omega), ms_g (by omega), ms_f]
  · rw [q1 0 (by omega), p11, ← hm, ms_g (by omega), ms_f]
  · rw [q1 0 (by omega), q2 14 (by omega) (by omega) (by omega) (by omega) (by omega)]; exact p8
  · rw [q1 0 (by omega)]; exact p9
  · right
    rw [q1 0 (by omega), p10]
    exact ⟨hr, by rw [← hm, ms_f]⟩
  · unfold OU
    rw [q1 145 (by omega), q1 146 (by omega), q1 153 (by omega), q2 16 (by omega) (by omega) (by omega) (by omega) (by omega)]; exact p5
  · unfold SC
    rw [q1 139 (by omega), q1 140 (by omega), q1 152 (by omega), q2 13 (by omega) (by omega) (by omega) (by omega) (by omega)]; exact p6
  · rw [q2 6 (by omega) (by omega) (by omega) (by omega) (by omega)]; exact p7
/-- the model has kept go; its row may be anything meanwhile -/
theorem keptI {m m' m6 : jMem} {go g' : Nat → Int} (P : Pst m go g') {c : Nat} (hc : c ≤ 8) (h5 : m 147 5 = (c : Int))
    (q1 : ∀ q, q ≠ 147 → q ≠ 149 → m' q = m q) (q2 : ∀ j, j ≠ 5 → j ≠ 8 → m' 147 j = m 147 j) (q5 : m' 147 5 = (if c = 8 then 8 else (c : Int) + 1))
    (r1 : ∀ k i, i < 138 → k + (if c = 8 then 1 else 0) < c → m' 149 (138 * k + i) = m 149 (138 * (k + (if c = 8 then 1 else 0)) + i)) (r2 : ∀ i, i < 138 → m' 149 (138 * (if c = 8 then 7 else c) + i) = go i)
    (q6 : ∀ q, q ≠ 148 → m6 q = m' q) (h6 : m6 148 = g') : IV m6 := by
  obtain ⟨p1, p2, p3, p4, p5, p6, p7, c', nx, x1, x2, x3, x4, x5, x6, x7⟩ := P
  have ec : c' = c := by omega
  subst ec
  have o : ∀ q, q ≠ 147 → q ≠ 148 → q ≠ 149 → m6 q = m q := fun q a b d => (q6 q b).trans (q1 q a d)
  have oj : ∀ j, j ≠ 5 → j ≠ 8 → m6 147 j = m 147 j := fun j a b => by rw [q6 147 (by omega)]; exact q2 j a b
  have be : ∀ b, b ≤ 127 → BE b b m m6 := fun b hb => BE.of fun q _ _ => o q (by omega) (by omega) (by omega)
  refine ⟨?_, ?_, ⟨p2.1.tr (be 1 (by omega)), p2.2.1.tr (be 127 (by omega)), fun s hs => (p2.2.2 s hs).tr (be _ (by omega))⟩, ⟨?_, fun hz => ?_⟩, ?_, ?_, ?_, ?_⟩
  · rw [h6]; exact p1.tr (be 1 (by omega))
  · refine ⟨if c' = 8 then 8 else c' + 1, (nx + 1) % 9, ?_, Nat.mod_lt _ (by omega), ?_, ?_, ?_, fun j hj => ?_⟩
    · rw [o 17 (by omega) (by omega) (by omega)]; exact x4
    · rw [o 17 (by omega) (by omega) (by omega), x5]
      by_cases h8 : c' = 8
      · rw [if_pos h8, if_pos h8]; rfl
      · rw [if_neg h8, if_neg h8]; rfl
    · rw [q6 147 (by omega), q5]
      by_cases h8 : c' = 8
      · rw [if_pos h8, if_pos h8]; rfl
      · rw [if_neg h8, if_neg h8]; rfl
    · by_cases h8 : c' = 8
      · rw [if_pos h8]; omega
      · rw [if_neg h8]; omega
    · rw [q6 149 (by omega)]
      cases j with
      | zero =>
        have e1 : ((nx + 1) % 9 + 8 - 0) % 9 = nx := by omega
        have e2 : (if c' = 8 then 8 else c' + 1) - 1 - 0 = if c' = 8 then 7 else c' := by
          by_cases h8 : c' = 8
          · rw [if_pos h8, if_pos h8]
          · rw [if_neg h8, if_neg h8]; omega
        rw [e1, e2]
        exact (x6.tr (be _ (by omega))).cg r2
      | succ j =>
        have hj2 : j + 1 < (if c' = 8 then 8 else c' + 1) := hj
        have hjc : j < c' := by
          by_cases h8 : c' = 8
          · rw [if_pos h8] at hj2; omega
          · rw [if_neg h8] at hj2; omega
        have e1 : ((nx + 1) % 9 + 8 - (j + 1)) % 9 = (nx + 8 - j) % 9 := by omega
        have hlt : (nx + 8 - j) % 9 < 9 := Nat.mod_lt _ (by omega)
        have hJ := x7 j hjc
        rw [e1]
        refine (hJ.tr (be _ (by omega))).cg fun i hi => ?_
        have e3 : (if c' = 8 then 8 else c' + 1) - 1 - (j + 1) + (if c' = 8 then 1 else 0) = c' - 1 - j := by
          by_cases h8 : c' = 8
          · rw [if_pos h8] at hj2; rw [if_pos h8, if_pos h8]; omega
          · rw [if_neg h8] at hj2; rw [if_neg h8, if_neg h8]; omega
        show m' 149 (138 * ((if c' = 8 then 8 else c' + 1) - 1 - (j + 1)) + i) = m 149 (138 * (c' - 1 - j) + i)
        rw [r1 _ i hi (by rw [e3]; omega), e3]
  · rw [o 0 (by omega) (by omega) (by omega), oj 4 (by omega) (by omega)]; exact p3.1
  · rw [o 0 (by omega) (by omega) (by omega)] at hz
    rw [o 150 (by omega) (by omega) (by omega)]
    exact (p3.2 hz).tr (be 127 (by omega))
  · unfold RJ
    rw [o 0 (by omega) (by omega) (by omega), oj 9 (by omega) (by omega), oj 10 (by omega) (by omega), oj 11 (by omega) (by omega), oj 14 (by omega) (by omega)]; exact p4
  · unfold OU
    rw [o 145 (by omega) (by omega) (by omega), o 146 (by omega) (by omega) (by omega), o 153 (by omega) (by omega) (by omega), oj 16 (by omega) (by omega)]; exact p5
  · unfold SC
    rw [o 139 (by omega) (by omega) (by omega), o 140 (by omega) (by omega) (by omega), o 152 (by omega) (by omega) (by omega), oj 13 (by omega) (by omega)]; exact p6
  · rw [oj 6 (by omega) (by omega)]; exact p7
/-- the model's side of a change: keeping, then the row -/
theorem mutM {m : jMem} {go g' : Nat → Int} (P : Pst m go g') (hg : m 148 = go) : ∃ m', f_Mod_keeps_148 m = some m' ∧ m' 148 = go ∧ m' 155 = m 155 ∧ m' 147 8 = 0 ∧ ∀ m6, (∀ q, q ≠ 148 → m6 q = m' q) → m6 148 = g' → IV m6 := by
  have P' := P
  obtain ⟨-, -, -, -, -, -, p7, c, nx, x1, x2, x3, -⟩ := P'
  obtain ⟨m', e, q1, q2, q3, q4, r1, r2⟩ := G148_keeps p7 x3 x2
  exact ⟨m', e, (q1 148 (by omega) (by omega)).trans hg, q1 155 (by omega) (by omega), q3, fun m6 h1 h2 => keptI P x2 x3 q1 q2 q4 r1 (fun i hi => (r2 i hi).trans (by rw [hg])) h1 h2⟩
end Mut

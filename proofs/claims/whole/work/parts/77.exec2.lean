/-! ===== execute, on both sides ===== -/
section Ex2
variable {m : jMem}
/-- what the class's side has left, when the state is back -/
theorem ex_back (I : IV m) {nx d : Nat} (a1 : m 17 1 = (nx : Int)) (a2 : nx < 9) {m2 m3 m' m8 : jMem} (k2 : ∀ q, q ≠ 139 → (q < 141 ∨ 144 < q) → m2 q = m q) (B3 : BE 1 (19 + 12 * nx) m2 m3) (K3 : ∀ q, (q < 19 + 12 * nx ∨ 19 + 12 * nx + 12 ≤ q) → m3 q = m2 q)
    (F' : Frr m3 m') (B8 : BE (19 + 12 * nx) 1 m' m8) (K8 : ∀ q, (q < 1 ∨ 13 ≤ q) → m8 q = m' q) : BE 1 1 m m8 ∧ BE 1 (19 + 12 * nx) m m8 ∧ (∀ q, (q = 0 ∨ q = 17 ∨ (19 ≤ q ∧ q < 139 ∧ (q < 19 + 12 * nx ∨ 19 + 12 * nx + 12 ≤ q)) ∨ q = 140 ∨ 144 < q) → m8 q = m q) ∧ m8 139 = m2 139 := by
  have B12 : BE 1 1 m m2 := BE.of fun q h1 h2 => k2 q (by omega) (by omega)
  have Bs : BE 1 (19 + 12 * nx) m m' := BE.trans (BE.trans B12 B3) (BE.of fun q h1 h2 => F' q (by omega))
  refine ⟨BE.trans Bs B8, BE.trans Bs (BE.of fun q h1 h2 => K8 q (by omega)), fun q hq => ?_, ?_⟩
  · rw [K8 q (by omega), F' q (by omega), K3 q (by omega), k2 q (by omega) (by omega)]
  · rw [K8 139 (by omega), F' 139 (by omega), K3 139 (by omega)]
theorem q_execute (I : IV m) : Qok (f_Law_execute m) f_Mod_execute := by
  have J := I
  obtain ⟨i1, ⟨d, nx, a1, a2, a3, a4, a5, a6⟩, ⟨t1, t2, t3⟩, ⟨s1, s2⟩, ⟨r1, r2, r3, r4, r5⟩, iO, ⟨c, c1, c2, c3, c4⟩, i8⟩ := J
  have X : txV (m 140) c := ⟨c1, fun i hi => (c4 i hi).2⟩
  obtain ⟨b, e, os, hQ, hV, hl⟩ := txAll X 60 0 0 (by omega) (by omega) (by omega)
  have w0 : txC (m 140) c 0 (mset (mset m 139 2 0) 139 7 0) := by
    refine ⟨?_, ?_, fun i hi => ?_⟩
    · rw [ms_g (by omega), ms_g (by omega)]; exact c2
    · rw [ms_g (by omega), ms_f]
      rfl
    · rw [mset_ne (by omega), mset_ne (by omega)]
  have w07 : (mset (mset m 139 2 0) 139 7 0) 139 7 = ((0 : Nat) : Int) := by
    rw [ms_f]
    rfl
  obtain ⟨m1, e1, o1, f1, g1⟩ := hQ.1 99998 _ (by omega) w0 w07
  have e1' : f_Script_parse m = some (if b = true then 1 else 0, m1) := e1
  have k1 : ∀ q, q ≠ 139 → (q < 141 ∨ 144 < q) → m1 q = m q := fun q h1 h2 => by rw [f1.1 q h1 h2, mset_ne h1, mset_ne h1]
  have hc4 : ∀ i, i < c → m 152 i = m 140 i := fun i hi => ((c4 i hi).1).symm
  cases b with
  | false =>
    rw [bif_f] at e1'
    have hA : f_Law_execute m = some (1, mset (mset m1 139 1 0) 0 8 (e : Int)) := by
      refine Lexecute_e1 ?_
      unfold f_Reg_execute
      rw [e1', Option.bind_some]
      dsimp only
      unfold f_Script_clear
      rw [Option.bind_some, if_pos rfl, ms_g (by omega), o1]
    generalize hm3 : mset (mset m1 139 1 0) 0 8 (e : Int) = m3 at hA
    have k3 : ∀ q, q ≠ 0 → q ≠ 139 → (q < 141 ∨ 144 < q) → m3 q = m q := fun q h1 h2 h3 => by rw [← hm3, mset_ne h1, mset_ne h2, k1 q h2 h3]
    have z3 : ∀ j, j ≠ 8 → m3 0 j = m 0 j := fun j hj => by rw [← hm3, ms_g hj, ms_o (by omega), k1 0 (by omega) (by omega)]
    have z38 : m3 0 8 = (e : Int) := by rw [← hm3, ms_f]
    have c31 : m3 139 1 = 0 := by rw [← hm3, ms_o (by omega), ms_f]
    generalize hm4 : mset (mset m3 147 17 0) 147 19 0 = m4
    have w4 : txM (m 140) c 0 m4 := by
      rw [← hm4]
      refine ⟨?_, ?_, fun i hi => ?_⟩
      · rw [ms_g (by omega), ms_g (by omega), k3 147 (by omega) (by omega) (by omega)]; exact c3
      · rw [ms_g (by omega), ms_f]
        rfl
      · rw [mset_ne (by omega), mset_ne (by omega), k3 152 (by omega) (by omega) (by omega)]; exact hc4 i hi
    have h19 : m4 147 19 = ((0 : Nat) : Int) := by
      rw [← hm4, ms_f]
      rfl
    obtain ⟨m5, e5, o5, f5, -⟩ := hQ.2 99998 m4 (by omega) w4 h19
    rw [bif_f] at e5
    have e5' : f_Mod_isText m3 = some (0, m5) := by
      unfold f_Mod_isText
      rw [hm4]
      exact e5
    have k4 : ∀ q, q ≠ 147 → m4 q = m3 q := fun q hq => by rw [← hm4, mset_ne hq, mset_ne hq]
    have j4 : ∀ j, j ≠ 17 → j ≠ 19 → m4 147 j = m3 147 j := fun j h1 h2 => by rw [← hm4, ms_g h2, ms_g h1]
    generalize hm6 : Fm (mset (mset m5 147 14 (e : Int)) 147 13 0) 1 = m6
    have hB : f_Mod_execute m3 = some (0, m6) := by
      unfold f_Mod_execute
      rw [e5', Option.bind_some]
      dsimp only
      rw [if_pos rfl, if_pos rfl, o5, M_fails (by omega), Option.bind_some]
      dsimp only
      rw [if_neg (by omega), hm6]
    have k6 : ∀ q, q ≠ 147 → q ≠ 154 → m6 q = m3 q := fun q h1 h2 => by rw [← hm6, Fm_row h1, mset_ne h1, mset_ne h1, f5.1 q h1 h2, k4 q h1]
    have j6 : ∀ j, j ≠ 7 → j ≠ 8 → j ≠ 13 → j ≠ 14 → j ≠ 17 → j ≠ 19 → m6 147 j = m 147 j := fun j h1 h2 h3 h4 h5 h6 => by
      rw [← hm6, Fm_j h1 h2, ms_g h3, ms_g h4, f5.2.1 j h5 h6, j4 j h5 h6, k3 147 (by omega) (by omega) (by omega)]
    have j614 : m6 147 14 = (e : Int) := by rw [← hm6, Fm_j (by omega) (by omega), ms_g (by omega), ms_f]
    have far : ∀ q, q ≠ 0 → q ≠ 139 → (q < 141 ∨ 144 < q) → q ≠ 147 → q ≠ 154 → m6 q = m q := fun q h1 h2 h3 h4 h5 => (k6 q h4 h5).trans (k3 q h1 h2 h3)
    have z6 : ∀ j, j ≠ 8 → m6 0 j = m 0 j := fun j hj => by rw [k6 0 (by omega) (by omega)]; exact z3 j hj
    have z68 : m6 0 8 = (e : Int) := by rw [k6 0 (by omega) (by omega)]; exact z38
    refine ⟨1, m3, 0, m6, hA, hB, ?_, fun h => by omega, I.bk a1 (BE.of fun q h1 h2 => far q (by omega) (by omega) (by omega) (by omega) (by omega)) ((t3 nx a2).tr (BE.of fun q h1 h2 => far q (by omega) (by omega) (by omega) (by omega) (by omega))) (fun q hq => far q (by omega) (by omega) (by omega) (by omega) (by omega)) (z6 5 (by omega)) ⟨?_, ?_, ?_, ?_, ?_⟩ ?_ (j6 4 (by omega) (by omega) (by omega) (by omega) (by omega) (by omega)) (j6 5 (by omega) (by omega) (by omega) (by omega) (by omega) (by omega)) ((j6 6 (by omega) (by omega) (by omega) (by omega) (by omega) (by omega)).trans i8) ?_ (j6 16 (by omega) (by omega) (by omega) (by omega) (by omega) (by omega)) (fun i _ => by rw [far 148 (by omega) (by omega) (by omega) (by omega) (by omega)])⟩
    · rw [← hm6, Fm_8]
    · rw [z6 9 (by omega), j6 9 (by omega) (by omega) (by omega) (by omega) (by omega) (by omega)]; exact r1
    · rw [z6 10 (by omega), j6 10 (by omega) (by omega) (by omega) (by omega) (by omega) (by omega)]; exact r2
    · rw [z68, j614]
    · rw [z68]
      omega
    · rw [z6 9 (by omega), z6 11 (by omega), j6 11 (by omega) (by omega) (by omega) (by omega) (by omega) (by omega)]; exact r5
    · rw [k6 139 (by omega) (by omega)]; exact c31
    · rw [← hm6, Fm_j (by omega) (by omega), ms_f]
  | true =>
    rw [bif_t] at e1'
    obtain ⟨g7, gC⟩ := g1 rfl
    rw [Nat.zero_add] at g7
    generalize hm2 : mset m1 139 1 0 = m2
    have k2 : ∀ q, q ≠ 139 → (q < 141 ∨ 144 < q) → m2 q = m q := fun q h1 h2 => by rw [← hm2, mset_ne h1, k1 q h1 h2]
    have k21 : ∀ q, q ≠ 139 → m2 q = m1 q := fun q h1 => by rw [← hm2, mset_ne h1]
    have c21 : m2 139 1 = 0 := by rw [← hm2, ms_f]
    have g27 : m2 139 7 = ((os.length : Nat) : Int) := by rw [← hm2, ms_g (by omega)]; exact g7
    have b12 : BE 1 1 m m2 := BE.of fun q h1 h2 => k2 q (by omega) (by omega)
    have x17 : m2 17 1 = (nx : Int) := by rw [k2 17 (by omega) (by omega)]; exact a1
    obtain ⟨m3, e3, B3, K3⟩ := H_mark x17 a2 (t1.tr b12)
    have K31 : ∀ q, q ≤ 18 ∨ 139 ≤ q → m3 q = m2 q := fun q hq => K3 q (by omega)
    obtain ⟨od, ps, H, R, Y, V, W, L⟩ := I.g
    have b13 : BE 1 1 m m3 := BE.of fun q h1 h2 => (K31 q (by omega)).trans (k2 q (by omega) (by omega))
    have P3 : R0 m3 (m 148) od ps := I.r0 H R Y V W b13 (t1.tr b13)
    have h73 : m3 139 7 = ((os.length : Nat) : Int) := by rw [K31 139 (by omega)]; exact g27
    have c31 : m3 139 1 = 0 := by rw [K31 139 (by omega)]; exact c21
    obtain ⟨res, hC, hM⟩ := runs (K := os.length) (t := m 140) (c := c) (by omega) os 0 (m 148) od ps m3 (Nat.zero_add _) (hV rfl) P3 L h73 (fun i x hi => (gC i x hi).mv fun q h1 h2 => by rw [K31 q (by omega), k21 q (by omega)])
    have ex : f_Reg_execute m = f_Reg_executeL 99999 m3 0 := by
      unfold f_Reg_execute
      rw [e1', Option.bind_some]
      dsimp only
      unfold f_Script_clear
      rw [Option.bind_some, if_neg (by omega), hm2, e3, Option.bind_some]
    have tn3 : TY (19 + 12 * nx) m3 := (t1.tr b12).tr B3
    have x3 : m3 17 1 = (nx : Int) := by rw [K31 17 (by omega)]; exact x17
    cases res with
    | inl g' =>
      obtain ⟨m', od', ps', F', P', L', eqC⟩ := hC
      have F139 : ∀ q, (q = 0 ∨ 13 ≤ q) → m' q = m3 q := F'
      obtain ⟨m4, e4, y1, y2, y3⟩ := H_keep (m := m') (c := d) (by rw [F139 17 (by omega)]; exact x3) a2 (by rw [F139 17 (by omega), K31 17 (by omega), k2 17 (by omega) (by omega)]; exact a3) a5
      have v4 : m4 139 7 = ((os.length : Nat) : Int) := by rw [y3 139 (by omega), F139 139 (by omega)]; exact h73
      have hA : f_Law_execute m = some (0, mset m4 155 0 ((os.length : Nat) : Int)) := by
        refine Lexecute_i ?_
        rw [ex]
        refine (eqC 99999 (by omega)).trans ?_
        rw [e4, Option.bind_some, v4]
      have far4 : ∀ q, 139 ≤ q → m4 q = m2 q := fun q hq => by rw [y3 q (by omega), F139 q (by omega), K31 q (by omega)]
      have far4m : ∀ q, 144 < q → m4 q = m q := fun q hq => by rw [far4 q (by omega), k2 q (by omega) (by omega)]
      have IVv : IV (mset m2 147 13 0) := by
        refine I.bk a1 (BE.of fun q h1 h2 => ?_) ((t3 nx a2).tr (BE.of fun q h1 h2 => ?_)) (fun q hq => ?_) ?_ ?_ ?_ ?_ ?_ ?_ ms_f ?_ (fun i _ => ?_)
        · rw [mset_ne (by omega), k2 q (by omega) (by omega)]
        · rw [mset_ne (by omega), k2 q (by omega) (by omega)]
        · rw [mset_ne (by omega), k2 q (by omega) (by omega)]
        · rw [ms_o (by omega), k2 0 (by omega) (by omega)]
        · unfold RJ
          rw [mset_ne (show 0 ≠ 147 by omega), k2 0 (by omega) (by omega), ms_g (show 9 ≠ 13 by omega), ms_g (show 10 ≠ 13 by omega), ms_g (show 14 ≠ 13 by omega), ms_g (show 11 ≠ 13 by omega), k2 147 (by omega) (by omega)]
          exact ⟨r1, r2, r3, r4, r5⟩
        · rw [ms_o (by omega)]; exact c21
        · rw [ms_g (by omega), k2 147 (by omega) (by omega)]
        · rw [ms_g (by omega), k2 147 (by omega) (by omega)]
        · rw [ms_g (by omega), k2 147 (by omega) (by omega)]; exact i8
        · rw [ms_g (by omega), k2 147 (by omega) (by omega)]
        · rw [ms_o (by omega), k2 148 (by omega) (by omega)]
      have hn0 : ∀ q, q ≠ 147 → (mset m2 147 13 0) q = m2 q := fun q hq => mset_ne hq
      have Bv : BE 1 (19 + 12 * nx) (mset m2 147 13 0) (mset m3 147 13 0) := BE.trans (BE.trans (BE.of fun q h1 h2 => (hn0 q (by omega)).symm) B3) (BE.of fun q h1 h2 => mset_ne (by omega))
      have S' : RS 1 m' g' := P'.rs L'
      have Pv := mutP IVv (g' := g') (m1 := mset m3 147 13 0) (m2 := mset m' 147 13 0) (m3 := mset m4 147 13 0) (c := d) (nx := nx) a2 a5 (by rw [hn0 17 (by omega)]; exact x17) (by rw [hn0 17 (by omega), k2 17 (by omega) (by omega)]; exact a3) (by rw [ms_g (by omega), k2 147 (by omega) (by omega)]; exact a4) (fun j hj => by
          rw [hn0 149 (by omega), k2 149 (by omega) (by omega)]
          have h9 := Nat.mod_lt (nx + 8 - j) (show 9 > 0 by omega)
          exact (a6 j hj).tr (BE.of fun q h1 h2 => (hn0 q (by omega)).trans (k2 q (by omega) (by omega)))) Bv (fun q hq => v13 (K3 q hq)) (fun q hq => v13 (F139 q (by omega))) (S'.tr (BE.of fun q h1 h2 => mset_ne (by omega))) (P'.T.tr (BE.of fun q h1 h2 => mset_ne (by omega))) (by rw [ms_o (by omega)]; exact y1) (by rw [ms_o (by omega)]; exact y2) (fun q hq => v13 (y3 q hq))
      rw [hn0 148 (by omega), k2 148 (by omega) (by omega)] at Pv
      generalize hmB : mset m4 155 0 ((os.length : Nat) : Int) = mB at hA
      have kB : ∀ q, q ≠ 155 → mB q = m4 q := fun q hq => by rw [← hmB, mset_ne hq]
      have kBm : ∀ q, 144 < q → q ≠ 155 → mB q = m q := fun q h1 h2 => (kB q h2).trans (far4m q h1)
      obtain ⟨mH, eH, u6, u8, u19, uC, u13, uq, uj, u151⟩ := exM (m := mB) X hQ (by rw [kBm 147 (by omega) (by omega)]; exact c3) (fun i hi => by rw [kBm 152 (by omega) (by omega)]; exact hc4 i hi)
      have u148 : mH 148 = m 148 := (uq 148 (by omega) (by omega) (by omega)).trans (kBm 148 (by omega) (by omega))
      obtain ⟨mm, n148, n8, nx2, eqM⟩ := hM mH u148 u6 u8 u19 uC
      generalize hmk : mset mm 147 6 0 = mk
      have qk : ∀ q, q ≠ 147 → q ≠ 148 → mk q = mH q := fun q h1 h2 => by rw [← hmk, mset_ne h1, nx2.1 q h1 h2]
      have jk : ∀ j, j ≠ 6 → j ≠ 7 → j ≠ 8 → mk 147 j = mH 147 j := fun j h1 h2 h3 => by rw [← hmk, ms_g h1, nx2.2 j h2 h3]
      have jk6 : mk 147 6 = 0 := by rw [← hmk, ms_f]
      have jkm : ∀ j, j ≠ 6 → j ≠ 7 → j ≠ 8 → j ≠ 13 → j ≠ 17 → j ≠ 19 → mk 147 j = m 147 j := fun j h1 h2 h3 h4 h5 h6 => by
        rw [jk j h1 h2 h3, uj j h1 h2 h3 h4 h5 h6, kBm 147 (by omega) (by omega)]
      have jk5 : mk 147 5 = (d : Int) := (jkm 5 (by omega) (by omega) (by omega) (by omega) (by omega) (by omega)).trans a4
      obtain ⟨mf, ef, q1, q2, q8, q5, w1, w2⟩ := G151_keeps (m := mk) (c := d) jk6 jk5 a5
      have qkm : ∀ q, q ≠ 147 → q ≠ 148 → q ≠ 151 → q ≠ 154 → q ≠ 155 → mk q = m4 q := fun q h1 h2 h3 h4 h5 => by rw [qk q h1 h2, uq q h1 h3 h4, kB q h5]
      have Pk : Pst mk (m 148) g' := by
        refine Pv.tr (fun q hq => ?_) ?_ (fun j hj => ?_)
        · rw [qkm q (by omega) (by omega) (by omega) (by omega) (by omega), mset_ne (by omega)]
        · rw [qkm 139 (by omega) (by omega) (by omega) (by omega) (by omega), ms_o (by omega)]
        · by_cases h13 : j = 13
          · rw [h13, ms_f, jk 13 (by omega) (by omega) (by omega)]
            exact u13
          · by_cases h6 : j = 6
            · rw [h6, jk6, ms_g (by omega), far4m 147 (by omega)]
              exact i8.symm
            · rw [jkm j h6 (by omega) (by omega) h13 (by omega) (by omega), ms_g h13, far4m 147 (by omega)]
      have hB : f_Mod_execute mB = some (((os.length : Nat) : Int), mf) := by
        refine eH.trans ((eqM 99999 0 (by omega)).trans ?_)
        unfold mxS
        rw [hmk, ef, Option.bind_some, q2 19 (by omega) (by omega), jk 19 (by omega) (by omega) (by omega), u19]
      refine ⟨0, mB, _, mf, hA, hB, q8, fun _ => ?_, keptI Pk a5 jk5 q1 q2 q5 w1 (fun i hi => (w2 i hi).trans ?_) (fun _ _ => rfl) ?_⟩
      · rw [q1 155 (by omega) (by omega), qk 155 (by omega) (by omega), uq 155 (by omega) (by omega) (by omega), ← hmB, ms_f]
      · rw [qk 151 (by omega) (by omega), u151 i hi, kBm 148 (by omega) (by omega)]
      · rw [q1 148 (by omega) (by omega), ← hmk, mset_ne (by omega)]
        exact n148
    | inr r =>
      cases r with
      | none =>
        obtain ⟨m', F', eqC⟩ := hC
        have tn' : TY (19 + 12 * nx) m' := tn3.tr (BE.of fun q h1 h2 => F' q (by omega))
        obtain ⟨m8, f8, B8, K8⟩ := cxF_e (m := m') (by rw [F' 17 (by omega)]; exact x3) a2 tn'
        obtain ⟨bb, bs, far, e139⟩ := ex_back (d := d) I a1 a2 k2 B3 K3 F' B8 K8
        have hA : f_Law_execute m = some (2, m8) := by
          refine Lexecute_e2 ?_
          rw [ex]
          exact (eqC 99999 (by omega)).trans (f8 _)
        obtain ⟨mH, eH, u6, u8, u19, uC, u13, uq, uj, u151⟩ := exM (m := m8) X hQ (by rw [far 147 (by omega)]; exact c3) (fun i hi => by rw [far 152 (by omega)]; exact hc4 i hi)
        have u148 : mH 148 = m 148 := (uq 148 (by omega) (by omega) (by omega)).trans (far 148 (by omega))
        obtain ⟨mm, v2, v4, n7, nx2, eqM⟩ := hM mH u148 u6 u8 u19 uC
        obtain ⟨v, mf, ef, w8, wq, wj, w6, wr⟩ := mxF0 (a2 := v2) (a4 := v4) n7
        have hB : f_Mod_execute m8 = some (v, mf) := eH.trans ((eqM 99999 0 (by omega)).trans ef)
        have qf : ∀ q, q ≠ 147 → q ≠ 148 → q ≠ 151 → q ≠ 154 → mf q = m8 q := fun q h1 h2 h3 h4 => by rw [wq q h1 h2, nx2.1 q h1 h2, uq q h1 h3 h4]
        have jf : ∀ j, j ≠ 6 → j ≠ 7 → j ≠ 8 → j ≠ 13 → j ≠ 17 → j ≠ 19 → mf 147 j = m 147 j := fun j h1 h2 h3 h4 h5 h6 => by
          rw [wj j h1 h3, nx2.2 j h2 h3, uj j h1 h2 h3 h4 h5 h6, far 147 (by omega)]
        have z : mf 0 = m 0 := (qf 0 (by omega) (by omega) (by omega) (by omega)).trans (far 0 (by omega))
        refine ⟨2, m8, v, mf, hA, hB, w8, fun h => by omega, I.bk a1 (BE.trans bb (BE.of fun q h1 h2 => qf q (by omega) (by omega) (by omega) (by omega))) (t1.tr (BE.trans bs (BE.of fun q h1 h2 => qf q (by omega) (by omega) (by omega) (by omega)))) (fun q hq => (qf q (by omega) (by omega) (by omega) (by omega)).trans (far q (by omega))) (by rw [z]) ⟨?_, ?_, ?_, ?_, ?_⟩ ?_ (jf 4 (by omega) (by omega) (by omega) (by omega) (by omega) (by omega)) (jf 5 (by omega) (by omega) (by omega) (by omega) (by omega) (by omega)) w6 ?_ (jf 16 (by omega) (by omega) (by omega) (by omega) (by omega) (by omega)) (fun i hi => ?_)⟩
        · rw [z, jf 9 (by omega) (by omega) (by omega) (by omega) (by omega) (by omega)]; exact r1
        · rw [z, jf 10 (by omega) (by omega) (by omega) (by omega) (by omega) (by omega)]; exact r2
        · rw [z, jf 14 (by omega) (by omega) (by omega) (by omega) (by omega) (by omega)]; exact r3
        · rw [z]; exact r4
        · rw [z, jf 11 (by omega) (by omega) (by omega) (by omega) (by omega) (by omega)]; exact r5
        · rw [qf 139 (by omega) (by omega) (by omega) (by omega), e139]; exact c21
        · rw [wj 13 (by omega) (by omega), nx2.2 13 (by omega) (by omega)]; exact u13
        · rw [wr i hi, nx2.1 151 (by omega) (by omega), u151 i hi, far 148 (by omega)]
      | some y =>
        obtain ⟨hy, m', F', h133, eqC⟩ := hC
        have tn' : TY (19 + 12 * nx) m' := tn3.tr (BE.of fun q h1 h2 => F' q (by omega))
        obtain ⟨m8, f8, B8, K8⟩ := cxF_e (m := m') (by rw [F' 17 (by omega)]; exact x3) a2 tn'
        obtain ⟨bb, bs, far, e139⟩ := ex_back (d := d) I a1 a2 k2 B3 K3 F' B8 K8
        have v8 : m8 13 3 = y.2 := by rw [K8 13 (by omega)]; exact h133
        generalize hm9 : mset (mset (mset m8 0 9 12) 0 10 (y.1 : Int)) 0 11 y.2 = m9
        have hA : f_Law_execute m = some (3, m9) := by
          refine Lexecute_e3 ?_
          rw [ex]
          refine (eqC 99999 (by omega)).trans ((f8 _).trans ?_)
          unfold f_Reg_noteRejection
          rw [v8, hm9, Option.bind_some]
        have k9 : ∀ q, q ≠ 0 → m9 q = m8 q := fun q hq => by rw [← hm9, mset_ne hq, mset_ne hq, mset_ne hq]
        have z9 : ∀ j, j ≠ 9 → j ≠ 10 → j ≠ 11 → m9 0 j = m 0 j := fun j h1 h2 h3 => by rw [← hm9, ms_g h3, ms_g h2, ms_g h1, far 0 (by omega)]
        have z99 : m9 0 9 = 12 := by rw [← hm9, ms_g (by omega), ms_g (by omega), ms_f]
        have z910 : m9 0 10 = (y.1 : Int) := by rw [← hm9, ms_g (by omega), ms_f]
        have z911 : m9 0 11 = y.2 := by rw [← hm9, ms_f]
        have far9 : ∀ q, (q = 17 ∨ (19 ≤ q ∧ q < 139 ∧ (q < 19 + 12 * nx ∨ 19 + 12 * nx + 12 ≤ q)) ∨ q = 140 ∨ 144 < q) → m9 q = m q := fun q hq => (k9 q (by omega)).trans (far q (by omega))
        obtain ⟨mH, eH, u6, u8, u19, uC, u13, uq, uj, u151⟩ := exM (m := m9) X hQ (by rw [far9 147 (by omega)]; exact c3) (fun i hi => by rw [far9 152 (by omega)]; exact hc4 i hi)
        have u148 : mH 148 = m 148 := (uq 148 (by omega) (by omega) (by omega)).trans (far9 148 (by omega))
        obtain ⟨mm, v4, n7, n9, nx2, eqM⟩ := hM mH u148 u6 u8 u19 uC
        obtain ⟨mf, ef, w8, wq, wj, w6, w9, w10, w11, wr⟩ := mxF1 (a2 := (y.1 : Int)) (a4 := v4) n7
        have hB : f_Mod_execute m9 = some (0, mf) := eH.trans ((eqM 99999 0 (by omega)).trans ef)
        have qf : ∀ q, q ≠ 147 → q ≠ 148 → q ≠ 151 → q ≠ 154 → mf q = m9 q := fun q h1 h2 h3 h4 => by rw [wq q h1 h2, nx2.1 q h1 h2, uq q h1 h3 h4]
        have jf : ∀ j, j ≠ 6 → j ≠ 7 → j ≠ 8 → j ≠ 9 → j ≠ 10 → j ≠ 11 → j ≠ 13 → j ≠ 17 → j ≠ 19 → mf 147 j = m 147 j := fun j h1 h2 h3 h4 h5 h6 h7 h8 h9 => by
          rw [wj j h1 h2 h3 h4 h5 h6, nx2.2 j h2 h3 h4 h5 h6, uj j h1 h2 h3 h7 h8 h9, far9 147 (by omega)]
        have z : mf 0 = m9 0 := qf 0 (by omega) (by omega) (by omega) (by omega)
        refine ⟨3, m9, 0, mf, hA, hB, w8, fun h => by omega, I.bk a1 (BE.trans bb (BE.of fun q h1 h2 => (qf q (by omega) (by omega) (by omega) (by omega)).trans (k9 q (by omega)))) (t1.tr (BE.trans bs (BE.of fun q h1 h2 => (qf q (by omega) (by omega) (by omega) (by omega)).trans (k9 q (by omega))))) (fun q hq => (qf q (by omega) (by omega) (by omega) (by omega)).trans (far9 q (by omega))) ?_ ⟨?_, ?_, ?_, ?_, ?_⟩ ?_ (jf 4 (by omega) (by omega) (by omega) (by omega) (by omega) (by omega) (by omega) (by omega) (by omega)) (jf 5 (by omega) (by omega) (by omega) (by omega) (by omega) (by omega) (by omega) (by omega) (by omega)) w6 ?_ (jf 16 (by omega) (by omega) (by omega) (by omega) (by omega) (by omega) (by omega) (by omega) (by omega)) (fun i hi => ?_)⟩
        · rw [z]; exact z9 5 (by omega) (by omega) (by omega)
        · rw [z, z99, w9]
        · rw [z, z910, w10]
        · rw [z, z9 8 (by omega) (by omega) (by omega), jf 14 (by omega) (by omega) (by omega) (by omega) (by omega) (by omega) (by omega) (by omega) (by omega)]; exact r3
        · rw [z, z9 8 (by omega) (by omega) (by omega)]; exact r4
        · left
          rw [z, z99, z911, w11, n9]
          exact ⟨rfl, rfl, hy⟩
        · rw [qf 139 (by omega) (by omega) (by omega) (by omega), k9 139 (by omega), e139]; exact c21
        · rw [wj 13 (by omega) (by omega) (by omega) (by omega) (by omega) (by omega), nx2.2 13 (by omega) (by omega) (by omega) (by omega) (by omega)]; exact u13
        · rw [wr i hi, nx2.1 151 (by omega) (by omega), u151 i hi, far9 148 (by omega)]
end Ex2

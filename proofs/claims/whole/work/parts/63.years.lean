/-! ===== years ===== -/
theorem jw_add1 (x : Int) : jw (jw x + 1) = jw (x + 1) := by
  simp only [jw, Int.bmod]
  split <;> split <;> split <;> omega
def jyr (g : Nat → Int) (y : Int) : Nat → Int := jup g 2 y
theorem jy_o {g : Nat → Int} {y : Int} {j : Nat} (h : j ≠ 2) : jyr g y j = g j := if_neg h
theorem jy_2 {g : Nat → Int} {y : Int} : jyr g y 2 = y := by
  unfold jyr jup
  exact if_pos rfl
theorem jy_jy (g : Nat → Int) (y z : Int) : jyr (jyr g y) z = jyr g z := by
  funext j
  unfold jyr jup
  by_cases h : j = 2
  · rw [if_pos h, if_pos h]
  · rw [if_neg h, if_neg h, if_neg h]
section Jy
variable {g : Nat → Int} {y : Int}
theorem jy_hh : hh (jyr g y) = hh g := funext fun k => jy_o (by omega)
theorem jy_hk : hk (jyr g y) = hk g := funext fun k => jy_o (by omega)
theorem jy_hs : hs (jyr g y) = hs g := funext fun k => jy_o (by omega)
theorem jy_he : he (jyr g y) = he g := funext fun k => jy_o (by omega)
theorem jy_hp : hpr (jyr g y) = hpr g := funext fun k => jy_o (by omega)
theorem jy_hN : hN (jyr g y) = hN g := by
  unfold hN
  rw [jy_o (by omega)]
theorem jy_W (W : GH g) : GH (jyr g y) := GH.cg (jy_o (by omega)) (fun j hj => jy_o (by omega)) W
theorem jy_put {k : Nat} {a c d e n3 n4 n5 : Int} : hput (jyr g y) k a c d e n3 n4 n5 = jyr (hput g k a c d e n3 n4 n5) y := by
  funext i
  by_cases h : i = 2
  · rw [h, hp_lo (by omega), jy_2, jy_2]
  · rw [jy_o h]
    unfold hput
    rw [jy_o h]
theorem jy_wk {k : Nat} : wk (jyr g y) k = jyr (wk g k) y := by
  unfold wk
  rw [jy_hs, jy_hh, jy_he, jy_hp, jy_o (show 3 ≠ 2 by omega), jy_o (show 4 ≠ 2 by omega), jy_o (show 5 ≠ 2 by omega), jy_put, jy_put]
  split <;> rfl
end Jy
/-- the mark of practice taken away -/
def np (g : Nat → Int) (k : Nat) : Nat → Int := hput g k (hh g k) (hs g k) (he g k) 0 (g 3) (g 4) (g 5)
/-- one habit through the year's end -/
def ys (g : Nat → Int) (k : Nat) : Nat → Int := if 0 ≤ hh g k ∧ hpr g k = 0 then np (wk g k) k else np g k
def yrF : Nat → Nat → (Nat → Int) → (Nat → Int)
  | 0, _, g => g
  | j + 1, k, g => yrF j (k + 1) (ys g k)
section Years
variable {m : jMem} {g : Nat → Int} {od ps : Nat → Nat} {k : Nat}
theorem A_np (P : R0 m g od ps) (hkl : k < hN g) : Fr m (mset m 12 k 0) ∧ R0 (mset m 12 k 0) (np g k) od ps := by
  have W := P.W
  have R := P.R
  have B := W.hb hkl
  refine ⟨fun q hq => mset_ne (by omega), put P hkl ⟨fun q h1 h2 => mset_ne (by omega), ?_, mset_ne (by omega), fun l => ?_, fun l => ?_, fun l => ?_, fun l => ms_s⟩ ?_ ?_ ⟨W.cn.1, W.cn.2.1, W.cn.2.2.1, ?_⟩ (fun h => h)⟩
  · simp (disch := omega) only [ms_o]
    exact ⟨trivial, R.1.2.1, R.1.2.2.1, R.1.2.2.2⟩
  · rw [ms_o (by omega)]
    exact ifk (R.st hkl) l
  · rw [ms_o (by omega)]
    exact ifk (R.ho hkl) l
  · rw [ms_o (by omega)]
    exact ifk (R.en hkl) l
  · rcases B.1 with h3 | h3
    · exact Or.inl ⟨h3.1, h3.2.1, h3.2.2.1, rfl⟩
    · exact Or.inr ⟨h3.1, h3.2.1, h3.2.2.1, h3.2.2.2.1, h3.2.2.2.2.1, Or.inl rfl⟩
  · intro l hl hne h0 h1 h2
    exact hne (W.2.2.1 l k hl hkl (by omega) h1 h2)
  · rw [if_neg (by omega), Int.add_zero]
theorem np_GL (V : GP g) (W : GH g) (L : GL g) (hkl : k < hN g) : GL (np g k) := by
  refine put_GL L (fun h => L k hkl h) (hh_16 V W) ?_
  by_cases h0 : 0 ≤ hh g k
  · exact hh_16 V W k hkl h0
  · omega
theorem np_hN : hN (np g k) = hN g := hp_hN
theorem ys_hN : hN (ys g k) = hN g := by
  unfold ys
  split
  · exact np_hN.trans wk_hN
  · exact np_hN
theorem M_np {m5 : jMem} (hg : m5 148 = g) : (mset m5 148 (42 + 5 * k) 0) 148 = np g k := by
  refine hput_ext ?_ ?_ ?_ ?_ ?_ ?_ ?_ fun i h1 h2 h3 h4 h5 h6 h7 => ?_
  · rw [ms_g (by omega), hg]; rfl
  · rw [ms_g (by omega), hg]; rfl
  · rw [ms_g (by omega), hg]; rfl
  · rw [ms_f]
  · rw [ms_g (by omega), hg]
  · rw [ms_g (by omega), hg]
  · rw [ms_g (by omega), hg]
  · rw [ms_g h4, hg]
theorem wk_3 : wk g k 3 = g 3 + (if hs g k = 1 then 1 else 0) := by
  unfold wk
  by_cases h : hs g k = 1
  · rw [if_pos h, if_pos h, hp_3]
  · rw [if_neg h, if_neg h, hp_3, Int.add_zero]
theorem wk_2 : wk g k 2 = g 2 := by
  unfold wk
  split
  · exact hp_lo (by omega)
  · exact hp_lo (by omega)
theorem ys_3 : g 3 ≤ ys g k 3 := by
  unfold ys
  split
  · show _ ≤ np (wk g k) k 3
    unfold np
    rw [hp_3, wk_3]
    split <;> omega
  · show _ ≤ np g k 3
    unfold np
    rw [hp_3]
    omega
/-- a year of the class and of the model at once -/
theorem yr {y : Int} : ∀ (j k N N' : Nat) (c : Int) (g : Nat → Int) (m mm : jMem), k + j = hN g → j < N → j < N' → 0 ≤ c → c + (j : Int) ≤ 1000 → R0 m g od ps → mm 148 = jyr g y → GL g →
    ∃ m2 mm2, f_Habits_endYearL N m (k : Int) = some m2 ∧ Fr m m2 ∧ R0 m2 (yrF j k g) od ps ∧ GL (yrF j k g) ∧ hN (yrF j k g) = hN g ∧ yrF j k g 2 = g 2 ∧ g 3 ≤ yrF j k g 3 ∧ f_Mod_yearGoesL N' mm c (k : Int) = some (c + (yrF j k g 3 - g 3), mm2) ∧ mm2 148 = jyr (yrF j k g) (jw (y + 1)) ∧ ∀ q, q ≠ 148 → mm2 q = mm q
  | _, _, 0, _, _, _, _, _, _, h, _, _, _, _, _, _ => by omega
  | _, _, _, 0, _, _, _, _, _, _, h, _, _, _, _, _ => by omega
  | 0, k, N + 1, N' + 1, c, g, m, mm, hkj, _, _, h0, hc, P, hg, L => by
    have hW := P.W.n
    refine ⟨m, mset mm 148 2 (jw (y + 1)), ?_, Fr.refl m, P, L, rfl, rfl, Int.le_refl _, ?_, ?_, fun q hq => mset_ne hq⟩
    · unfold f_Habits_endYearL
      rw [P.R.n, if_neg (by omega)]
    · unfold f_Mod_yearGoesL
      rw [oix1, show (1 : Int).toNat = 1 from rfl, hg, jy_o (by omega), if_neg (by omega)]
      show oix (2 : Int) 138 (oix (2 : Int) 138 (some (c, mset mm 148 2 (jw (jyr g y 2 + 1))))) = _
      rw [jy_2]
      show some (c, mset mm 148 2 (jw (y + 1))) = some (c + (g 3 - g 3), _)
      rw [Int.sub_self, Int.add_zero]
    · rw [mset_row, hg]
      exact jy_jy g y _
  | j + 1, k, N + 1, N' + 1, c, g, m, mm, hkj, hNN, hNN', h0, hc, P, hg, L => by
    have W := P.W
    have hW := W.n
    have hkl : k < hN g := by omega
    have B := W.hb hkl
    have hS := B.s
    have hcn := W.cn
    have hkl2 : k < hN (jyr g y) := by rw [jy_hN]; exact hkl
    have W2 : GH (jyr g y) := jy_W W
    show ∃ m2 mm2, f_Habits_endYearL (N + 1) m (k : Int) = some m2 ∧ Fr m m2 ∧ R0 m2 (yrF j (k + 1) (ys g k)) od ps ∧ GL (yrF j (k + 1) (ys g k)) ∧ hN (yrF j (k + 1) (ys g k)) = hN g ∧ yrF j (k + 1) (ys g k) 2 = g 2 ∧ g 3 ≤ yrF j (k + 1) (ys g k) 3 ∧ f_Mod_yearGoesL (N' + 1) mm c (k : Int) = some (c + (yrF j (k + 1) (ys g k) 3 - g 3), mm2) ∧ mm2 148 = jyr (yrF j (k + 1) (ys g k)) (jw (y + 1)) ∧ ∀ q, q ≠ 148 → mm2 q = mm q
    have main : ∀ (m1 mm1 : jMem) (c1 : Int), Fr m m1 → R0 m1 (ys g k) od ps → GL (ys g k) → ys g k 2 = g 2 → mm1 148 = jyr (ys g k) y → (∀ q, q ≠ 148 → mm1 q = mm q) → c1 = c + (ys g k 3 - g 3) → g 3 ≤ ys g k 3 → ys g k 3 ≤ g 3 + 1 → f_Habits_endYearL (N + 1) m (k : Int) = f_Habits_endYearL N m1 ((k + 1 : Nat) : Int) → f_Mod_yearGoesL (N' + 1) mm c (k : Int) = f_Mod_yearGoesL N' mm1 c1 ((k + 1 : Nat) : Int) →
        ∃ m2 mm2, f_Habits_endYearL (N + 1) m (k : Int) = some m2 ∧ Fr m m2 ∧ R0 m2 (yrF j (k + 1) (ys g k)) od ps ∧ GL (yrF j (k + 1) (ys g k)) ∧ hN (yrF j (k + 1) (ys g k)) = hN g ∧ yrF j (k + 1) (ys g k) 2 = g 2 ∧ g 3 ≤ yrF j (k + 1) (ys g k) 3 ∧ f_Mod_yearGoesL (N' + 1) mm c (k : Int) = some (c + (yrF j (k + 1) (ys g k) 3 - g 3), mm2) ∧ mm2 148 = jyr (yrF j (k + 1) (ys g k)) (jw (y + 1)) ∧ ∀ q, q ≠ 148 → mm2 q = mm q := by
      intro m1 mm1 c1 f1 P1 L1 y1 g1 q1 ec l1 l2 e1 e2
      have hcn2 := P1.W.cn
      obtain ⟨m2, mm2, a1, a2, a3, a4, a5, a6, a7, a8, a9, a10⟩ := yr j (k + 1) N N' c1 (ys g k) m1 mm1 (by rw [ys_hN]; omega) (by omega) (by omega) (by omega) (by omega) P1 g1 L1
      refine ⟨m2, mm2, e1.trans a1, f1.trans a2, a3, a4, a5.trans ys_hN, a6.trans y1, Int.le_trans l1 a7, e2.trans (a8.trans ?_), a9, fun q hq => (a10 q hq).trans (q1 q hq)⟩
      congr 2
      omega
    by_cases hcond : 0 ≤ hh g k ∧ hpr g k = 0
    · have hys : ys g k = np (wk g k) k := if_pos hcond
      have h3 : ys g k 3 = g 3 + (if hs g k = 1 then 1 else 0) := by
        rw [hys]
        exact hp_3.trans wk_3
      obtain ⟨m1, e1, f1, P1⟩ := A_weak P hkl hcond.1
      obtain ⟨f2, P2⟩ := A_np P1 (k := k) (by rw [wk_hN]; exact hkl)
      obtain ⟨mm1, c1, c2, c3⟩ := M_weak W2 hkl2 (by rw [jy_hh]; exact hcond.1) hg
      rw [jy_hs] at c1
      have c2' : mm1 148 = jyr (wk g k) y := c2.trans jy_wk
      refine main (mset m1 12 k 0) (mset mm1 148 (42 + 5 * k) 0) (c + (if hs g k = 1 then 1 else 0)) (f1.trans f2) (by rw [hys]; exact P2) ?_ ?_ ?_ (fun q hq => (mset_ne hq).trans (c3 q hq)) ?_ ?_ ?_ ?_ ?_
      · rw [hys]
        exact np_GL P1.V P1.W (wk_GL P.V W L hkl) (by rw [wk_hN]; exact hkl)
      · rw [hys]
        exact (hp_lo (by omega)).trans wk_2
      · rw [M_np c2', hys]
        unfold np
        rw [jy_hh, jy_hs, jy_he, jy_o (show 3 ≠ 2 by omega), jy_o (show 4 ≠ 2 by omega), jy_o (show 5 ≠ 2 by omega), jy_put]
      · rw [h3]
        omega
      · rw [h3]
        split <;> omega
      · rw [h3]
        split <;> omega
      · conv => lhs; unfold f_Habits_endYearL
        rw [P.R.n, if_pos (by omega), oix_n (by omega), Int.toNat_natCast, P.R.pr hkl, if_pos hcond.2, e1, Option.bind_some, oix_n (by omega), jw_s (by omega)]
      · conv => lhs; unfold f_Mod_yearGoesL
        rw [oix1, show (1 : Int).toNat = 1 from rfl, hg, jy_o (by omega), if_pos (by omega), M_gone W2 hg hkl2, jy_hh, if_pos hcond.1, Option.bind_some, if_pos rfl, M_hp hg (by omega), jy_hp, Option.bind_some, if_pos hcond.2, c1, Option.bind_some]
        show (if (if hs g k = 1 then (1 : Int) else 0) = 0 then (f_Mod_lays mm1 (k : Int) 4 0).bind _ else (f_Mod_lays mm1 (k : Int) 4 0).bind _) = _
        rw [M_lay4 (by omega), jw_s (by omega)]
        by_cases h1 : hs g k = 1
        · rw [if_pos h1, if_neg (by omega), Option.bind_some, jw_id ⟨by omega, by omega⟩]
        · rw [if_neg h1, if_pos rfl, Option.bind_some, jw_id ⟨by omega, by omega⟩]
    · have hys : ys g k = np g k := if_neg hcond
      have h3 : ys g k 3 = g 3 := by
        rw [hys]
        exact hp_3
      obtain ⟨f2, P2⟩ := A_np P hkl
      refine main (mset m 12 k 0) (mset mm 148 (42 + 5 * k) 0) c f2 (by rw [hys]; exact P2) ?_ ?_ ?_ (fun q hq => mset_ne hq) ?_ ?_ ?_ ?_ ?_
      · rw [hys]
        exact np_GL P.V W L hkl
      · rw [hys]
        exact hp_lo (by omega)
      · rw [M_np hg, hys]
        unfold np
        rw [jy_hh, jy_hs, jy_he, jy_o (show 3 ≠ 2 by omega), jy_o (show 4 ≠ 2 by omega), jy_o (show 5 ≠ 2 by omega), jy_put]
      · rw [h3]
        omega
      · rw [h3]
        omega
      · rw [h3]
        omega
      · conv => lhs; unfold f_Habits_endYearL
        rw [P.R.n, if_pos (by omega), oix_n (by omega), Int.toNat_natCast, P.R.pr hkl, jw_s (by omega)]
        by_cases h0' : 0 ≤ hh g k
        · rw [if_neg (fun h => hcond ⟨h0', h⟩), oix_n (by omega)]
        · have hw : f_Habits_weaken m (k : Int) = some m := by
            unfold f_Habits_weaken
            rw [H_held W P.R hkl, if_neg h0', Option.bind_some, if_pos rfl]
          have hp0 : hpr g k = 0 := by
            rcases B.1 with h | h
            · exact h.2.2.2
            · omega
          rw [if_pos hp0, hw, Option.bind_some, oix_n (by omega)]
      · conv => lhs; unfold f_Mod_yearGoesL
        rw [oix1, show (1 : Int).toNat = 1 from rfl, hg, jy_o (by omega), if_pos (by omega), M_gone W2 hg hkl2, jy_hh, jw_s (by omega)]
        by_cases h0' : 0 ≤ hh g k
        · rw [if_pos h0', Option.bind_some, if_pos rfl, M_hp hg (by omega), jy_hp, Option.bind_some, if_neg (fun h => hcond ⟨h0', h⟩), M_lay4 (by omega), Option.bind_some]
        · rw [if_neg h0', Option.bind_some, if_neg (by omega), M_lay4 (by omega), Option.bind_some]
end Years
theorem jw_addz (x z : Int) : jw (jw x + z) = jw (x + z) := by
  simp only [jw, Int.bmod]
  split <;> split <;> split <;> omega
def yi : Nat → Int → Int
  | 0, y => y
  | t + 1, y => yi t (jw (y + 1))
theorem yi_s : ∀ (t : Nat) (y : Int), yi (t + 1) y = jw (y + ((t + 1 : Nat) : Int))
  | 0, y => rfl
  | t + 1, y => by
    show yi (t + 1) (jw (y + 1)) = _
    rw [yi_s t (jw (y + 1)), jw_addz]
    congr 1
    omega
def yrs : Nat → (Nat → Int) → (Nat → Int)
  | 0, g => g
  | t + 1, g => yrs t (yrF (hN g) 0 g)
section Years2
variable {od ps : Nat → Nat}
theorem yearsL {a : Nat} {c0 : Int} : ∀ (t s N N' : Nat) (c y : Int) (g : Nat → Int) (m mm : jMem), s + t = a → a < 100 → t < N → t < N' → 0 ≤ c → c ≤ g 3 → R0 m g od ps → mm 148 = jyr g y → GL g →
    ∃ m2 mm2, f_Actions_passingL N m (a : Int) c0 (s : Int) = some (jw (yrs t g 3 - c0), mset m2 1 2 (jw (g 2 + a))) ∧ Fr m m2 ∧ R0 m2 (yrs t g) od ps ∧ GL (yrs t g) ∧ yrs t g 2 = g 2 ∧ g 3 ≤ yrs t g 3 ∧ f_Mod_passYearsL N' mm (a : Int) c (s : Int) = some (c + (yrs t g 3 - g 3), mm2) ∧ mm2 148 = jyr (yrs t g) (yi t y) ∧ ∀ q, q ≠ 148 → mm2 q = mm q
  | _, _, 0, _, _, _, _, _, _, _, _, h, _, _, _, _, _, _ => by omega
  | _, _, _, 0, _, _, _, _, _, _, _, _, h, _, _, _, _, _ => by omega
  | 0, s, N + 1, N' + 1, c, y, g, m, mm, hs3, ha, _, _, h0, hc, P, hg, L => by
    refine ⟨m, mm, ?_, Fr.refl m, P, L, rfl, Int.le_refl _, ?_, hg, fun _ _ => rfl⟩
    · unfold f_Actions_passingL
      have e1 : m 1 2 = g 2 := P.2.2.1
      have e2 : (mset m 1 2 (jw (g 2 + (a : Int)))) 7 6 = g 3 := (ms_o (by omega)).trans P.R.1.2.1
      rw [if_neg (by omega), e1, e2]
      rfl
    · unfold f_Mod_passYearsL
      rw [if_neg (by omega)]
      show some (c, mm) = some (c + (g 3 - g 3), mm)
      rw [Int.sub_self, Int.add_zero]
  | t + 1, s, N + 1, N' + 1, c, y, g, m, mm, hs3, ha, hNN, hNN', h0, hc, P, hg, L => by
    have hW := P.W.n
    have hcn := P.W.cn
    obtain ⟨m1, mm1, a1, a2, a3, a4, a5, a6, a7, a8, a9, a10⟩ := yr (y := y) (hN g) 0 99999 99999 0 g m mm (by omega) (by omega) (by omega) (by omega) (by omega) P hg L
    have hcn1 := a3.W.cn
    have e1 : f_Habits_endYear m = some m1 := a1
    have e2 : f_Mod_yearGoes mm = some (0 + (yrF (hN g) 0 g 3 - g 3), mm1) := a8
    obtain ⟨m2, mm2, b1, b2, b3, b4, b5, b6, b7, b8, b9⟩ := yearsL t (s + 1) N N' (c + (yrF (hN g) 0 g 3 - g 3)) (jw (y + 1)) (yrF (hN g) 0 g) m1 mm1 (by omega) ha (by omega) (by omega) (by omega) (by omega) a3 a9 a4
    show ∃ m2 mm2, f_Actions_passingL (N + 1) m (a : Int) c0 (s : Int) = some (jw (yrs t (yrF (hN g) 0 g) 3 - c0), mset m2 1 2 (jw (g 2 + a))) ∧ Fr m m2 ∧ R0 m2 (yrs t (yrF (hN g) 0 g)) od ps ∧ GL (yrs t (yrF (hN g) 0 g)) ∧ yrs t (yrF (hN g) 0 g) 2 = g 2 ∧ g 3 ≤ yrs t (yrF (hN g) 0 g) 3 ∧ f_Mod_passYearsL (N' + 1) mm (a : Int) c (s : Int) = some (c + (yrs t (yrF (hN g) 0 g) 3 - g 3), mm2) ∧ mm2 148 = jyr (yrs t (yrF (hN g) 0 g)) (yi t (jw (y + 1))) ∧ ∀ q, q ≠ 148 → mm2 q = mm q
    refine ⟨m2, mm2, ?_, a2.trans b2, b3, b4, b5.trans a6, Int.le_trans a7 b6, ?_, b8, fun q hq => (b9 q hq).trans (a10 q hq)⟩
    · conv => lhs; unfold f_Actions_passingL
      rw [if_pos (by omega), e1, Option.bind_some, jw_s (by omega), b1, a6]
    · conv => lhs; unfold f_Mod_passYearsL
      rw [if_pos (by omega), e2, Option.bind_some]
      show f_Mod_passYearsL N' mm1 (a : Int) (jw (c + (0 + (yrF (hN g) 0 g 3 - g 3)))) (jw ((s : Int) + 1)) = _
      rw [jw_s (by omega), Int.zero_add, jw_id ⟨by omega, by omega⟩, b7]
      congr 2
      omega
theorem R0_jy {m : jMem} {g : Nat → Int} {y : Int} (P : R0 m g od ps) : R0 (mset m 1 2 y) (jyr g y) od ps := by
  obtain ⟨H, R, Y, V, W, T⟩ := P
  obtain ⟨H', V'⟩ := RP.cg V (g' := jyr g y) (jy_o (by omega)) (fun j h1 h2 => jy_o (by omega)) (H.mv (m' := mset m 1 2 y) fun q h1 h2 => mset_ne (by omega))
  refine ⟨H', RH.cg (fun j hj => jy_o (by omega)) (R.mv fun q h1 h2 => mset_ne (by omega)), ?_, V', jy_W W, ⟨fun j hj => ?_, fun j hj => ?_⟩⟩
  · rw [ms_f, jy_2]
  · rw [ms_o (by omega)]; exact T.1 j hj
  · rw [ms_o (by omega), ms_o (by omega), ms_o (by omega)]; exact T.2 j hj
theorem jy_self (g : Nat → Int) : jyr g (g 2) = g := by
  funext j
  by_cases h : j = 2
  · rw [h, jy_2]
  · exact jy_o h
theorem jy_GL {g : Nat → Int} {y : Int} (L : GL g) : GL (jyr g y) := by
  have e : gal (jyr g y) = gal g := gal_cg (ga_cg fun j h1 h2 => jy_o (by omega))
  intro l hl
  rw [jy_hN] at hl
  rw [jy_hh, e]
  exact L l hl
theorem o_pass {m0 : jMem} {g : Nat → Int} (P0 : R0 m0 g od ps) (L : GL g) {a : Nat} (ha : 1 ≤ a ∧ a ≤ 9) (c : Int) : ∃ x : Int × (Nat → Int), AS (fun m => f_Actions_passing m (a : Int)) g od ps (some (.inl x)) ∧ MS Fz (fun m => f_Mod_passYears m (a : Int)) g c (some (.inl x)) := by
  obtain ⟨t, ht⟩ : ∃ t, a = t + 1 := ⟨a - 1, by omega⟩
  have key := fun (m mm : jMem) (P : R0 m g od ps) (hg : mm 148 = g) => yearsL (a := a) (c0 := g 3) a 0 99999 99999 0 (g 2) g m mm (by omega) (by omega) (by omega) (by omega) (by omega) P.W.cn.1 P (hg.trans (jy_self g).symm) L
  refine ⟨(yrs a g 3 - g 3, jyr (yrs a g) (jw (g 2 + (a : Int)))), fun m P => ?_, fun m hg m5 e5 hg5 => ?_⟩
  · obtain ⟨m2, mm2, b1, b2, b3, b4, b5, b6, b7, b8, b9⟩ := key m (fun _ => g) P rfl
    have h1 := P.W.cn
    have h2 := b3.W.cn
    refine ⟨show 0 ≤ yrs a g 3 - g 3 by omega, jy_GL b4, mset m2 1 2 (jw (g 2 + (a : Int))), od, ps, ?_, fun q hq => (mset_ne (by omega)).trans (b2 q hq), R0_jy b3⟩
    show f_Actions_passing m (a : Int) = _
    unfold f_Actions_passing f_Reg_isYears
    rw [if_neg (by omega), if_neg (by omega), Option.bind_some, if_neg (by omega), show m 7 6 = g 3 from P.R.1.2.1]
    rw [jw_id (z := yrs a g 3 - g 3) ⟨by omega, by omega⟩] at b1
    exact b1
  · obtain ⟨m2, mm2, b1, b2, b3, b4, b5, b6, b7, b8, b9⟩ := key m0 m5 P0 hg5
    refine ⟨mm2, ?_, ?_, b9⟩
    · show f_Mod_passYears m (a : Int) = _
      unfold f_Mod_passYears f_Mod_in
      rw [if_neg (by omega), if_neg (by omega), Option.bind_some, if_neg (by omega), M_fails0, Option.bind_some]
      dsimp only
      rw [if_pos rfl, show f_Mod_keeps_148 (Fm m 0) = some m5 from e5, Option.bind_some]
      rw [Int.zero_add] at b7
      exact b7
    · rw [b8, ht, yi_s]
end Years2

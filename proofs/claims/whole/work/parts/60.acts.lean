/-! ===== the changes of one habit ===== -/
theorem ifk {f : Nat → Int} {k : Nat} {a : Int} (h : f k = a) (l : Nat) : f l = if l = k then a else f l := by
  by_cases e : l = k
  · rw [if_pos e, e, h]
  · rw [if_neg e]
def Fr (m m2 : jMem) : Prop := ∀ q, (q = 0 ∨ 13 ≤ q) → m2 q = m q
theorem Fr.refl (m : jMem) : Fr m m := fun _ _ => rfl
theorem Fr.trans {m1 m2 m3 : jMem} (h : Fr m1 m2) (h' : Fr m2 m3) : Fr m1 m3 := fun q hq => (h' q hq).trans (h q hq)
theorem H_in' {m : jMem} {g : Nat → Int} (W : GH g) (h : m 7 5 = g 1) {k : Nat} (hkl : k < hN g) : f_Habits_has m (k : Int) = some 1 := by
  have hn := W.n
  unfold f_Habits_has
  rw [h, if_neg (by omega), if_pos (by omega)]
section Acts
variable {m : jMem} {g : Nat → Int} {od ps : Nat → Nat} {k : Nat}
theorem R0.H (P : R0 m g od ps) : RP 1 m g od ps := P.1
theorem R0.R (P : R0 m g od ps) : RH 1 m g := P.2.1
theorem R0.V (P : R0 m g od ps) : GP g := P.2.2.2.1
theorem R0.W (P : R0 m g od ps) : GH g := P.2.2.2.2.1
theorem R0.T (P : R0 m g od ps) : TY 1 m := P.2.2.2.2.2
theorem R0.rs (P : R0 m g od ps) (L : GL g) : RS 1 m g := ⟨od, ps, P.1, P.2.1, P.2.2.1, P.V, P.W, L⟩
theorem GH.cn (W : GH g) : 0 ≤ g 3 ∧ 0 ≤ g 4 ∧ 0 ≤ g 5 ∧ g 3 + g 4 + g 5 ≤ 20 := by
  have h1 := W.2.2.2
  have h2 := cnt_le (fun y => !hld g y) (hN g)
  have h3 := W.n
  exact ⟨h1.1, h1.2.1, h1.2.2.1, by omega⟩
/-- fewer than all are extinct while one is held -/
theorem GH.cn1 (W : GH g) (hkl : k < hN g) (h : 0 ≤ hh g k) : g 3 + g 4 + g 5 ≤ 19 := by
  have h1 := W.2.2.2
  have h3 := W.n
  have h4 := cnt_add (P := fun y => !hld g y) (P' := fun y => !hld g y || Nat.beq y k) hkl (by
    show (!decide (0 ≤ hh g k)) = false
    rw [decide_eq_true h]
    rfl) (by rw [Nat.beq_refl, Bool.or_true]) (fun y _ hy => by
    have : Nat.beq y k = false := by
      cases hb : Nat.beq y k with
      | false => rfl
      | true => exact absurd (Nat.eq_of_beq_eq_true hb) hy
    rw [this, Bool.or_false])
  have h5 := cnt_le (fun y => !hld g y || Nat.beq y k) (hN g)
  omega
theorem A_str (P : R0 m g od ps) (hkl : k < hN g) (h0 : 0 ≤ hh g k) (h9 : hs g k < 9) : ∃ m2, f_Habits_strengthen m (k : Int) = some m2 ∧ Fr m m2 ∧ R0 m2 (hput g k (hh g k) (hs g k + 1) (he g k) 1 (g 3) (g 4) (g 5)) od ps := by
  have W := P.W
  have R := P.R
  have hW := W.n
  have B := W.hb hkl
  have hS := B.s
  have hn := P.V.n
  refine ⟨mset (mset m 9 k (hs g k + 1)) 12 k 1, ?_, fun q hq => by rw [mset_ne (by omega), mset_ne (by omega)], put P hkl ⟨fun q h1 h2 => by rw [mset_ne (by omega), mset_ne (by omega)], ?_, ?_, fun l => ?_, fun l => ?_, fun l => ?_, fun l => ?_⟩ ?_ ?_ ⟨W.cn.1, W.cn.2.1, W.cn.2.2.1, ?_⟩ (fun h => h)⟩
  · unfold f_Habits_strengthen
    rw [H_in W R hkl, Option.bind_some, if_neg (by omega)]
    simp only [oix_n (show k < 20 by omega), Int.toNat_natCast]
    rw [R.st hkl, jw_id ⟨by omega, by omega⟩, if_neg (by omega)]
  · simp (disch := omega) only [ms_o]
    exact ⟨trivial, R.1.2.1, R.1.2.2.1, R.1.2.2.2⟩
  · rw [mset_ne (by omega), mset_ne (by omega)]
  · rw [ms_o (by omega), ms_s]
  · rw [ms_o (by omega), ms_o (by omega)]
    exact ifk (R.ho hkl) l
  · rw [ms_o (by omega), ms_o (by omega)]
    exact ifk (R.en hkl) l
  · rw [ms_s, ms_o (by omega)]
  · rcases B.1 with h | h
    · omega
    · exact Or.inr ⟨h.1, h.2.1, by omega, by omega, h.2.2.2.2.1, Or.inr rfl⟩
  · intro l hl hne _ h1 h2
    exact hne (W.2.2.1 l k hl hkl (by omega) h1 h2)
  · rw [if_neg (by omega), Int.add_zero]
/-- ended, with its counter -/
theorem A_endP (P : R0 m g od ps) (hkl : k < hN g) (h0 : 0 ≤ hh g k) {m0 : jMem} {n3 n4 n5 : Int} (hn3 : n3 = g 3 ∨ n3 = g 3 + 1) (hn4 : n4 = g 4 ∨ n4 = g 4 + 1) (hn5 : n5 = g 5 ∨ n5 = g 5 + 1) (hs1 : n3 + n4 + n5 = g 3 + g 4 + g 5 + 1)
    (e0 : m0 7 5 = m 7 5 ∧ m0 7 6 = n3 ∧ m0 7 7 = n4 ∧ m0 7 8 = n5) (e1 : ∀ q, q ≠ 7 → q ≠ 9 → m0 q = m q) (e9 : ∀ l, l ≠ k → m0 9 l = m 9 l) : ∃ m2, f_Habits_end m0 (k : Int) = some m2 ∧ Fr m m2 ∧ R0 m2 (hput g k (-1) 0 0 0 n3 n4 n5) od ps := by
  have W := P.W
  have R := P.R
  have hW := W.n
  have hc := W.cn
  refine ⟨mset (mset (mset (mset m0 9 k 0) 10 k (-1)) 11 k 0) 12 k 0, ?_, fun q hq => by rw [mset_ne (by omega), mset_ne (by omega), mset_ne (by omega), mset_ne (by omega)]; exact e1 q (by omega) (by omega), put P hkl ⟨fun q h1 h2 => ?_, ?_, ?_, fun l => ?_, fun l => ?_, fun l => ?_, fun l => ?_⟩ (Or.inl ⟨rfl, rfl, rfl, rfl⟩) (fun l _ _ h => by omega) ⟨by omega, by omega, by omega, ?_⟩ (fun h => by omega)⟩
  · unfold f_Habits_end
    rw [H_in' W (e0.1.trans R.1.1) hkl, Option.bind_some, if_neg (by omega)]
    simp only [oix_n (show k < 20 by omega), Int.toNat_natCast]
  · rw [mset_ne (by omega), mset_ne (by omega), mset_ne (by omega), mset_ne (by omega)]
    exact e1 q (by omega) (by omega)
  · simp (disch := omega) only [ms_o]
    exact e0
  · rw [mset_ne (by omega), mset_ne (by omega), mset_ne (by omega), mset_ne (by omega)]
    exact e1 8 (by omega) (by omega)
  · rw [ms_o (by omega), ms_o (by omega), ms_o (by omega), ms_s]
    by_cases h : l = k
    · rw [if_pos h, if_pos h]
    · rw [if_neg h, if_neg h, e9 l h]
  · rw [ms_o (by omega), ms_o (by omega), ms_s, ms_o (by omega), e1 10 (by omega) (by omega)]
  · rw [ms_o (by omega), ms_s, ms_o (by omega), ms_o (by omega), e1 11 (by omega) (by omega)]
  · rw [ms_s, ms_o (by omega), ms_o (by omega), ms_o (by omega), e1 12 (by omega) (by omega)]
  · rw [if_pos ⟨h0, by omega⟩]
    exact hs1
/-- a habit weaker by one, or lapsed -/
def wk (g : Nat → Int) (k : Nat) : Nat → Int := if hs g k = 1 then hput g k (-1) 0 0 0 (g 3 + 1) (g 4) (g 5) else hput g k (hh g k) (hs g k - 1) (he g k) (hpr g k) (g 3) (g 4) (g 5)
theorem wk_hs (B : HB g k) (h0 : 0 ≤ hh g k) : hs (wk g k) k = hs g k - 1 := by
  unfold wk
  by_cases h : hs g k = 1
  · rw [if_pos h, hp_hs, if_pos rfl, h]
    rfl
  · rw [if_neg h, hp_hs, if_pos rfl]
theorem A_weak (P : R0 m g od ps) (hkl : k < hN g) (h0 : 0 ≤ hh g k) : ∃ m2, f_Habits_weaken m (k : Int) = some m2 ∧ Fr m m2 ∧ R0 m2 (wk g k) od ps := by
  have W := P.W
  have R := P.R
  have hW := W.n
  have B := W.hb hkl
  have hS := B.s
  have hc := W.cn
  unfold f_Habits_weaken
  rw [H_held W R hkl, if_pos h0, Option.bind_some, if_neg (by omega)]
  simp only [oix_n (show k < 20 by omega), Int.toNat_natCast]
  rw [ms_f, R.st hkl, jw_id (z := hs g k - 1) ⟨by omega, by omega⟩]
  by_cases h : hs g k = 1
  · rw [if_pos (by omega), ms_o (by omega), show m 7 6 = g 3 from R.1.2.1, jw_id ⟨by omega, by omega⟩]
    obtain ⟨m2, e, f, Q⟩ := A_endP P hkl h0 (m0 := mset (mset m 9 k (hs g k - 1)) 7 6 (g 3 + 1)) (n3 := g 3 + 1) (n4 := g 4) (n5 := g 5) (Or.inr rfl) (Or.inl rfl) (Or.inl rfl) (by omega) ⟨by rw [ms_g (by omega), ms_o (by omega)], ms_f, by rw [ms_g (by omega), ms_o (by omega)]; exact R.1.2.2.1, by rw [ms_g (by omega), ms_o (by omega)]; exact R.1.2.2.2⟩ (fun q h1 h2 => by rw [mset_ne h1, mset_ne h2]) (fun l hl => by rw [ms_o (by omega), ms_g hl])
    refine ⟨m2, ?_, f, ?_⟩
    · rw [e]
      rfl
    · unfold wk
      rw [if_pos h]
      exact Q
  · rw [if_neg (by omega)]
    refine ⟨_, rfl, fun q hq => mset_ne (by omega), ?_⟩
    unfold wk
    rw [if_neg h]
    refine put P hkl ⟨fun q h1 h2 => mset_ne (by omega), ?_, mset_ne (by omega), fun l => ms_s, fun l => ?_, fun l => ?_, fun l => ?_⟩ ?_ ?_ ⟨W.cn.1, W.cn.2.1, W.cn.2.2.1, ?_⟩ (fun h => h)
    · simp (disch := omega) only [ms_o]
      exact ⟨trivial, R.1.2.1, R.1.2.2.1, R.1.2.2.2⟩
    · rw [ms_o (by omega)]
      exact ifk (R.ho hkl) l
    · rw [ms_o (by omega)]
      exact ifk (R.en hkl) l
    · rw [ms_o (by omega)]
      exact ifk (R.pr hkl) l
    · rcases B.1 with h3 | h3
      · omega
      · exact Or.inr ⟨h3.1, h3.2.1, by omega, by omega, h3.2.2.2.2.1, h3.2.2.2.2.2⟩
    · intro l hl hne _ h1 h2
      exact hne (W.2.2.1 l k hl hkl (by omega) h1 h2)
    · rw [if_neg (by omega), Int.add_zero]
theorem A_bind (P : R0 m g od ps) (hkl : k < hN g) (h0 : 0 ≤ hh g k) : ∃ m2, f_Habits_bind m (k : Int) = some m2 ∧ Fr m m2 ∧ R0 m2 (hput g k (hh g k) (hs g k) 1 (hpr g k) (g 3) (g 4) (g 5)) od ps := by
  have W := P.W
  have R := P.R
  have hW := W.n
  have B := W.hb hkl
  have hc := W.cn
  refine ⟨mset m 11 k 1, ?_, fun q hq => mset_ne (by omega), put P hkl ⟨fun q h1 h2 => mset_ne (by omega), ?_, mset_ne (by omega), fun l => ?_, fun l => ?_, fun l => ms_s, fun l => ?_⟩ ?_ ?_ ⟨W.cn.1, W.cn.2.1, W.cn.2.2.1, ?_⟩ (fun h => h)⟩
  · unfold f_Habits_bind
    rw [H_in W R hkl, Option.bind_some, if_neg (by omega)]
    simp only [oix_n (show k < 20 by omega), Int.toNat_natCast]
  · simp (disch := omega) only [ms_o]
    exact ⟨trivial, R.1.2.1, R.1.2.2.1, R.1.2.2.2⟩
  · rw [ms_o (by omega)]
    exact ifk (R.st hkl) l
  · rw [ms_o (by omega)]
    exact ifk (R.ho hkl) l
  · rw [ms_o (by omega)]
    exact ifk (R.pr hkl) l
  · rcases B.1 with h3 | h3
    · omega
    · exact Or.inr ⟨h3.1, h3.2.1, h3.2.2.1, h3.2.2.2.1, Or.inr rfl, h3.2.2.2.2.2⟩
  · intro l hl hne _ h1 h2
    exact hne (W.2.2.1 l k hl hkl (by omega) h1 h2)
  · rw [if_neg (by omega), Int.add_zero]
theorem A_free (P : R0 m g od ps) (hkl : k < hN g) (h0 : 0 ≤ hh g k) : ∃ m2, f_Habits_free m (k : Int) = some m2 ∧ Fr m m2 ∧ R0 m2 (hput g k (hh g k) ((hs g k + 1) / 2) 0 (hpr g k) (g 3) (g 4) (g 5)) od ps := by
  have W := P.W
  have R := P.R
  have hW := W.n
  have B := W.hb hkl
  have hS := B.s
  have hc := W.cn
  refine ⟨mset (mset m 11 k 0) 9 k ((hs g k + 1) / 2), ?_, fun q hq => by rw [mset_ne (by omega), mset_ne (by omega)], put P hkl ⟨fun q h1 h2 => by rw [mset_ne (by omega), mset_ne (by omega)], ?_, ?_, fun l => ?_, fun l => ?_, fun l => ?_, fun l => ?_⟩ ?_ ?_ ⟨W.cn.1, W.cn.2.1, W.cn.2.2.1, ?_⟩ (fun h => h)⟩
  · unfold f_Habits_free
    rw [H_in W R hkl, Option.bind_some, if_neg (by omega)]
    simp only [oix_n (show k < 20 by omega), Int.toNat_natCast]
    rw [ms_o (by omega), R.st hkl, jw_id ⟨by omega, by omega⟩, if_pos ⟨by omega, by omega⟩]
  · simp (disch := omega) only [ms_o]
    exact ⟨trivial, R.1.2.1, R.1.2.2.1, R.1.2.2.2⟩
  · rw [mset_ne (by omega), mset_ne (by omega)]
  · rw [ms_s, ms_o (by omega)]
  · rw [ms_o (by omega), ms_o (by omega)]
    exact ifk (R.ho hkl) l
  · rw [ms_o (by omega), ms_s]
  · rw [ms_o (by omega), ms_o (by omega)]
    exact ifk (R.pr hkl) l
  · rcases B.1 with h3 | h3
    · omega
    · exact Or.inr ⟨h3.1, h3.2.1, by omega, by omega, Or.inl rfl, h3.2.2.2.2.2⟩
  · intro l hl hne _ h1 h2
    exact hne (W.2.2.1 l k hl hkl (by omega) h1 h2)
  · rw [if_neg (by omega), Int.add_zero]
theorem A_move (P : R0 m g od ps) (hkl : k < hN g) (h0 : 0 ≤ hh g k) {p : Nat} (hp3 : p < gn g) (hno : hf g (p : Int) (hk g k) = -1) : ∃ m2, f_Habits_move m (k : Int) (p : Int) = some m2 ∧ Fr m m2 ∧ R0 m2 (hput g k (p : Int) (hs g k) (he g k) (hpr g k) (g 3) (g 4) (g 5)) od ps := by
  have W := P.W
  have R := P.R
  have hW := W.n
  have B := W.hb hkl
  have hc := W.cn
  refine ⟨mset m 10 k (p : Int), ?_, fun q hq => mset_ne (by omega), put P hkl ⟨fun q h1 h2 => mset_ne (by omega), ?_, mset_ne (by omega), fun l => ?_, fun l => ms_s, fun l => ?_, fun l => ?_⟩ ?_ ?_ ⟨W.cn.1, W.cn.2.1, W.cn.2.2.1, ?_⟩ (fun _ => h0)⟩
  · unfold f_Habits_move
    rw [H_in W R hkl, Option.bind_some, if_neg (by omega)]
    simp only [oix_n (show k < 20 by omega), Int.toNat_natCast]
  · simp (disch := omega) only [ms_o]
    exact ⟨trivial, R.1.2.1, R.1.2.2.1, R.1.2.2.2⟩
  · rw [ms_o (by omega)]
    exact ifk (R.st hkl) l
  · rw [ms_o (by omega)]
    exact ifk (R.en hkl) l
  · rw [ms_o (by omega)]
    exact ifk (R.pr hkl) l
  · rcases B.1 with h3 | h3
    · omega
    · exact Or.inr ⟨by omega, by omega, h3.2.2.1, h3.2.2.2.1, h3.2.2.2.2.1, h3.2.2.2.2.2⟩
  · intro l hl hne _ h1
    rcases hf_spec g (p : Int) (hk g k) with ⟨-, h2⟩ | ⟨l2, h2, -⟩
    · exact h2 l hl h1
    · omega
  · rw [if_neg (by omega), Int.add_zero]
/-! the model's -/
theorem B_str (W : GH g) (hkl : k < hN g) {m5 : jMem} (hg : m5 148 = g) (x y : Int) : (mset (mset m5 148 (40 + 5 * k) x) 148 (42 + 5 * k) y) 148 = hput g k (hh g k) x (he g k) y (g 3) (g 4) (g 5) := by
  refine hput_ext ?_ ?_ ?_ ?_ ?_ ?_ ?_ fun i h1 h2 h3 h4 h5 h6 h7 => ?_
  · rw [ms_g (by omega), ms_g (by omega), hg]; rfl
  · rw [ms_g (by omega), ms_f]
  · rw [ms_g (by omega), ms_g (by omega), hg]; rfl
  · rw [ms_f]
  · rw [ms_g (by omega), ms_g (by omega), hg]
  · rw [ms_g (by omega), ms_g (by omega), hg]
  · rw [ms_g (by omega), ms_g (by omega), hg]
  · rw [ms_g h4, ms_g h2, hg]
theorem B_ent {m5 : jMem} (hg : m5 148 = g) (x : Int) : (mset m5 148 (41 + 5 * k) x) 148 = hput g k (hh g k) (hs g k) x (hpr g k) (g 3) (g 4) (g 5) := by
  refine hput_ext ?_ ?_ ?_ ?_ ?_ ?_ ?_ fun i h1 h2 h3 h4 h5 h6 h7 => ?_
  · rw [ms_g (by omega), hg]; rfl
  · rw [ms_g (by omega), hg]; rfl
  · rw [ms_f]
  · rw [ms_g (by omega), hg]; rfl
  · rw [ms_g (by omega), hg]
  · rw [ms_g (by omega), hg]
  · rw [ms_g (by omega), hg]
  · rw [ms_g h3, hg]
theorem B_free {m5 : jMem} (hg : m5 148 = g) (x y : Int) : (mset (mset m5 148 (41 + 5 * k) x) 148 (40 + 5 * k) y) 148 = hput g k (hh g k) y x (hpr g k) (g 3) (g 4) (g 5) := by
  refine hput_ext ?_ ?_ ?_ ?_ ?_ ?_ ?_ fun i h1 h2 h3 h4 h5 h6 h7 => ?_
  · rw [ms_g (by omega), ms_g (by omega), hg]; rfl
  · rw [ms_f]
  · rw [ms_g (by omega), ms_f]
  · rw [ms_g (by omega), ms_g (by omega), hg]; rfl
  · rw [ms_g (by omega), ms_g (by omega), hg]
  · rw [ms_g (by omega), ms_g (by omega), hg]
  · rw [ms_g (by omega), ms_g (by omega), hg]
  · rw [ms_g h2, ms_g h3, hg]
theorem B_move {m5 : jMem} (hg : m5 148 = g) (x : Int) : (mset m5 148 (38 + 5 * k) x) 148 = hput g k x (hs g k) (he g k) (hpr g k) (g 3) (g 4) (g 5) := by
  refine hput_ext ?_ ?_ ?_ ?_ ?_ ?_ ?_ fun i h1 h2 h3 h4 h5 h6 h7 => ?_
  · rw [ms_f]
  · rw [ms_g (by omega), hg]; rfl
  · rw [ms_g (by omega), hg]; rfl
  · rw [ms_g (by omega), hg]; rfl
  · rw [ms_g (by omega), hg]
  · rw [ms_g (by omega), hg]
  · rw [ms_g (by omega), hg]
  · rw [ms_g h1, hg]
theorem M_lay2 {m' : jMem} (h : k < 20) (x : Int) : f_Mod_lays m' (k : Int) 2 x = some (mset m' 148 (40 + 5 * k) x) := (M_lays h 2 (by omega) x).trans (by rw [show 38 + 5 * k + 2 = 40 + 5 * k by omega])
theorem M_lay3 {m' : jMem} (h : k < 20) (x : Int) : f_Mod_lays m' (k : Int) 3 x = some (mset m' 148 (41 + 5 * k) x) := (M_lays h 3 (by omega) x).trans (by rw [show 38 + 5 * k + 3 = 41 + 5 * k by omega])
theorem M_lay4 {m' : jMem} (h : k < 20) (x : Int) : f_Mod_lays m' (k : Int) 4 x = some (mset m' 148 (42 + 5 * k) x) := (M_lays h 4 (by omega) x).trans (by rw [show 38 + 5 * k + 4 = 42 + 5 * k by omega])
theorem M_lay0 {m' : jMem} (h : k < 20) (x : Int) : f_Mod_lays m' (k : Int) 0 x = some (mset m' 148 (38 + 5 * k) x) := M_lays h 0 (by omega) x
theorem M_weak (W : GH g) (hkl : k < hN g) (h0 : 0 ≤ hh g k) {m5 : jMem} (hg : m5 148 = g) : ∃ m6, f_Mod_weakens m5 (k : Int) = some (if hs g k = 1 then 1 else 0, m6) ∧ m6 148 = wk g k ∧ ∀ q, q ≠ 148 → m6 q = m5 q := by
  have hW := W.n
  have B := W.hb hkl
  have hS := B.s
  have hc := W.cn
  have e2 : f_Mod_of (mset m5 148 (40 + 5 * k) (hs g k - 1)) (k : Int) 2 = some (hs g k - 1) := by
    rw [M_hs rfl (by omega)]
    unfold hs
    rw [ms_f]
  unfold f_Mod_weakens
  rw [M_hs hg (by omega), Option.bind_some, jw_id ⟨by omega, by omega⟩, M_lay2 (by omega), Option.bind_some, e2, Option.bind_some]
  by_cases h : hs g k = 1
  · rw [if_neg (by omega), M_ends (by omega), Option.bind_some]
    unfold wk
    rw [if_pos h, if_pos h]
    generalize hm : mset (mset (mset (mset (mset m5 148 (40 + 5 * k) (hs g k - 1)) 148 (38 + 5 * k) (-1)) 148 (40 + 5 * k) 0) 148 (41 + 5 * k) 0) 148 (42 + 5 * k) 0 = m4
    have r3 : m4 148 3 = g 3 := by rw [← hm, ms_g (by omega), ms_g (by omega), ms_g (by omega), ms_g (by omega), ms_g (by omega), hg]
    refine ⟨mset m4 148 3 (g 3 + 1), ?_, ?_, fun q hq => ?_⟩
    · show oix (3 : Int) 138 (oix (3 : Int) 138 (some ((1 : Int), mset m4 148 3 (jw (m4 148 3 + 1))))) = _
      rw [r3, jw_id ⟨by omega, by omega⟩]
      rfl
    · rw [← hm]
      refine hput_ext ?_ ?_ ?_ ?_ ?_ ?_ ?_ fun i h1 h2 h3 h4 h5 h6 h7 => ?_
      · rw [ms_g (by omega), ms_g (by omega), ms_g (by omega), ms_g (by omega), ms_f]
      · rw [ms_g (by omega), ms_g (by omega), ms_g (by omega), ms_f]
      · rw [ms_g (by omega), ms_g (by omega), ms_f]
      · rw [ms_g (by omega), ms_f]
      · rw [ms_f]
      · rw [ms_g (by omega), ms_g (by omega), ms_g (by omega), ms_g (by omega), ms_g (by omega), ms_g (by omega), hg]
      · rw [ms_g (by omega), ms_g (by omega), ms_g (by omega), ms_g (by omega), ms_g (by omega), ms_g (by omega), hg]
      · rw [ms_g h5, ms_g h4, ms_g h3, ms_g h2, ms_g h1, ms_g h2, hg]
    · rw [mset_ne hq, ← hm, mset_ne hq, mset_ne hq, mset_ne hq, mset_ne hq, mset_ne hq]
  · rw [if_pos (by omega)]
    unfold wk
    rw [if_neg h, if_neg h]
    refine ⟨_, rfl, ?_, fun q hq => mset_ne hq⟩
    refine hput_ext ?_ ?_ ?_ ?_ ?_ ?_ ?_ fun i h1 h2 h3 h4 h5 h6 h7 => ?_
    · rw [ms_g (by omega), hg]; rfl
    · rw [ms_f]
    · rw [ms_g (by omega), hg]; rfl
    · rw [ms_g (by omega), hg]; rfl
    · rw [ms_g (by omega), hg]
    · rw [ms_g (by omega), hg]
    · rw [ms_g (by omega), hg]
    · rw [ms_g h2, hg]
end Acts

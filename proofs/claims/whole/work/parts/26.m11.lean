/-! ===== the model 11 ===== -/
section
variable (cl : Nat → List jV → jH → jR) (bk : Nat → jL → List jV → jH → jR) (n : Nat)
theorem E287_0 (a : Nat) (st : List jV) (w : jH) : jblk jT0 287 cl bk (n + 1) 0 [some (jr a)] st w = jblk jT0 287 cl bk n 1 [some (jr a)] (jr a :: st) w := rfl
theorem E287_1 (a : Nat) (st : List jV) (w : jH) : jblk jT0 287 cl bk (n + 1) 1 [some (jr a)] st w = jblk jT0 287 cl bk n 2 [some (jr a)] (jr a :: st) w := rfl
theorem E287_2 (a : Nat) (st : List jV) (l0 : Option jV) (w : jH) : jblk jT0 287 cl bk (n + 1) 2 [l0] (jr a :: st) w = jgf w a 9 4 fun v => jblk jT0 287 cl bk n 5 [l0] (v :: st) w := rfl
theorem E287_5 (x : Int) (st : List jV) (l0 : Option jV) (w : jH) : jblk jT0 287 cl bk (n + 1) 5 [l0] (.inl x :: st) w = if x = 0 then jblk jT0 287 cl bk n 12 [l0] st w else jblk jT0 287 cl bk n 8 [l0] st w := rfl
theorem E287_8 (st : List jV) (l0 : Option jV) (w : jH) : jblk jT0 287 cl bk (n + 1) 8 [l0] st w = jblk jT0 287 cl bk n 9 [l0] (.inl 0 :: st) w := rfl
theorem E287_9 (st : List jV) (l0 : Option jV) (w : jH) : jblk jT0 287 cl bk (n + 1) 9 [l0] st w = jblk jT0 287 cl bk n 13 [l0] st w := rfl
theorem E287_12 (st : List jV) (l0 : Option jV) (w : jH) : jblk jT0 287 cl bk (n + 1) 12 [l0] st w = jblk jT0 287 cl bk n 13 [l0] (.inl 1 :: st) w := rfl
theorem E287_13 (a : Nat) (v0 : jV) (st : List jV) (l0 : Option jV) (w : jH) : jblk jT0 287 cl bk (n + 1) 13 [l0] (v0 :: jr a :: st) w = jsh st (jgo w a 9 fun _ => jcl (cl 178 [jr a, v0] w) (fun v w' => jblk jT0 287 cl bk n 16 [l0] (jpush v st) w') (fun E w' => some (.inr E, w'))) := rfl
theorem E287_16 (x : Int) (st : List jV) (l0 : Option jV) (w : jH) : jblk jT0 287 cl bk (n + 1) 16 [l0] (.inl x :: st) w = if x = 0 then jblk jT0 287 cl bk n 21 [l0] st w else jblk jT0 287 cl bk n 19 [l0] st w := rfl
theorem E287_19 (st : List jV) (l0 : Option jV) (w : jH) : jblk jT0 287 cl bk (n + 1) 19 [l0] st w = jblk jT0 287 cl bk n 20 [l0] (.inl 0 :: st) w := rfl
theorem E287_20 (x : Int) (l0 : Option jV) (w : jH) : jblk jT0 287 cl bk (n + 1) 20 [l0] [.inl x] w = if jfits .int x = true then some (.inl (some (.inl x)), w) else none := rfl
theorem E287_21 (a : Nat) (st : List jV) (w : jH) : jblk jT0 287 cl bk (n + 1) 21 [some (jr a)] st w = jblk jT0 287 cl bk n 22 [some (jr a)] (jr a :: st) w := rfl
theorem E287_22 (a : Nat) (st : List jV) (l0 : Option jV) (w : jH) : jblk jT0 287 cl bk (n + 1) 22 [l0] (jr a :: st) w = jgf w a 9 2 fun v => jblk jT0 287 cl bk n 25 [l0] (v :: st) w := rfl
theorem E287_25 (st : List jV) (l0 : Option jV) (w : jH) : jblk jT0 287 cl bk (n + 1) 25 [l0] st w = jblk jT0 287 cl bk n 26 [l0] (.inl 0 :: st) w := rfl
theorem E287_26 (a : Nat) (st : List jV) (w : jH) : jblk jT0 287 cl bk (n + 1) 26 [some (jr a)] st w = jblk jT0 287 cl bk n 27 [some (jr a)] (jr a :: st) w := rfl
theorem E287_27 (a : Nat) (st : List jV) (l0 : Option jV) (w : jH) : jblk jT0 287 cl bk (n + 1) 27 [l0] (jr a :: st) w = jgf w a 9 0 fun v => jblk jT0 287 cl bk n 30 [l0] (v :: st) w := rfl
theorem E287_30 (st : List jV) (l0 : Option jV) (w : jH) : jblk jT0 287 cl bk (n + 1) 30 [l0] st w = jblk jT0 287 cl bk n 31 [l0] (.inl 0 :: st) w := rfl
theorem E287_31 (v0 : jV) (v1 : jV) (v2 : jV) (v3 : jV) (st : List jV) (l0 : Option jV) (w : jH) : jblk jT0 287 cl bk (n + 1) 31 [l0] (v3 :: v2 :: v1 :: v0 :: st) w = jsh st (jcl (cl 182 [v0, v1, v2, v3] w) (fun v w' => jblk jT0 287 cl bk n 34 [l0] (jpush v st) w') (fun E w' => some (.inr E, w'))) := rfl
theorem E287_34 (a : Nat) (st : List jV) (w : jH) : jblk jT0 287 cl bk (n + 1) 34 [some (jr a)] st w = jblk jT0 287 cl bk n 35 [some (jr a)] (jr a :: st) w := rfl
theorem E287_35 (st : List jV) (l0 : Option jV) (w : jH) : jblk jT0 287 cl bk (n + 1) 35 [l0] st w = jblk jT0 287 cl bk n 36 [l0] (.inl 0 :: st) w := rfl
theorem E287_36 (a : Nat) (v : jV) (st : List jV) (l0 : Option jV) (w : jH) : jblk jT0 287 cl bk (n + 1) 36 [l0] (v :: jr a :: st) w = jpf w a 9 5 .int v fun w' => jblk jT0 287 cl bk n 39 [l0] st w' := rfl
theorem E287_39 (a : Nat) (st : List jV) (w : jH) : jblk jT0 287 cl bk (n + 1) 39 [some (jr a)] st w = jblk jT0 287 cl bk n 40 [some (jr a)] (jr a :: st) w := rfl
theorem E287_40 (a : Nat) (st : List jV) (l0 : Option jV) (w : jH) : jblk jT0 287 cl bk (n + 1) 40 [l0] (jr a :: st) w = jgf w a 9 0 fun v => jblk jT0 287 cl bk n 43 [l0] (v :: st) w := rfl
theorem E287_43 (st : List jV) (l0 : Option jV) (w : jH) : jblk jT0 287 cl bk (n + 1) 43 [l0] st w = jblk jT0 287 cl bk n 44 [l0] (.inl 0 :: st) w := rfl
theorem E287_44 (x : Int) (a : Nat) (st : List jV) (l0 : Option jV) (w : jH) : jblk jT0 287 cl bk (n + 1) 44 [l0] (.inl x :: jr a :: st) w = jlda w a x (fun z => jblk jT0 287 cl bk n 45 [l0] (.inl z :: st) w) := rfl
theorem E287_45 (x : Int) (l0 : Option jV) (w : jH) : jblk jT0 287 cl bk (n + 1) 45 [l0] [.inl x] w = if jfits .int x = true then some (.inl (some (.inl x)), w) else none := rfl
end
theorem M287 (d : Nat) (r0 : Nat) (w : jH) : jme jT0 jMx (d + 1) 287 [jr r0] w = jblk jT0 287 (jme jT0 jMx d) (jlp jT0 287 (jme jT0 jMx d) 99999) 4000 0 [some (jr r0)] [] w := (show _ = jlp jT0 287 (jme jT0 jMx d) 100000 0 [some (jr r0)] [] w from rfl).trans jlp_s
def f_Mod_copies_150_148L : Nat → jMem → Int → Int → Int → Option jMem
  | 0, _, _, _, _ => none
  | N + 1, m, a1, a3, a4 => if a4 < 138 then oix (jw (a1 + a4)) 138 (oix (jw (a3 + a4)) 138 (f_Mod_copies_150_148L N (mset m 148 (jw (a3 + a4)).toNat (m 150 (jw (a1 + a4)).toNat)) a1 a3 (jw (a4 + 1)))) else some (m)
def f_Mod_copies_150_148 (m : jMem) (a1 : Int) (a3 : Int) : Option jMem := f_Mod_copies_150_148L 99999 m a1 a3 0
section
variable {cf : jCf} {dv : UInt64}
set_option maxRecDepth 20000 in
set_option maxHeartbeats 4000000 in
theorem X182_150_148L (d : Nat) : ∀ (N : Nat) (m : jMem) (k : jM), (∀ (a1 a3 a4 : Int), jlp jT0 182 (jme jT0 jMx d) N 3 [some (jr (jn cf + 150)), some (.inl a1), some (jr (jn cf + 148)), some (.inl a3), some (.inl a4)] [] (hp cf dv m, k) = lVW cf dv k (f_Mod_copies_150_148L N m a1 a3 a4)) := by
  intro N
  induction N with
  | zero => intro m k; exact by intros; rfl
  | succ N ih =>
    intro m k
    intros
    rw [jlp_s]
    simp only [E182_0, E182_1, E182_3, E182_5, E182_8, E182_11, E182_12, E182_13, E182_15, E182_16, E182_17, E182_18, E182_20, E182_21, E182_22, E182_23, E182_26, E182_29, ai_150, as_148, jsh_n, jsh_I, jsh_R, jsh_II, jsh_IR, jsh_RI, jsh_RR, jsh_III, jsh_IIR, jsh_IRI, jsh_IRR, jsh_RII, jsh_RIR, jsh_RRI, jsh_RRR, jsh_IIII, jsh_IIIR, jsh_IIRI, jsh_IIRR, jsh_IRII, jsh_IRIR, jsh_IRRI, jsh_IRRR, jsh_RIII, jsh_RIIR, jsh_RIRI, jsh_RIRR, jsh_RRII, jsh_RRIR, jsh_RRRI, jsh_RRRR, jthr_hp, jc_l0, jc_lW, jc_lX, jc_lXW, jc_lVW, jc_lVX, jpush_n, jpush_s, obt_0, obt_1, och_0, och_32, och_100, och_115, och_104, och_33, och_43, och_60, jint, jbit, jchr, ijI, ijR, ijD, ijF, ↓reduceIte, Int.reduceEq, Int.reduceLT, reduceCtorEq, lVW_bind, lVW_ite, lVW_none, lVW_oix, lVW_obt, lVW_och, lVW_sel, lVW_oel, lVW_some, f_Mod_copies_150_148L, ih]
set_option maxRecDepth 20000 in
set_option maxHeartbeats 4000000 in
theorem X182_150_148 (d : Nat) (a1 : Int) (a3 : Int) (m : jMem) (k : jM) : jme jT0 jMx (d + 1) 182 [jr (jn cf + 150), .inl a1, jr (jn cf + 148), .inl a3] (hp cf dv m, k) = lVW cf dv k (f_Mod_copies_150_148 m a1 a3) := by
  simp only [M182, E182_0, E182_1, E182_3, E182_5, E182_8, E182_11, E182_12, E182_13, E182_15, E182_16, E182_17, E182_18, E182_20, E182_21, E182_22, E182_23, E182_26, E182_29, ai_150, as_148, jsh_n, jsh_I, jsh_R, jsh_II, jsh_IR, jsh_RI, jsh_RR, jsh_III, jsh_IIR, jsh_IRI, jsh_IRR, jsh_RII, jsh_RIR, jsh_RRI, jsh_RRR, jsh_IIII, jsh_IIIR, jsh_IIRI, jsh_IIRR, jsh_IRII, jsh_IRIR, jsh_IRRI, jsh_IRRR, jsh_RIII, jsh_RIIR, jsh_RIRI, jsh_RIRR, jsh_RRII, jsh_RRIR, jsh_RRRI, jsh_RRRR, jthr_hp, jc_l0, jc_lW, jc_lX, jc_lXW, jc_lVW, jc_lVX, jpush_n, jpush_s, obt_0, obt_1, och_0, och_32, och_100, och_115, och_104, och_33, och_43, och_60, jint, jbit, jchr, ijI, ijR, ijD, ijF, ↓reduceIte, Int.reduceEq, Int.reduceLT, reduceCtorEq, lVW_bind, lVW_ite, lVW_none, lVW_oix, lVW_obt, lVW_och, lVW_sel, lVW_oel, lVW_some, f_Mod_copies_150_148, X182_150_148L]
end
def f_Mod_restoreSnapshot (m : jMem) : Option (Int × jMem) := if (m 147 4) = 0 then (f_Mod_fails m 1).bind fun qx1 => if qx1.1 = 0 then (f_Mod_copies_150_148 qx1.2 0 0).bind fun m2 => oix (0 : Int) 138 (some ((mset m2 147 5 0) 148 (0 : Int).toNat, mset m2 147 5 0)) else some (0, qx1.2) else (f_Mod_fails m 0).bind fun qx3 => if qx3.1 = 0 then (f_Mod_copies_150_148 qx3.2 0 0).bind fun m4 => oix (0 : Int) 138 (some ((mset m4 147 5 0) 148 (0 : Int).toNat, mset m4 147 5 0)) else some (0, qx3.2)
section
variable {cf : jCf} {dv : UInt64}
set_option maxRecDepth 20000 in
set_option maxHeartbeats 4000000 in
theorem X287 (d : Nat) (m : jMem) (k : jM) : jme jT0 jMx (d + 2) 287 [jr (jn cf + 147)] (hp cf dv m, k) = lW cf dv k ijI (f_Mod_restoreSnapshot m) := by
  simp only [M287, E287_0, E287_1, E287_2, E287_5, E287_8, E287_9, E287_12, E287_13, E287_16, E287_19, E287_20, E287_21, E287_22, E287_25, E287_26, E287_27, E287_30, E287_31, E287_34, E287_35, E287_36, E287_39, E287_40, E287_43, E287_44, E287_45, ai_148, gf_147_0, gf_147_2, gf_147_4, pf_147_5, X178, X182_150_148, go_147, jsh_n, jsh_I, jsh_R, jsh_II, jsh_IR, jsh_RI, jsh_RR, jsh_III, jsh_IIR, jsh_IRI, jsh_IRR, jsh_RII, jsh_RIR, jsh_RRI, jsh_RRR, jsh_IIII, jsh_IIIR, jsh_IIRI, jsh_IIRR, jsh_IRII, jsh_IRIR, jsh_IRRI, jsh_IRRR, jsh_RIII, jsh_RIIR, jsh_RIRI, jsh_RIRR, jsh_RRII, jsh_RRIR, jsh_RRRI, jsh_RRRR, jthr_hp, jc_l0, jc_lW, jc_lX, jc_lXW, jc_lVW, jc_lVX, jpush_n, jpush_s, obt_0, obt_1, och_0, och_32, och_100, och_115, och_104, och_33, och_43, och_60, jint, jbit, jchr, ijI, ijR, ijD, ijF, ↓reduceIte, Int.reduceEq, Int.reduceLT, reduceCtorEq, lW_bind, lW_ite, lW_none, lW_oix, lW_obt, lW_och, lW_sel, lW_oel, lW_some, f_Mod_restoreSnapshot]
end

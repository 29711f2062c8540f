/-! ===== the two shares ===== -/
def fchk (s c : Nat) : Bool := Nat.beq c 0 || (decide (FP.ddiv (FP.i2d (Int32.ofInt (s : Int))) (FP.i2d (Int32.ofInt (c : Int))) &&& 0x7fffffffffffffff ≤ 0x7ff0000000000000) && decide ((Op.cmpValue (FP.dcmp (FP.ddiv (FP.i2d (Int32.ofInt (s : Int))) (FP.i2d (Int32.ofInt (c : Int)))) (FP.ddiv (FP.i2d (Int32.ofInt (s : Int))) (FP.i2d (Int32.ofInt (c : Int))))) .l).toInt = 0))
theorem fchk_all : ∀ c, c < 21 → ∀ s, s < 181 → fchk s c = true := by decide +kernel
def fchk2 (s c : Nat) : Bool := Nat.beq c 0 || (decide (FP.fdiv (FP.i2f (Int32.ofInt (s : Int))) (FP.i2f (Int32.ofInt (c : Int))) &&& 0x7fffffff ≤ 0x7f800000) && (decide (FP.f2d (FP.fdiv (FP.i2f (Int32.ofInt (s : Int))) (FP.i2f (Int32.ofInt (c : Int)))) &&& 0x7fffffffffffffff ≤ 0x7ff0000000000000) && decide ((Op.cmpValue (FP.dcmp (FP.f2d (FP.fdiv (FP.i2f (Int32.ofInt (s : Int))) (FP.i2f (Int32.ofInt (c : Int))))) (FP.f2d (FP.fdiv (FP.i2f (Int32.ofInt (s : Int))) (FP.i2f (Int32.ofInt (c : Int)))))) .l).toInt = 0)))
theorem fchk2_all : ∀ c, c < 17 → ∀ s, s < 17 → fchk2 s c = true := by decide +kernel
theorem oix01 {β : Type} {r : Option β} : oix (0 : Int) 1 r = r := rfl
section Float
variable {m : jMem} {cf : jCf} {i : Int} {dv : UInt64}
theorem t_meanStrength (I : IV m) : Tok (f_turn45 cf i m dv) := by
  obtain ⟨od, ps, H, R, Y, V, W, L⟩ := I.g
  have hW := W.n
  have hs := sum_le W
  have hc := cnt_le (hld (m 148)) (hN (m 148))
  generalize hcc : cntF idn (hld (m 148)) (hN (m 148)) 0 = c at hc
  generalize hss : sumN (hsN (m 148)) (hN (m 148)) = s at hs
  by_cases h0 : c = 0
  · have hL : f_Law_meanStrength m dv = some (1, dv) := by
      unfold f_Law_meanStrength f_Reg_meanStrength
      rw [H_cnt W R, hcc, Option.bind_some, if_pos (by omega), Option.bind_some, sel_r, if_pos rfl]
    have hM : f_Mod_meanStrength m = some (0, Fm m 1) := by
      unfold f_Mod_meanStrength
      rw [M_las W rfl, hcc, Option.bind_some, if_pos (by omega), M_fails (by omega), Option.bind_some]
      dsimp only
      rw [if_neg (by omega)]
    refine ⟨Fm m 1, dv, 1, ?_, I.sq (MQr.F m 1).2.2⟩
    unfold f_turn45 f_Mod_thrown
    rw [hL, Option.bind_some, hM, Option.bind_some, Option.bind_some]
    dsimp only
    rw [if_pos Fm_8, if_neg (by omega)]
  · have hk := fchk_all c (by omega) s (by omega)
    unfold fchk at hk
    have hb : Nat.beq c 0 = false := by
      cases hq : Nat.beq c 0 with
      | false => rfl
      | true => exact absurd (Nat.eq_of_beq_eq_true hq) h0
    rw [hb, Bool.false_or, Bool.and_eq_true, decide_eq_true_eq, decide_eq_true_eq] at hk
    generalize hx : FP.ddiv (FP.i2d (Int32.ofInt (s : Int))) (FP.i2d (Int32.ofInt (c : Int))) = x at hk
    have hL : f_Law_meanStrength m dv = some (0, x) := by
      unfold f_Law_meanStrength f_Reg_meanStrength
      rw [H_cnt W R, hcc, Option.bind_some, if_neg (by omega), H_all W R, hss, Option.bind_some, hx, if_pos hk.1, Option.bind_some, sel_l, oix01]
    have hM : f_Mod_meanStrength m = some (x, Fm m 0) := by
      unfold f_Mod_meanStrength
      rw [M_las W rfl, hcc, Option.bind_some, if_neg (by omega), M_fails0, Option.bind_some]
      dsimp only
      rw [if_pos rfl, M_tot W r3, hss, Option.bind_some, M_las W r3, hcc, Option.bind_some, hx, if_pos hk.1]
    refine ⟨Fm m 0, x, 0, ?_, I.sq (MQr.F m 0).2.2⟩
    unfold f_turn45 f_Mod_thrown
    rw [hL, Option.bind_some, hM, Option.bind_some, Option.bind_some]
    dsimp only
    rw [if_pos Fm_8, if_pos rfl, oix01, if_pos hk.2]
theorem t_livingShare (I : IV m) : Tok (f_turn46 cf i m dv) := by
  obtain ⟨od, ps, H, R, Y, V, W, L⟩ := I.g
  have hV := V.n
  have hc := cnt_le (gal (m 148)) (gn (m 148))
  generalize hss : cntF idn (gal (m 148)) (gn (m 148)) 0 = s at hc
  have h24 : m 2 4 = ((gn (m 148) : Nat) : Int) := H.n.trans hV.1
  by_cases h0 : gn (m 148) = 0
  · have hL : f_Law_livingShare m dv = some (1, dv) := by
      unfold f_Law_livingShare f_Reg_livingShare
      rw [if_pos (by omega), Option.bind_some, sel_r, if_pos rfl]
    have hM : f_Mod_livingShare m = some (0, Fm m 1) := by
      unfold f_Mod_livingShare
      rw [oix0, show (0 : Int).toNat = 0 from rfl, if_pos (by omega), M_fails (by omega), Option.bind_some]
      dsimp only
      rw [if_neg (by omega)]
    refine ⟨Fm m 1, dv, 1, ?_, I.sq (MQr.F m 1).2.2⟩
    unfold f_turn46 f_Mod_thrown
    rw [hL, Option.bind_some, hM, Option.bind_some, Option.bind_some]
    dsimp only
    rw [if_pos Fm_8, if_neg (by omega)]
  · have hk := fchk2_all (gn (m 148)) (by omega) s (by omega)
    unfold fchk2 at hk
    have hb : Nat.beq (gn (m 148)) 0 = false := by
      cases hq : Nat.beq (gn (m 148)) 0 with
      | false => rfl
      | true => exact absurd (Nat.eq_of_beq_eq_true hq) h0
    rw [hb, Bool.false_or, Bool.and_eq_true, Bool.and_eq_true, decide_eq_true_eq, decide_eq_true_eq, decide_eq_true_eq] at hk
    generalize hx : FP.fdiv (FP.i2f (Int32.ofInt (s : Int))) (FP.i2f (Int32.ofInt ((gn (m 148) : Nat) : Int))) = x at hk
    have hL : f_Law_livingShare m dv = some (0, FP.f2d x) := by
      unfold f_Law_livingShare f_Reg_livingShare
      rw [h24, if_neg (by omega), P_living V H, hss, Option.bind_some, hx, if_pos hk.1, Option.bind_some, sel_l, if_pos hk.2.1, oix01]
    have hx2 : FP.fdiv (FP.i2f (Int32.ofInt (s : Int))) (FP.i2f (Int32.ofInt ((Fm m 0) 148 0))) = x := by
      rw [r3, hV.1]
      exact hx
    have hM : f_Mod_livingShare m = some (x, Fm m 0) := by
      unfold f_Mod_livingShare
      rw [oix0, show (0 : Int).toNat = 0 from rfl, if_neg (by omega), M_fails0, Option.bind_some]
      dsimp only
      rw [if_pos rfl, M_living V r3, hss, Option.bind_some, oix0, hx2, if_pos hk.1]
    refine ⟨Fm m 0, FP.f2d x, 0, ?_, I.sq (MQr.F m 0).2.2⟩
    unfold f_turn46 f_Mod_thrown
    rw [hL, Option.bind_some, hM, Option.bind_some, Option.bind_some]
    dsimp only
    rw [if_pos Fm_8, if_pos rfl, oix01, if_pos hk.2.1, if_pos hk.2.2]
end Float

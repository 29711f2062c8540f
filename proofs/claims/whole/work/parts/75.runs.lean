/-! ===== a row of commands, on both sides ===== -/
def wx (m m' : jMem) : Prop := (∀ q, q ≠ 147 → q ≠ 148 → m' q = m q) ∧ ∀ j, j ≠ 7 → j ≠ 8 → m' 147 j = m 147 j
def wy (m m' : jMem) : Prop := (∀ q, q ≠ 147 → q ≠ 148 → m' q = m q) ∧ ∀ j, j ≠ 7 → j ≠ 8 → j ≠ 9 → j ≠ 10 → j ≠ 11 → m' 147 j = m 147 j
theorem wx.refl (m : jMem) : wx m m := ⟨fun _ _ _ => rfl, fun _ _ _ => rfl⟩
theorem wx.trans {m m1 m2 : jMem} (h : wx m m1) (h' : wx m1 m2) : wx m m2 := ⟨fun q a b => (h'.1 q a b).trans (h.1 q a b), fun j a b => (h'.2 j a b).trans (h.2 j a b)⟩
theorem wx.y {m m1 m2 : jMem} (h : wx m m1) (h' : wy m1 m2) : wy m m2 := ⟨fun q a b => (h'.1 q a b).trans (h.1 q a b), fun j a b d e f => (h'.2 j a b d e f).trans (h.2 j a b)⟩
theorem wx.F (m : jMem) (c : Int) : wx m (Fm m c) := ⟨fun q a _ => Fm_row a, fun j a b => Fm_j a b⟩
def Frr (m m' : jMem) : Prop := ∀ q, (q = 0 ∨ 14 ≤ q) → m' q = m q
theorem Fr.rr {m m1 m2 : jMem} (h : Fr m m1) (h' : Frr m1 m2) : Frr m m2 := fun q a => (h' q a).trans (h q (by omega))
/-- the ends of the model's loop -/
def mxF (m : jMem) (a2 a3 : Int) : Option (Int × jMem) := (f_Mod_copies_151_148 (mset m 147 6 0) 0 0).bind fun m11 => if (m11 147 7) = 0 then if 0 < a3 then some (0, mset m11 147 8 2) else some (a3, mset m11 147 8 2) else (f_Mod_rejectsInput m11 a2).bind fun qx12 => some (qx12.1, qx12.2)
def mxS (m : jMem) : Option (Int × jMem) := (f_Mod_keeps_151 (mset m 147 6 0)).bind fun m10 => some (m10 147 19, m10)
theorem exl (N : Nat) (m : jMem) (a2 a3 : Int) : f_Mod_executeL (N + 1) m a2 a3 = if a2 < (m 147 19) then if (m 147 8) = 0 then (f_Mod_carries m (jw (4 * a2))).bind fun qx16 => if (qx16.2 147 8) = 0 then f_Mod_executeL N qx16.2 (jw (a2 + 1)) qx16.1 else f_Mod_executeL N qx16.2 a2 qx16.1 else if 0 < ((mset m 147 6 0) 147 8) then mxF m a2 a3 else mxS m else if 0 < ((mset m 147 6 0) 147 8) then mxF m a2 a3 else mxS m := rfl
/-- the class's end behind a failure -/
def cxF (m : jMem) (f : jMem → Option ((Int ⊕ String) × jMem)) : Option ((Int ⊕ String) × jMem) := (f_History_marked m).bind fun x7 => oS 1 ((f_State_copyFrom m 1 x7).bind f)
theorem cxl (N : Nat) (m : jMem) (a2 : Int) : f_Reg_executeL (N + 1) m a2 = if a2 < (m 139 7) then (f_Reg_runCommand m a2).bind fun qx5 => if qx5.1 < 0 then (f_History_marked qx5.2).bind fun x7 => oS 1 ((f_State_copyFrom qx5.2 1 x7).bind fun m8 => if qx5.1 = (-2) then some (.inr "java/lang/IllegalStateException", m8) else if qx5.1 = (-1) then (f_Reg_noteRejection m8 12 a2 (m8 13 3)).bind fun m9 => some (.inr "java/lang/UnsupportedOperationException", m9) else f_Reg_executeL N m8 (jw (a2 + 1))) else if qx5.1 = (-2) then some (.inr "java/lang/IllegalStateException", qx5.2) else if qx5.1 = (-1) then (f_Reg_noteRejection qx5.2 12 a2 (qx5.2 13 3)).bind fun m6 => some (.inr "java/lang/UnsupportedOperationException", m6) else f_Reg_executeL N qx5.2 (jw (a2 + 1)) else (f_History_keep m).bind fun m4 => some (.inl (m4 139 7), m4) := rfl
def rsC (m : jMem) (k n : Nat) : (Nat → Int) ⊕ Option (Nat × Int) → Prop
  | .inl g' => ∃ m' od' ps', Fr m m' ∧ R0 m' g' od' ps' ∧ GL g' ∧ ∀ N, n < N → f_Reg_executeL N m (k : Int) = (f_History_keep m').bind fun m4 => some (.inl (m4 139 7), m4)
  | .inr none => ∃ m', Frr m m' ∧ ∀ N, n < N → f_Reg_executeL N m (k : Int) = cxF m' fun m8 => some (.inr "java/lang/IllegalStateException", m8)
  | .inr (some y) => y.2 ≠ 0 ∧ ∃ m', Frr m m' ∧ m' 13 3 = y.2 ∧ ∀ N, n < N → f_Reg_executeL N m (k : Int) = cxF m' fun m8 => (f_Reg_noteRejection m8 12 (y.1 : Int) (m8 13 3)).bind fun m9 => some (.inr "java/lang/UnsupportedOperationException", m9)
def rsM (m : jMem) (k n : Nat) : (Nat → Int) ⊕ Option (Nat × Int) → Prop
  | .inl g' => ∃ m', m' 148 = g' ∧ m' 147 8 = 0 ∧ wx m m' ∧ ∀ N a3, n < N → f_Mod_executeL N m (k : Int) a3 = mxS m'
  | .inr none => ∃ m' a2 a4, m' 147 7 = 0 ∧ wx m m' ∧ ∀ N a3, n + 1 < N → f_Mod_executeL N m (k : Int) a3 = mxF m' a2 a4
  | .inr (some y) => ∃ m' a4, m' 147 7 = 1 ∧ m' 147 9 = y.2 ∧ wy m m' ∧ ∀ N a3, n + 1 < N → f_Mod_executeL N m (k : Int) a3 = mxF m' (y.1 : Int) a4
section Runs
variable {m m2 : jMem} {k n K : Nat} {res : (Nat → Int) ⊕ Option (Nat × Int)} {t : Nat → Int} {c : Nat}
theorem rsC.step (hf : Fr m m2) (he : ∀ N, f_Reg_executeL (N + 1) m (k : Int) = f_Reg_executeL N m2 ((k + 1 : Nat) : Int)) (h : rsC m2 (k + 1) n res) : rsC m k (n + 1) res := by
  cases res with
  | inl g' =>
    obtain ⟨m', od', ps', h1, h2, h3, h4⟩ := h
    refine ⟨m', od', ps', hf.trans h1, h2, h3, fun N hN => ?_⟩
    obtain ⟨N', rfl⟩ : ∃ N', N = N' + 1 := ⟨N - 1, by omega⟩
    exact (he N').trans (h4 N' (by omega))
  | inr r =>
    cases r with
    | none =>
      obtain ⟨m', h1, h4⟩ := h
      refine ⟨m', hf.rr h1, fun N hN => ?_⟩
      obtain ⟨N', rfl⟩ : ∃ N', N = N' + 1 := ⟨N - 1, by omega⟩
      exact (he N').trans (h4 N' (by omega))
    | some y =>
      obtain ⟨h0, m', h1, h3, h4⟩ := h
      refine ⟨h0, m', hf.rr h1, h3, fun N hN => ?_⟩
      obtain ⟨N', rfl⟩ : ∃ N', N = N' + 1 := ⟨N - 1, by omega⟩
      exact (he N').trans (h4 N' (by omega))
theorem rsM.step {a4 : Int} (hf : wx m m2) (he : ∀ N a3, f_Mod_executeL (N + 1) m (k : Int) a3 = f_Mod_executeL N m2 ((k + 1 : Nat) : Int) a4) (h : rsM m2 (k + 1) n res) : rsM m k (n + 1) res := by
  cases res with
  | inl g' =>
    obtain ⟨m', h1, h2, h3, h4⟩ := h
    refine ⟨m', h1, h2, hf.trans h3, fun N a3 hN => ?_⟩
    obtain ⟨N', rfl⟩ : ∃ N', N = N' + 1 := ⟨N - 1, by omega⟩
    exact (he N' a3).trans (h4 N' a4 (by omega))
  | inr r =>
    cases r with
    | none =>
      obtain ⟨m', a5, a6, h1, h2, h4⟩ := h
      refine ⟨m', a5, a6, h1, hf.trans h2, fun N a3 hN => ?_⟩
      obtain ⟨N', rfl⟩ : ∃ N', N = N' + 1 := ⟨N - 1, by omega⟩
      exact (he N' a3).trans (h4 N' a4 (by omega))
    | some y =>
      obtain ⟨m', a6, h1, h2, h3, h4⟩ := h
      refine ⟨m', a6, h1, h2, hf.y h3, fun N a3 hN => ?_⟩
      obtain ⟨N', rfl⟩ : ∃ N', N = N' + 1 := ⟨N - 1, by omega⟩
      exact (he N' a3).trans (h4 N' a4 (by omega))
/-- the model within: no row is kept -/
theorem kp_w (h6 : m 147 6 = 1) : f_Mod_keeps_148 m = some (mset m 147 8 0) := by
  unfold f_Mod_keeps_148
  rw [if_neg (by rw [ms_g (by omega), h6]; omega)]
theorem oc_M {F : jMem → jMem} {mod : jMem → Option (Int × jMem)} {g : Nat → Int} {cc : Int} (hF : F = Fz ∨ F = fun m => m) {o : Option ((Int × (Nat → Int)) ⊕ (Int × Int))} (hMS : MS F mod g cc o) (hg : m 148 = g) (h6 : m 147 6 = 1) : match o with
    | none => mod m = some (0, Fm m cc)
    | some (.inr y) => ∃ m', mod m = some (0, m') ∧ m' 147 8 = cc ∧ m' 147 7 = 1 ∧ m' 147 9 = y.1 ∧ wy m m'
    | some (.inl y) => ∃ m', mod m = some (y.1, m') ∧ m' 148 = y.2 ∧ m' 147 8 = 0 ∧ wx m m' := by
  have hx : wx m (F m) := by
    rcases hF with rfl | rfl
    · exact wx.F m 0
    · exact wx.refl m
  have hg' : (F m) 148 = g := by
    rcases hF with rfl | rfl
    · exact Fz_g hg
    · exact hg
  have h := hMS m hg
  cases o with
  | none => exact h
  | some v =>
    cases v with
    | inr y =>
      have h' : mod m = f_Mod_rejects (F m) cc y.1 y.2 := h
      refine ⟨_, h', ?_, ?_, ?_, ⟨fun q a b => ?_, fun j a b d e f => ?_⟩⟩
      · rw [ms_g (by omega), ms_g (by omega), ms_g (by omega), ms_g (by omega), ms_f]
      · rw [ms_g (by omega), ms_g (by omega), ms_g (by omega), ms_f]
      · rw [ms_g (by omega), ms_g (by omega), ms_f]
      · rw [mset_ne a, mset_ne a, mset_ne a, mset_ne a, mset_ne a]
        exact hx.1 q a b
      · rw [ms_g f, ms_g e, ms_g d, ms_g a, ms_g b]
        exact hx.2 j a b
    | inl y =>
      have e6 : (F m) 147 6 = 1 := (hx.2 6 (by omega) (by omega)).trans h6
      have h' : ∀ m5, f_Mod_keeps_148 (F m) = some m5 → m5 148 = g → ∃ m6, mod m = some (y.1, m6) ∧ m6 148 = y.2 ∧ ∀ q, q ≠ 148 → m6 q = m5 q := h
      obtain ⟨m6, e, h1, h2⟩ := h' (mset (F m) 147 8 0) (kp_w e6) ((mset_ne (by omega)).trans hg')
      refine ⟨m6, e, h1, ?_, ⟨fun q a b => ?_, fun j a b => ?_⟩⟩
      · rw [h2 147 (by omega), ms_f]
      · rw [h2 q b, mset_ne a]
        exact hx.1 q a b
      · rw [h2 147 (by omega), ms_g b]
        exact hx.2 j a b
theorem runs (hK : K ≤ 31) : ∀ (os : List Nat) (k : Nat) (g : Nat → Int) (od ps : Nat → Nat) (m : jMem), k + os.length = K → (∀ x, x ∈ os → cmV t c x) → R0 m g od ps → GL g → m 139 7 = (K : Int) → (∀ i x, os[i]? = some x → cmC t c m (k + i) x) →
    ∃ res, rsC m k os.length res ∧ ∀ mm : jMem, mm 148 = g → mm 147 6 = 1 → mm 147 8 = 0 → mm 147 19 = (K : Int) → (∀ i x, os[i]? = some x → cmM t c mm (k + i) x) → rsM mm k os.length res
  | [], k, g, od, ps, m, hk, _, P, L, h7, _ => by
    rw [List.length_nil] at hk
    refine ⟨.inl g, ⟨m, od, ps, Fr.refl m, P, L, fun N hN => ?_⟩, fun mm hg h6 h8 h19 _ => ⟨mm, hg, h8, wx.refl mm, fun N a3 hN => ?_⟩⟩
    · obtain ⟨N', rfl⟩ : ∃ N', N = N' + 1 := ⟨N - 1, by omega⟩
      rw [cxl, h7, if_neg (by omega)]
    · obtain ⟨N', rfl⟩ : ∃ N', N = N' + 1 := ⟨N - 1, by omega⟩
      rw [exl, h19, if_neg (by omega), ms_g (by omega), h8, if_neg (by omega)]
  | x :: os, k, g, od, ps, m, hk, hV, P, L, h7, hC => by
    rw [List.length_cons] at hk
    obtain ⟨F, act, mod, hF, ⟨cc, o, hcc, hAS, hMS⟩, hc1, hc2⟩ := oc_cmd P L (hV x List.mem_cons_self)
    have hC0 : cmC t c m k x := hC 0 x rfl
    have er := hc1 m k K h7 (by omega) (by omega) hC0
    have ec : ∀ mm : jMem, (∀ i y, (x :: os)[i]? = some y → cmM t c mm (k + i) y) → f_Mod_carries mm (jw (4 * (k : Int))) = mod mm := fun mm h => by
      rw [jw_e (y := ((4 * k : Nat) : Int)) (by omega) (by omega) (by omega)]
      exact hc2 mm k (by omega) (h 0 x rfl)
    have hA := hAS m P
    rw [List.length_cons]
    cases o with
    | none =>
      have hA' : act m = some (-2, m) := hA
      refine ⟨.inr none, ⟨m, fun _ _ => rfl, fun N hN => ?_⟩, fun mm hg h6 h8 h19 hM => ⟨Fm mm cc, (k : Int), 0, ?_, wx.F mm cc, fun N a3 hN => ?_⟩⟩
      · obtain ⟨N', rfl⟩ : ∃ N', N = N' + 1 := ⟨N - 1, by omega⟩
        rw [cxl, h7, if_pos (by omega), er, hA', Option.bind_some]
        dsimp only
        rw [if_pos (by omega)]
        rfl
      · exact ms_f
      · obtain ⟨N', rfl⟩ : ∃ N', N = N' + 1 + 1 := ⟨N - 2, by omega⟩
        rw [exl, h19, if_pos (by omega), if_pos h8, ec mm hM, show mod mm = some (0, Fm mm cc) from oc_M hF hMS hg h6, Option.bind_some]
        refine (if_neg (show ¬ (Fm mm cc) 147 8 = 0 by rw [Fm_8]; omega)).trans ?_
        show f_Mod_executeL (N' + 1) (Fm mm cc) (k : Int) 0 = _
        rw [exl, Fm_j (by omega) (by omega), h19, if_pos (by omega), Fm_8, if_neg (by omega), ms_g (by omega), Fm_8, if_pos hcc]
    | some v =>
      cases v with
      | inr y =>
        have hA' : (y.1 ≠ 12 ∧ y.1 ≠ 0) ∧ act m = some (-1, mset (mset m 13 3 y.1) 13 4 y.2) := hA
        refine ⟨.inr (some (k, y.1)), ⟨hA'.1.2, mset (mset m 13 3 y.1) 13 4 y.2, fun q hq => (mset_ne (by omega)).trans (mset_ne (by omega)), (ms_g (by omega)).trans ms_f, fun N hN => ?_⟩, fun mm hg h6 h8 h19 hM => ?_⟩
        · obtain ⟨N', rfl⟩ : ∃ N', N = N' + 1 := ⟨N - 1, by omega⟩
          rw [cxl, h7, if_pos (by omega), er, hA'.2, Option.bind_some]
          dsimp only
          rw [if_pos (by omega)]
          rfl
        · obtain ⟨m', e1, e2, e3, e4, e5⟩ := oc_M hF hMS hg h6
          refine ⟨m', 0, e3, e4, e5, fun N a3 hN => ?_⟩
          obtain ⟨N', rfl⟩ : ∃ N', N = N' + 1 + 1 := ⟨N - 2, by omega⟩
          have e19 : m' 147 19 = (K : Int) := (e5.2 19 (by omega) (by omega) (by omega) (by omega) (by omega)).trans h19
          rw [exl, h19, if_pos (by omega), if_pos h8, ec mm hM, e1, Option.bind_some]
          refine (if_neg (show ¬ m' 147 8 = 0 by rw [e2]; omega)).trans ?_
          show f_Mod_executeL (N' + 1) m' (k : Int) 0 = _
          rw [exl, e19, if_pos (by omega), e2, if_neg (by omega), ms_g (by omega), e2, if_pos hcc]
      | inl y =>
        have hA' : 0 ≤ y.1 ∧ GL y.2 ∧ ∃ m2 od' ps', act m = some (y.1, m2) ∧ Fr m m2 ∧ R0 m2 y.2 od' ps' := hA
        obtain ⟨hv, hL, m2, od', ps', e1, f1, P2⟩ := hA'
        have hr : ∀ q, 139 ≤ q → m2 q = m q := fun q hq => f1 q (by omega)
        obtain ⟨res, r1, r2⟩ := runs hK os (k + 1) y.2 od' ps' m2 (by omega) (fun z hz => hV z (List.mem_cons_of_mem _ hz)) P2 hL (by rw [hr 139 (by omega)]; exact h7) (fun i z hz => by
          have h9 := hC (i + 1) z (by rw [List.getElem?_cons_succ]; exact hz)
          rw [show k + (i + 1) = k + 1 + i by omega] at h9
          exact h9.mv fun q a b => by rw [hr q (by omega)])
        refine ⟨res, r1.step f1 fun N => ?_, fun mm hg h6 h8 h19 hM => ?_⟩
        · rw [cxl, h7, if_pos (by omega), er, e1, Option.bind_some]
          dsimp only
          rw [if_neg (by omega), if_neg (by omega), if_neg (by omega), jw_s (by omega)]
        · obtain ⟨m', e2, e3, e4, e5⟩ := oc_M hF hMS hg h6
          refine (r2 m' e3 ((e5.2 6 (by omega) (by omega)).trans h6) e4 ((e5.2 19 (by omega) (by omega)).trans h19) (fun i z hz => ?_)).step (a4 := y.1) e5 fun N a3 => ?_
          · have h9 := hM (i + 1) z (by rw [List.getElem?_cons_succ]; exact hz)
            rw [show k + (i + 1) = k + 1 + i by omega] at h9
            exact h9.mv fun j a b => by rw [e5.1 154 (by omega) (by omega)]
          · rw [exl, h19, if_pos (by omega), if_pos h8, ec mm hM, e2, Option.bind_some]
            dsimp only
            rw [if_pos e4, jw_s (by omega)]
end Runs

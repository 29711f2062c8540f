/-! ===== a call's outcome, on both sides ===== -/
/-- none: not a call at all; inr: refused, reason and detail; inl: the answer and the new row -/
def AS (act : jMem → Option (Int × jMem)) (g : Nat → Int) (od ps : Nat → Nat) (o : Option ((Int × (Nat → Int)) ⊕ (Int × Int))) : Prop := ∀ m, R0 m g od ps → match o with
  | none => act m = some (-2, m)
  | some (.inr x) => (x.1 ≠ 12 ∧ x.1 ≠ 0) ∧ act m = some (-1, mset (mset m 13 3 x.1) 13 4 x.2)
  | some (.inl x) => 0 ≤ x.1 ∧ GL x.2 ∧ ∃ m2 od' ps', act m = some (x.1, m2) ∧ Fr m m2 ∧ R0 m2 x.2 od' ps'
def MS (F : jMem → jMem) (mod : jMem → Option (Int × jMem)) (g : Nat → Int) (c : Int) (o : Option ((Int × (Nat → Int)) ⊕ (Int × Int))) : Prop := ∀ m, m 148 = g → match o with
  | none => mod m = some (0, Fm m c)
  | some (.inr x) => mod m = f_Mod_rejects (F m) c x.1 x.2
  | some (.inl x) => ∀ m5, f_Mod_keeps_148 (F m) = some m5 → m5 148 = g → ∃ m6, mod m = some (x.1, m6) ∧ m6 148 = x.2 ∧ ∀ q, q ≠ 148 → m6 q = m5 q
def Fz (m : jMem) : jMem := Fm m 0
theorem Fz_g {m : jMem} {g : Nat → Int} (h : m 148 = g) : (Fm m 0) 148 = g := r3.trans h
section Ops
variable {m : jMem} {g : Nat → Int} {od ps : Nat → Nat} {k : Nat}
theorem hh_pin (W : GH g) (hkl : k < hN g) (h0 : 0 ≤ hh g k) : ∃ x : Nat, hh g k = (x : Int) ∧ x < gn g := by
  rcases (W.hb hkl).h.cases with e | h
  · omega
  · exact h
theorem hh_16 (V : GP g) (W : GH g) : ∀ l, l < hN g → 0 ≤ hh g l → hh g l < 16 := fun l hl h0 => by
  obtain ⟨x, e, hx⟩ := hh_pin W hl h0
  have hn := V.n
  omega
theorem o_prac (V : GP g) (W : GH g) (L : GL g) (hkl : k < hN g) : ∃ o, AS (fun m => f_Actions_practice m (k : Int)) g od ps (some o) ∧ MS Fz (fun m => f_Mod_practise m (k : Int)) g 2 (some o) := by
  have hW := W.n
  have B := W.hb hkl
  have hS := B.s
  by_cases h0 : 0 ≤ hh g k
  · obtain ⟨x, ex, hx⟩ := hh_pin W hkl h0
    have hn := V.n
    by_cases h9 : hs g k = 9
    · refine ⟨.inr (6, 9), fun m P => ⟨show (6 : Int) ≠ 12 ∧ (6 : Int) ≠ 0 by omega, ?_⟩, fun m hg => ?_⟩
      · show f_Actions_practice m (k : Int) = _
        unfold f_Actions_practice
        rw [H_in P.W P.R hkl, Option.bind_some, if_neg (by omega), H_held P.W P.R hkl, if_pos h0, Option.bind_some, if_neg (by omega), H_str P.W P.R hkl, Option.bind_some, if_neg (by omega)]
        rfl
      · show f_Mod_practise m (k : Int) = _
        unfold f_Mod_practise
        rw [M_hab_in W hg hkl, Option.bind_some, if_neg (by omega), M_fails0, Option.bind_some]
        dsimp only
        rw [if_pos rfl, M_gone W (Fz_g hg) hkl, if_pos h0, Option.bind_some, if_pos rfl, M_hs (Fz_g hg) (by omega), Option.bind_some, if_pos h9]
        rfl
    · refine ⟨.inl (hs g k + 1, hput g k (hh g k) (hs g k + 1) (he g k) 1 (g 3) (g 4) (g 5)), fun m P => ⟨show 0 ≤ hs g k + 1 by omega, put_GL L (fun _ => L k hkl h0) (hh_16 V W) (by omega), ?_⟩, fun m hg m5 e5 hg5 => ?_⟩
      · obtain ⟨m2, e, f, Q⟩ := A_str P hkl h0 (by omega)
        refine ⟨m2, od, ps, ?_, f, Q⟩
        show f_Actions_practice m (k : Int) = _
        unfold f_Actions_practice
        rw [H_in P.W P.R hkl, Option.bind_some, if_neg (by omega), H_held P.W P.R hkl, if_pos h0, Option.bind_some, if_neg (by omega), H_str P.W P.R hkl, Option.bind_some, if_pos (by omega), e, Option.bind_some, H_str Q.W Q.R (by rw [hp_hN]; exact hkl), Option.bind_some, hp_hs, if_pos rfl]
      · refine ⟨mset (mset m5 148 (40 + 5 * k) (hs g k + 1)) 148 (42 + 5 * k) 1, ?_, B_str W hkl hg5 _ _, fun q hq => by rw [mset_ne hq, mset_ne hq]⟩
        show f_Mod_practise m (k : Int) = _
        unfold f_Mod_practise
        rw [M_hab_in W hg hkl, Option.bind_some, if_neg (by omega), M_fails0, Option.bind_some]
        dsimp only
        rw [if_pos rfl, M_gone W (Fz_g hg) hkl, if_pos h0, Option.bind_some, if_pos rfl, M_hs (Fz_g hg) (by omega), Option.bind_some, if_neg h9, show f_Mod_keeps_148 (Fm m 0) = some m5 from e5, Option.bind_some, M_hs hg5 (by omega), Option.bind_some, jw_id ⟨by omega, by omega⟩, M_lay2 (by omega), Option.bind_some, M_lay4 (by omega), Option.bind_some, M_hs (B_str W hkl hg5 _ _) (by omega), Option.bind_some, hp_hs, if_pos rfl]
  · refine ⟨.inr (5, (k : Int)), fun m P => ⟨show (5 : Int) ≠ 12 ∧ (5 : Int) ≠ 0 by omega, ?_⟩, fun m hg => ?_⟩
    · show f_Actions_practice m (k : Int) = _
      unfold f_Actions_practice
      rw [H_in P.W P.R hkl, Option.bind_some, if_neg (by omega), H_held P.W P.R hkl, if_neg h0, Option.bind_some, if_pos rfl]
      rfl
    · show f_Mod_practise m (k : Int) = _
      unfold f_Mod_practise
      rw [M_hab_in W hg hkl, Option.bind_some, if_neg (by omega), M_fails0, Option.bind_some]
      dsimp only
      rw [if_pos rfl, M_gone W (Fz_g hg) hkl, if_neg h0, Option.bind_some, if_neg (by omega)]
      rfl
theorem wk_hN : hN (wk g k) = hN g := by
  unfold wk
  split
  · exact hp_hN
  · exact hp_hN
theorem wk_GL (V : GP g) (W : GH g) (L : GL g) (hkl : k < hN g) : GL (wk g k) := by
  unfold wk
  split
  · exact put_GL L (fun h => by omega) (hh_16 V W) (by omega)
  · refine put_GL L (fun h => L k hkl h) (hh_16 V W) ?_
    by_cases h0 : 0 ≤ hh g k
    · exact hh_16 V W k hkl h0
    · omega
theorem o_negl (V : GP g) (W : GH g) (L : GL g) (hkl : k < hN g) : ∃ o, AS (fun m => f_Actions_neglecting m (k : Int)) g od ps (some o) ∧ MS Fz (fun m => f_Mod_neglect m (k : Int)) g 2 (some o) := by
  have hW := W.n
  have B := W.hb hkl
  have hS := B.s
  by_cases h0 : 0 ≤ hh g k
  · refine ⟨.inl (hs g k - 1, wk g k), fun m P => ⟨show 0 ≤ hs g k - 1 by omega, wk_GL V W L hkl, ?_⟩, fun m hg m5 e5 hg5 => ?_⟩
    · obtain ⟨m2, e, f, Q⟩ := A_weak P hkl h0
      refine ⟨m2, od, ps, ?_, f, Q⟩
      show f_Actions_neglecting m (k : Int) = _
      unfold f_Actions_neglecting
      rw [H_in P.W P.R hkl, Option.bind_some, if_neg (by omega), H_held P.W P.R hkl, if_pos h0, Option.bind_some, if_neg (by omega), e, Option.bind_some, H_str Q.W Q.R (by rw [wk_hN]; exact hkl), Option.bind_some, wk_hs B h0]
    · obtain ⟨m6, e6, h6, q6⟩ := M_weak W hkl h0 hg5
      refine ⟨m6, ?_, h6, q6⟩
      show f_Mod_neglect m (k : Int) = _
      unfold f_Mod_neglect
      rw [M_hab_in W hg hkl, Option.bind_some, if_neg (by omega), M_fails0, Option.bind_some]
      dsimp only
      rw [if_pos rfl, M_gone W (Fz_g hg) hkl, if_pos h0, Option.bind_some, if_pos rfl, show f_Mod_keeps_148 (Fm m 0) = some m5 from e5, Option.bind_some, e6, Option.bind_some]
      dsimp only
      rw [M_hs h6 (by omega), Option.bind_some, wk_hs B h0]
  · refine ⟨.inr (5, (k : Int)), fun m P => ⟨show (5 : Int) ≠ 12 ∧ (5 : Int) ≠ 0 by omega, ?_⟩, fun m hg => ?_⟩
    · show f_Actions_neglecting m (k : Int) = _
      unfold f_Actions_neglecting
      rw [H_in P.W P.R hkl, Option.bind_some, if_neg (by omega), H_held P.W P.R hkl, if_neg h0, Option.bind_some, if_pos rfl]
      rfl
    · show f_Mod_neglect m (k : Int) = _
      unfold f_Mod_neglect
      rw [M_hab_in W hg hkl, Option.bind_some, if_neg (by omega), M_fails0, Option.bind_some]
      dsimp only
      rw [if_pos rfl, M_gone W (Fz_g hg) hkl, if_neg h0, Option.bind_some, if_neg (by omega)]
      rfl
theorem o_enta (V : GP g) (W : GH g) (L : GL g) (O : OD (gp g) (gn g) od ps) (hkl : k < hN g) : ∃ o, AS (fun m => f_Actions_entailing m (k : Int)) g od ps (some o) ∧ MS Fz (fun m => f_Mod_entail m (k : Int)) g 2 (some o) := by
  have hW := W.n
  have B := W.hb hkl
  have hS := B.s
  by_cases h0 : 0 ≤ hh g k
  · obtain ⟨x, ex, hx⟩ := hh_pin W hkl h0
    have hn := V.n
    rcases B.e with h1 | h1
    · rcases (fb_lt V.f O (okb g (x : Int)) hx) with e | e
      · refine ⟨.inr (9, (x : Int)), fun m P => ⟨show (9 : Int) ≠ 12 ∧ (9 : Int) ≠ 0 by omega, ?_⟩, fun m hg => ?_⟩
        · show f_Actions_entailing m (k : Int) = _
          unfold f_Actions_entailing
          rw [H_in P.W P.R hkl, Option.bind_some, if_neg (by omega), H_held P.W P.R hkl, if_pos h0, Option.bind_some, if_neg (by omega), H_ent P.W P.R hkl, Option.bind_some, if_pos h1, H_hold P.W P.R hkl, Option.bind_some, ex, P_direct P.V P.H hx, fb_own V O hx (-1) (Or.inl rfl), Option.bind_some, if_pos e]
          rfl
        · show f_Mod_entail m (k : Int) = _
          unfold f_Mod_entail
          rw [M_hab_in W hg hkl, Option.bind_some, if_neg (by omega), M_fails0, Option.bind_some]
          dsimp only
          rw [if_pos rfl, M_gone W (Fz_g hg) hkl, if_pos h0, Option.bind_some, if_pos rfl, M_he (Fz_g hg) (by omega), Option.bind_some, if_neg (by omega), M_hh (Fz_g hg) (by omega), Option.bind_some, ex, M_first V (Fz_g hg) O hx, Option.bind_some, if_pos (by omega)]
          rfl
      · refine ⟨.inl ((x : Int), hput g k (hh g k) (hs g k) 1 (hpr g k) (g 3) (g 4) (g 5)), fun m P => ⟨show 0 ≤ (x : Int) by omega, put_GL L (fun _ => L k hkl h0) (hh_16 V W) (by omega), ?_⟩, fun m hg m5 e5 hg5 => ?_⟩
        · obtain ⟨m2, e2, f, Q⟩ := A_bind P hkl h0
          refine ⟨m2, od, ps, ?_, f, Q⟩
          show f_Actions_entailing m (k : Int) = _
          unfold f_Actions_entailing
          rw [H_in P.W P.R hkl, Option.bind_some, if_neg (by omega), H_held P.W P.R hkl, if_pos h0, Option.bind_some, if_neg (by omega), H_ent P.W P.R hkl, Option.bind_some, if_pos h1, H_hold P.W P.R hkl, Option.bind_some, ex, P_direct P.V P.H hx, fb_own V O hx (-1) (Or.inl rfl), Option.bind_some, if_neg (by omega), e2]
          rfl
        · refine ⟨mset m5 148 (41 + 5 * k) 1, ?_, B_ent hg5 _, fun q hq => mset_ne hq⟩
          show f_Mod_entail m (k : Int) = _
          unfold f_Mod_entail
          rw [M_hab_in W hg hkl, Option.bind_some, if_neg (by omega), M_fails0, Option.bind_some]
          dsimp only
          rw [if_pos rfl, M_gone W (Fz_g hg) hkl, if_pos h0, Option.bind_some, if_pos rfl, M_he (Fz_g hg) (by omega), Option.bind_some, if_neg (by omega), M_hh (Fz_g hg) (by omega), Option.bind_some, ex, M_first V (Fz_g hg) O hx, Option.bind_some, if_neg (by omega), show f_Mod_keeps_148 (Fm m 0) = some m5 from e5, Option.bind_some, M_lay3 (by omega)]
          rfl
    · refine ⟨.inr (7, (k : Int)), fun m P => ⟨show (7 : Int) ≠ 12 ∧ (7 : Int) ≠ 0 by omega, ?_⟩, fun m hg => ?_⟩
      · show f_Actions_entailing m (k : Int) = _
        unfold f_Actions_entailing
        rw [H_in P.W P.R hkl, Option.bind_some, if_neg (by omega), H_held P.W P.R hkl, if_pos h0, Option.bind_some, if_neg (by omega), H_ent P.W P.R hkl, Option.bind_some, if_neg (by omega)]
        rfl
      · show f_Mod_entail m (k : Int) = _
        unfold f_Mod_entail
        rw [M_hab_in W hg hkl, Option.bind_some, if_neg (by omega), M_fails0, Option.bind_some]
        dsimp only
        rw [if_pos rfl, M_gone W (Fz_g hg) hkl, if_pos h0, Option.bind_some, if_pos rfl, M_he (Fz_g hg) (by omega), Option.bind_some, if_pos h1]
        rfl
  · refine ⟨.inr (5, (k : Int)), fun m P => ⟨show (5 : Int) ≠ 12 ∧ (5 : Int) ≠ 0 by omega, ?_⟩, fun m hg => ?_⟩
    · show f_Actions_entailing m (k : Int) = _
      unfold f_Actions_entailing
      rw [H_in P.W P.R hkl, Option.bind_some, if_neg (by omega), H_held P.W P.R hkl, if_neg h0, Option.bind_some, if_pos rfl]
      rfl
    · show f_Mod_entail m (k : Int) = _
      unfold f_Mod_entail
      rw [M_hab_in W hg hkl, Option.bind_some, if_neg (by omega), M_fails0, Option.bind_some]
      dsimp only
      rw [if_pos rfl, M_gone W (Fz_g hg) hkl, if_neg h0, Option.bind_some, if_neg (by omega)]
      rfl
theorem o_brea (V : GP g) (W : GH g) (L : GL g) (hkl : k < hN g) : ∃ o, AS (fun m => f_Actions_breaking m (k : Int)) g od ps (some o) ∧ MS Fz (fun m => f_Mod_breakEntail m (k : Int)) g 2 (some o) := by
  have hW := W.n
  have B := W.hb hkl
  have hS := B.s
  by_cases h0 : 0 ≤ hh g k
  · obtain ⟨x, ex, hx⟩ := hh_pin W hkl h0
    have hn := V.n
    rcases B.e with h1 | h1
    · refine ⟨.inr (8, (k : Int)), fun m P => ⟨show (8 : Int) ≠ 12 ∧ (8 : Int) ≠ 0 by omega, ?_⟩, fun m hg => ?_⟩
      · show f_Actions_breaking m (k : Int) = _
        unfold f_Actions_breaking
        rw [H_in P.W P.R hkl, Option.bind_some, if_neg (by omega), H_held P.W P.R hkl, if_pos h0, Option.bind_some, if_neg (by omega), H_ent P.W P.R hkl, Option.bind_some, if_pos h1]
        rfl
      · show f_Mod_breakEntail m (k : Int) = _
        unfold f_Mod_breakEntail
        rw [M_hab_in W hg hkl, Option.bind_some, if_neg (by omega), M_fails0, Option.bind_some]
        dsimp only
        rw [if_pos rfl, M_gone W (Fz_g hg) hkl, if_pos h0, Option.bind_some, if_pos rfl, M_he (Fz_g hg) (by omega), Option.bind_some, if_pos h1]
        rfl
    · refine ⟨.inl ((hs g k + 1) / 2, hput g k (hh g k) ((hs g k + 1) / 2) 0 (hpr g k) (g 3) (g 4) (g 5)), fun m P => ⟨show 0 ≤ (hs g k + 1) / 2 by omega, put_GL L (fun _ => L k hkl h0) (hh_16 V W) (by omega), ?_⟩, fun m hg m5 e5 hg5 => ?_⟩
      · obtain ⟨m2, e2, f, Q⟩ := A_free P hkl h0
        refine ⟨m2, od, ps, ?_, f, Q⟩
        show f_Actions_breaking m (k : Int) = _
        unfold f_Actions_breaking
        rw [H_in P.W P.R hkl, Option.bind_some, if_neg (by omega), H_held P.W P.R hkl, if_pos h0, Option.bind_some, if_neg (by omega), H_ent P.W P.R hkl, Option.bind_some, if_neg (by omega), e2, Option.bind_some, H_str Q.W Q.R (by rw [hp_hN]; exact hkl), Option.bind_some, hp_hs, if_pos rfl]
      · refine ⟨mset (mset m5 148 (41 + 5 * k) 0) 148 (40 + 5 * k) ((hs g k + 1) / 2), ?_, B_free hg5 _ _, fun q hq => by rw [mset_ne hq, mset_ne hq]⟩
        have e3 : f_Mod_of (mset m5 148 (41 + 5 * k) 0) (k : Int) 2 = some (hs g k) := by
          rw [M_hs (B_ent hg5 0) (by omega), hp_hs, if_pos rfl]
        show f_Mod_breakEntail m (k : Int) = _
        unfold f_Mod_breakEntail
        rw [M_hab_in W hg hkl, Option.bind_some, if_neg (by omega), M_fails0, Option.bind_some]
        dsimp only
        rw [if_pos rfl, M_gone W (Fz_g hg) hkl, if_pos h0, Option.bind_some, if_pos rfl, M_he (Fz_g hg) (by omega), Option.bind_some, if_neg (by omega), show f_Mod_keeps_148 (Fm m 0) = some m5 from e5, Option.bind_some, M_lay3 (by omega), Option.bind_some, e3, Option.bind_some, jw_id ⟨by omega, by omega⟩, if_pos ⟨by omega, by omega⟩, M_lay2 (by omega), Option.bind_some, M_hs (B_free hg5 _ _) (by omega), Option.bind_some, hp_hs, if_pos rfl]
  · refine ⟨.inr (5, (k : Int)), fun m P => ⟨show (5 : Int) ≠ 12 ∧ (5 : Int) ≠ 0 by omega, ?_⟩, fun m hg => ?_⟩
    · show f_Actions_breaking m (k : Int) = _
      unfold f_Actions_breaking
      rw [H_in P.W P.R hkl, Option.bind_some, if_neg (by omega), H_held P.W P.R hkl, if_neg h0, Option.bind_some, if_pos rfl]
      rfl
    · show f_Mod_breakEntail m (k : Int) = _
      unfold f_Mod_breakEntail
      rw [M_hab_in W hg hkl, Option.bind_some, if_neg (by omega), M_fails0, Option.bind_some]
      dsimp only
      rw [if_pos rfl, M_gone W (Fz_g hg) hkl, if_neg h0, Option.bind_some, if_neg (by omega)]
      rfl
theorem o_give (V : GP g) (W : GH g) (L : GL g) (hkl : k < hN g) {p : Nat} (hp3 : p < gn g) : ∃ o, AS (fun m => f_Actions_gift m (k : Int) (p : Int)) g od ps (some o) ∧ MS Fz (fun m => f_Mod_give m (k : Int) (p : Int)) g 2 (some o) := by
  have hW := W.n
  have B := W.hb hkl
  have hS := B.s
  have hn := V.n
  have hpp : 0 ≤ (p : Int) ∧ (p : Int) < g 0 := by omega
  by_cases h0 : 0 ≤ hh g k
  · obtain ⟨x, ex, hx⟩ := hh_pin W hkl h0
    rcases B.e with h1 | h1
    · by_cases ha : gal g p = true
      · by_cases hxp : x = p
        · refine ⟨.inr (10, (p : Int)), fun m P => ⟨show (10 : Int) ≠ 12 ∧ (10 : Int) ≠ 0 by omega, ?_⟩, fun m hg => ?_⟩
          · show f_Actions_gift m (k : Int) (p : Int) = _
            unfold f_Actions_gift
            rw [H_in P.W P.R hkl, Option.bind_some, if_neg (by omega), P_has P.V P.H, if_pos hpp, Option.bind_some, if_neg (by omega), H_held P.W P.R hkl, if_pos h0, Option.bind_some, if_neg (by omega), H_ent P.W P.R hkl, Option.bind_some, if_pos h1, P_liv P.V P.H hp3, Option.bind_some, V.al hp3, if_pos ha, if_neg (by omega), H_hold P.W P.R hkl, Option.bind_some, if_pos (by omega)]
            rfl
          · show f_Mod_give m (k : Int) (p : Int) = _
            unfold f_Mod_give
            rw [M_hab_in W hg hkl, Option.bind_some, if_neg (by omega), M_per_in V hg hp3, Option.bind_some, if_neg (by omega), M_fails0, Option.bind_some]
            dsimp only
            rw [if_pos rfl, M_gone W (Fz_g hg) hkl, if_pos h0, Option.bind_some, if_pos rfl, M_he (Fz_g hg) (by omega), Option.bind_some, if_neg (by omega), M_liv V (Fz_g hg) hp3, Option.bind_some, V.al hp3, if_pos ha, if_neg (by omega), M_hh (Fz_g hg) (by omega), Option.bind_some, if_pos (by omega)]
            rfl
        · have hap := apt_lt V hx hp3
          by_cases h3 : apt (gp g) x p = -1 ∨ 3 < apt (gp g) x p
          · refine ⟨.inr (11, apt (gp g) x p), fun m P => ⟨show (11 : Int) ≠ 12 ∧ (11 : Int) ≠ 0 by omega, ?_⟩, fun m hg => ?_⟩
            · show f_Actions_gift m (k : Int) (p : Int) = _
              unfold f_Actions_gift
              rw [H_in P.W P.R hkl, Option.bind_some, if_neg (by omega), P_has P.V P.H, if_pos hpp, Option.bind_some, if_neg (by omega), H_held P.W P.R hkl, if_pos h0, Option.bind_some, if_neg (by omega), H_ent P.W P.R hkl, Option.bind_some, if_pos h1, P_liv P.V P.H hp3, Option.bind_some, V.al hp3, if_pos ha, if_neg (by omega), H_hold P.W P.R hkl, Option.bind_some, if_neg (by omega), ex, P_steps P.V P.H hx hp3, Option.bind_some]
              by_cases h4 : apt (gp g) x p = -1
              · rw [if_pos h4]
                rfl
              · rw [if_neg h4, if_pos (by omega)]
                rfl
            · show f_Mod_give m (k : Int) (p : Int) = _
              unfold f_Mod_give
              rw [M_hab_in W hg hkl, Option.bind_some, if_neg (by omega), M_per_in V hg hp3, Option.bind_some, if_neg (by omega), M_fails0, Option.bind_some]
              dsimp only
              rw [if_pos rfl, M_gone W (Fz_g hg) hkl, if_pos h0, Option.bind_some, if_pos rfl, M_he (Fz_g hg) (by omega), Option.bind_some, if_neg (by omega), M_liv V (Fz_g hg) hp3, Option.bind_some, V.al hp3, if_pos ha, if_neg (by omega), M_hh (Fz_g hg) (by omega), Option.bind_some, if_neg (by omega), ex, M_apart V (Fz_g hg) hx hp3, Option.bind_some]
              by_cases h4 : apt (gp g) x p = -1
              · rw [if_pos (by omega)]
                rfl
              · rw [if_neg (by omega), if_pos (by omega)]
                rfl
          · rcases hf_spec g (p : Int) (hk g k) with ⟨e, -⟩ | ⟨l, e, -⟩
            · refine ⟨.inl (apt (gp g) x p, hput g k (p : Int) (hs g k) (he g k) (hpr g k) (g 3) (g 4) (g 5)), fun m P => ⟨show 0 ≤ apt (gp g) x p by omega, put_GL L (fun _ => by rw [Int.toNat_natCast]; exact ha) (hh_16 V W) (by omega), ?_⟩, fun m hg m5 e5 hg5 => ?_⟩
              · obtain ⟨m2, e2, f, Q⟩ := A_move P hkl h0 hp3 e
                refine ⟨m2, od, ps, ?_, f, Q⟩
                show f_Actions_gift m (k : Int) (p : Int) = _
                unfold f_Actions_gift
                rw [H_in P.W P.R hkl, Option.bind_some, if_neg (by omega), P_has P.V P.H, if_pos hpp, Option.bind_some, if_neg (by omega), H_held P.W P.R hkl, if_pos h0, Option.bind_some, if_neg (by omega), H_ent P.W P.R hkl, Option.bind_some, if_pos h1, P_liv P.V P.H hp3, Option.bind_some, V.al hp3, if_pos ha, if_neg (by omega), H_hold P.W P.R hkl, Option.bind_some, if_neg (by omega), ex, P_steps P.V P.H hx hp3, Option.bind_some, if_neg (by omega), if_neg (by omega), H_kind P.W P.R hkl, Option.bind_some, H_find P.W P.R hpp.1 B.2, Option.bind_some, if_pos e, e2]
                rfl
              · refine ⟨mset m5 148 (38 + 5 * k) (p : Int), ?_, B_move hg5 _, fun q hq => mset_ne hq⟩
                show f_Mod_give m (k : Int) (p : Int) = _
                unfold f_Mod_give
                rw [M_hab_in W hg hkl, Option.bind_some, if_neg (by omega), M_per_in V hg hp3, Option.bind_some, if_neg (by omega), M_fails0, Option.bind_some]
                dsimp only
                rw [if_pos rfl, M_gone W (Fz_g hg) hkl, if_pos h0, Option.bind_some, if_pos rfl, M_he (Fz_g hg) (by omega), Option.bind_some, if_neg (by omega), M_liv V (Fz_g hg) hp3, Option.bind_some, V.al hp3, if_pos ha, if_neg (by omega), M_hh (Fz_g hg) (by omega), Option.bind_some, if_neg (by omega), ex, M_apart V (Fz_g hg) hx hp3, Option.bind_some, if_neg (by omega), if_neg (by omega), M_hk (Fz_g hg) (by omega), Option.bind_some, M_held W (Fz_g hg), Option.bind_some, if_pos (by omega), show f_Mod_keeps_148 (Fm m 0) = some m5 from e5, Option.bind_some, M_lay0 (by omega)]
                rfl
            · refine ⟨.inr (4, (l : Int)), fun m P => ⟨show (4 : Int) ≠ 12 ∧ (4 : Int) ≠ 0 by omega, ?_⟩, fun m hg => ?_⟩
              · show f_Actions_gift m (k : Int) (p : Int) = _
                unfold f_Actions_gift
                rw [H_in P.W P.R hkl, Option.bind_some, if_neg (by omega), P_has P.V P.H, if_pos hpp, Option.bind_some, if_neg (by omega), H_held P.W P.R hkl, if_pos h0, Option.bind_some, if_neg (by omega), H_ent P.W P.R hkl, Option.bind_some, if_pos h1, P_liv P.V P.H hp3, Option.bind_some, V.al hp3, if_pos ha, if_neg (by omega), H_hold P.W P.R hkl, Option.bind_some, if_neg (by omega), ex, P_steps P.V P.H hx hp3, Option.bind_some, if_neg (by omega), if_neg (by omega), H_kind P.W P.R hkl, Option.bind_some, H_find P.W P.R hpp.1 B.2, Option.bind_some, e, if_neg (by omega)]
                rfl
              · show f_Mod_give m (k : Int) (p : Int) = _
                unfold f_Mod_give
                rw [M_hab_in W hg hkl, Option.bind_some, if_neg (by omega), M_per_in V hg hp3, Option.bind_some, if_neg (by omega), M_fails0, Option.bind_some]
                dsimp only
                rw [if_pos rfl, M_gone W (Fz_g hg) hkl, if_pos h0, Option.bind_some, if_pos rfl, M_he (Fz_g hg) (by omega), Option.bind_some, if_neg (by omega), M_liv V (Fz_g hg) hp3, Option.bind_some, V.al hp3, if_pos ha, if_neg (by omega), M_hh (Fz_g hg) (by omega), Option.bind_some, if_neg (by omega), ex, M_apart V (Fz_g hg) hx hp3, Option.bind_some, if_neg (by omega), if_neg (by omega), M_hk (Fz_g hg) (by omega), Option.bind_some, M_held W (Fz_g hg), Option.bind_some, e, if_neg (by omega)]
                rfl
      · refine ⟨.inr (3, (p : Int)), fun m P => ⟨show (3 : Int) ≠ 12 ∧ (3 : Int) ≠ 0 by omega, ?_⟩, fun m hg => ?_⟩
        · show f_Actions_gift m (k : Int) (p : Int) = _
          unfold f_Actions_gift
          rw [H_in P.W P.R hkl, Option.bind_some, if_neg (by omega), P_has P.V P.H, if_pos hpp, Option.bind_some, if_neg (by omega), H_held P.W P.R hkl, if_pos h0, Option.bind_some, if_neg (by omega), H_ent P.W P.R hkl, Option.bind_some, if_pos h1, P_liv P.V P.H hp3, Option.bind_some, V.al hp3, if_neg ha, if_pos rfl]
          rfl
        · show f_Mod_give m (k : Int) (p : Int) = _
          unfold f_Mod_give
          rw [M_hab_in W hg hkl, Option.bind_some, if_neg (by omega), M_per_in V hg hp3, Option.bind_some, if_neg (by omega), M_fails0, Option.bind_some]
          dsimp only
          rw [if_pos rfl, M_gone W (Fz_g hg) hkl, if_pos h0, Option.bind_some, if_pos rfl, M_he (Fz_g hg) (by omega), Option.bind_some, if_neg (by omega), M_liv V (Fz_g hg) hp3, Option.bind_some, V.al hp3, if_neg ha, if_pos rfl]
          rfl
    · refine ⟨.inr (7, (k : Int)), fun m P => ⟨show (7 : Int) ≠ 12 ∧ (7 : Int) ≠ 0 by omega, ?_⟩, fun m hg => ?_⟩
      · show f_Actions_gift m (k : Int) (p : Int) = _
        unfold f_Actions_gift
        rw [H_in P.W P.R hkl, Option.bind_some, if_neg (by omega), P_has P.V P.H, if_pos hpp, Option.bind_some, if_neg (by omega), H_held P.W P.R hkl, if_pos h0, Option.bind_some, if_neg (by omega), H_ent P.W P.R hkl, Option.bind_some, if_neg (by omega)]
        rfl
      · show f_Mod_give m (k : Int) (p : Int) = _
        unfold f_Mod_give
        rw [M_hab_in W hg hkl, Option.bind_some, if_neg (by omega), M_per_in V hg hp3, Option.bind_some, if_neg (by omega), M_fails0, Option.bind_some]
        dsimp only
        rw [if_pos rfl, M_gone W (Fz_g hg) hkl, if_pos h0, Option.bind_some, if_pos rfl, M_he (Fz_g hg) (by omega), Option.bind_some, if_pos h1]
        rfl
  · refine ⟨.inr (5, (k : Int)), fun m P => ⟨show (5 : Int) ≠ 12 ∧ (5 : Int) ≠ 0 by omega, ?_⟩, fun m hg => ?_⟩
    · show f_Actions_gift m (k : Int) (p : Int) = _
      unfold f_Actions_gift
      rw [H_in P.W P.R hkl, Option.bind_some, if_neg (by omega), P_has P.V P.H, if_pos hpp, Option.bind_some, if_neg (by omega), H_held P.W P.R hkl, if_neg h0, Option.bind_some, if_pos rfl]
      rfl
    · show f_Mod_give m (k : Int) (p : Int) = _
      unfold f_Mod_give
      rw [M_hab_in W hg hkl, Option.bind_some, if_neg (by omega), M_per_in V hg hp3, Option.bind_some, if_neg (by omega), M_fails0, Option.bind_some]
      dsimp only
      rw [if_pos rfl, M_gone W (Fz_g hg) hkl, if_neg h0, Option.bind_some, if_neg (by omega)]
      rfl
end Ops

/-! ===== a command's outcome, on both sides ===== -/
def oc (F : jMem → jMem) (act mod : jMem → Option (Int × jMem)) (g : Nat → Int) (od ps : Nat → Nat) : Prop := ∃ cc o, 0 < cc ∧ AS act g od ps o ∧ MS F mod g cc o
section Oc
variable {m0 : jMem} {g : Nat → Int} {od ps : Nat → Nat}
theorem oc_found (P : R0 m0 g od ps) (L : GL g) : oc (fun m => m) f_Actions_newFounder f_Mod_addFounder g od ps := by
  obtain ⟨o, h1, h2⟩ := o_found (od := od) (ps := ps) P.V P.W L
  exact ⟨1, some o, by omega, h1, h2⟩
theorem oc_child (P : R0 m0 g od ps) (L : GL g) (a : Int) : oc Fz (fun m => f_Actions_newChild m a) (fun m => f_Mod_addChild m a) g od ps := by
  by_cases h : 0 ≤ a ∧ a < g 0
  · obtain ⟨i, rfl, hi⟩ := pin P.V h
    obtain ⟨o, h1, h2⟩ := o_child (od := od) (ps := ps) P.V P.W L hi
    exact ⟨2, some o, by omega, h1, h2⟩
  · refine ⟨1, none, by omega, fun m Q => ?_, fun m hg => ?_⟩
    · show f_Actions_newChild m a = _
      unfold f_Actions_newChild
      rw [P_has Q.V Q.H, if_neg h, Option.bind_some, if_pos rfl]
    · show f_Mod_addChild m a = _
      unfold f_Mod_addChild
      rw [M_per_out P.V hg h, Option.bind_some, if_pos rfl, M_fails (by omega), Option.bind_some]
      dsimp only
      rw [if_neg (by omega)]
theorem oc_bury (P : R0 m0 g od ps) (L : GL g) (a : Int) : oc Fz (fun m => f_Actions_burial m a) (fun m => f_Mod_bury m a) g od ps := by
  by_cases h : 0 ≤ a ∧ a < g 0
  · obtain ⟨i, rfl, hi⟩ := pin P.V h
    obtain ⟨o, h1, h2⟩ := o_bury P L hi
    exact ⟨2, some o, by omega, h1, h2⟩
  · refine ⟨1, none, by omega, fun m Q => ?_, fun m hg => ?_⟩
    · show f_Actions_burial m a = _
      unfold f_Actions_burial
      rw [P_has Q.V Q.H, if_neg h, Option.bind_some, if_pos rfl]
    · show f_Mod_bury m a = _
      unfold f_Mod_bury
      rw [M_per_out P.V hg h, Option.bind_some, if_pos rfl, M_fails (by omega), Option.bind_some]
      dsimp only
      rw [if_neg (by omega)]
theorem oc_prac (P : R0 m0 g od ps) (L : GL g) (a : Int) : oc Fz (fun m => f_Actions_practice m a) (fun m => f_Mod_practise m a) g od ps := by
  by_cases h : 0 ≤ a ∧ a < g 1
  · obtain ⟨k, rfl, hk⟩ := hin P.W h
    obtain ⟨o, h1, h2⟩ := o_prac (od := od) (ps := ps) P.V P.W L hk
    exact ⟨2, some o, by omega, h1, h2⟩
  · refine ⟨1, none, by omega, fun m Q => ?_, fun m hg => ?_⟩
    · show f_Actions_practice m a = _
      unfold f_Actions_practice
      rw [H_has Q.R, if_neg h, Option.bind_some, if_pos rfl]
    · show f_Mod_practise m a = _
      unfold f_Mod_practise
      rw [M_hab_out P.W hg h, Option.bind_some, if_pos rfl, M_fails (by omega), Option.bind_some]
      dsimp only
      rw [if_neg (by omega)]
theorem oc_negl (P : R0 m0 g od ps) (L : GL g) (a : Int) : oc Fz (fun m => f_Actions_neglecting m a) (fun m => f_Mod_neglect m a) g od ps := by
  by_cases h : 0 ≤ a ∧ a < g 1
  · obtain ⟨k, rfl, hk⟩ := hin P.W h
    obtain ⟨o, h1, h2⟩ := o_negl (od := od) (ps := ps) P.V P.W L hk
    exact ⟨2, some o, by omega, h1, h2⟩
  · refine ⟨1, none, by omega, fun m Q => ?_, fun m hg => ?_⟩
    · show f_Actions_neglecting m a = _
      unfold f_Actions_neglecting
      rw [H_has Q.R, if_neg h, Option.bind_some, if_pos rfl]
    · show f_Mod_neglect m a = _
      unfold f_Mod_neglect
      rw [M_hab_out P.W hg h, Option.bind_some, if_pos rfl, M_fails (by omega), Option.bind_some]
      dsimp only
      rw [if_neg (by omega)]
theorem oc_enta (P : R0 m0 g od ps) (L : GL g) (a : Int) : oc Fz (fun m => f_Actions_entailing m a) (fun m => f_Mod_entail m a) g od ps := by
  by_cases h : 0 ≤ a ∧ a < g 1
  · obtain ⟨k, rfl, hk⟩ := hin P.W h
    obtain ⟨o, h1, h2⟩ := o_enta P.V P.W L P.H.o hk
    exact ⟨2, some o, by omega, h1, h2⟩
  · refine ⟨1, none, by omega, fun m Q => ?_, fun m hg => ?_⟩
    · show f_Actions_entailing m a = _
      unfold f_Actions_entailing
      rw [H_has Q.R, if_neg h, Option.bind_some, if_pos rfl]
    · show f_Mod_entail m a = _
      unfold f_Mod_entail
      rw [M_hab_out P.W hg h, Option.bind_some, if_pos rfl, M_fails (by omega), Option.bind_some]
      dsimp only
      rw [if_neg (by omega)]
theorem oc_brea (P : R0 m0 g od ps) (L : GL g) (a : Int) : oc Fz (fun m => f_Actions_breaking m a) (fun m => f_Mod_breakEntail m a) g od ps := by
  by_cases h : 0 ≤ a ∧ a < g 1
  · obtain ⟨k, rfl, hk⟩ := hin P.W h
    obtain ⟨o, h1, h2⟩ := o_brea (od := od) (ps := ps) P.V P.W L hk
    exact ⟨2, some o, by omega, h1, h2⟩
  · refine ⟨1, none, by omega, fun m Q => ?_, fun m hg => ?_⟩
    · show f_Actions_breaking m a = _
      unfold f_Actions_breaking
      rw [H_has Q.R, if_neg h, Option.bind_some, if_pos rfl]
    · show f_Mod_breakEntail m a = _
      unfold f_Mod_breakEntail
      rw [M_hab_out P.W hg h, Option.bind_some, if_pos rfl, M_fails (by omega), Option.bind_some]
      dsimp only
      rw [if_neg (by omega)]
theorem oc_give (P : R0 m0 g od ps) (L : GL g) (a b : Int) : oc Fz (fun m => f_Actions_gift m a b) (fun m => f_Mod_give m a b) g od ps := by
  by_cases h : 0 ≤ a ∧ a < g 1
  · obtain ⟨k, rfl, hk⟩ := hin P.W h
    by_cases h2 : 0 ≤ b ∧ b < g 0
    · obtain ⟨i, rfl, hi⟩ := pin P.V h2
      obtain ⟨o, h1, h2⟩ := o_give (od := od) (ps := ps) P.V P.W L hk hi
      exact ⟨2, some o, by omega, h1, h2⟩
    · refine ⟨1, none, by omega, fun m Q => ?_, fun m hg => ?_⟩
      · show f_Actions_gift m (k : Int) b = _
        unfold f_Actions_gift
        rw [H_in Q.W Q.R hk, Option.bind_some, if_neg (by omega), P_has Q.V Q.H, if_neg h2, Option.bind_some, if_pos rfl]
      · show f_Mod_give m (k : Int) b = _
        unfold f_Mod_give
        rw [M_hab_in P.W hg hk, Option.bind_some, if_neg (by omega), M_per_out P.V hg h2, Option.bind_some, if_pos rfl, M_fails (by omega), Option.bind_some]
        dsimp only
        rw [if_neg (by omega)]
  · refine ⟨1, none, by omega, fun m Q => ?_, fun m hg => ?_⟩
    · show f_Actions_gift m a b = _
      unfold f_Actions_gift
      rw [H_has Q.R, if_neg h, Option.bind_some, if_pos rfl]
    · show f_Mod_give m a b = _
      unfold f_Mod_give
      rw [M_hab_out P.W hg h, Option.bind_some, if_pos rfl, M_fails (by omega), Option.bind_some]
      dsimp only
      rw [if_neg (by omega)]
theorem oc_pass (P : R0 m0 g od ps) (L : GL g) (a : Int) : oc Fz (fun m => f_Actions_passing m a) (fun m => f_Mod_passYears m a) g od ps := by
  by_cases h : 1 ≤ a ∧ a ≤ 9
  · obtain ⟨n, hn⟩ := Int.eq_ofNat_of_zero_le (show 0 ≤ a by omega)
    subst hn
    obtain ⟨x, h1, h2⟩ := o_pass P L (a := n) ⟨by omega, by omega⟩ 1
    exact ⟨1, some (.inl x), by omega, h1, h2⟩
  · refine ⟨1, none, by omega, fun m Q => ?_, fun m hg => ?_⟩
    · show f_Actions_passing m a = _
      have e : f_Reg_isYears m a = some 0 := by
        unfold f_Reg_isYears
        by_cases h1 : a < 1
        · rw [if_pos h1]
        · rw [if_neg h1, if_pos (by omega)]
      unfold f_Actions_passing
      rw [e, Option.bind_some, if_pos rfl]
    · show f_Mod_passYears m a = _
      have e : f_Mod_in m a 1 9 = some 0 := by
        unfold f_Mod_in
        by_cases h1 : a < 1
        · rw [if_pos h1]
        · rw [if_neg h1, if_pos (by omega)]
      unfold f_Mod_passYears
      rw [e, Option.bind_some, if_pos rfl, M_fails (by omega), Option.bind_some]
      dsimp only
      rw [if_neg (by omega)]
theorem txk_kof {x : Int} (h : txk x) : (kof x = 0 ∨ kof x = 1 ∨ kof x = 2) ∧ x = ltr (kof x) := by
  rcases kof_cases x with ⟨-, h1, h2, h3⟩ | h1
  · rcases h with h | h | h
    · exact absurd h h1
    · exact absurd h h2
    · exact absurd h h3
  · exact h1
theorem oc_habit (P : R0 m0 g od ps) (L : GL g) (a s : Int) {b : Int} (hb : txk b) : oc Fz (fun m => f_Actions_newHabit m a b s) (fun m => f_Mod_addHabit m a b s) g od ps := by
  obtain ⟨e, hbl⟩ := txk_kof hb
  by_cases h : 0 ≤ a ∧ a < g 0
  · obtain ⟨i, rfl, hi⟩ := pin P.V h
    by_cases hs3 : 1 ≤ s ∧ s ≤ 9
    · obtain ⟨o, h1, h2⟩ := o_habit (od := od) (ps := ps) P.V P.W L hi e hbl hs3
      exact ⟨3, some o, by omega, h1, h2⟩
    · have e9 : ∀ m, f_Reg_isStrength m s = some 0 := fun m => by
        unfold f_Reg_isStrength
        by_cases h1 : s < 1
        · rw [if_pos h1]
        · rw [if_neg h1, if_pos (by omega)]
      have e8 : ∀ m, f_Mod_in m s 1 9 = some 0 := e9
      refine ⟨2, none, by omega, fun m Q => ?_, fun m hg => ?_⟩
      · show f_Actions_newHabit m (i : Int) b s = _
        unfold f_Actions_newHabit
        rw [P_has Q.V Q.H, if_pos h, Option.bind_some, if_neg (by omega), isKy m hb, Option.bind_some, if_neg (by omega), e9, Option.bind_some, if_pos rfl]
      · show f_Mod_addHabit m (i : Int) b s = _
        unfold f_Mod_addHabit
        rw [M_k0, Option.bind_some, M_per_in P.V hg hi, Option.bind_some, if_neg (by omega), if_neg (by omega), e8, Option.bind_some, if_pos rfl, M_fails (by omega), Option.bind_some]
        dsimp only
        rw [if_neg (by omega)]
  · refine ⟨1, none, by omega, fun m Q => ?_, fun m hg => ?_⟩
    · show f_Actions_newHabit m a b s = _
      unfold f_Actions_newHabit
      rw [P_has Q.V Q.H, if_neg h, Option.bind_some, if_pos rfl]
    · show f_Mod_addHabit m a b s = _
      unfold f_Mod_addHabit
      rw [M_k0, Option.bind_some, M_per_out P.V hg h, Option.bind_some, if_pos rfl, M_fails (by omega), Option.bind_some]
      dsimp only
      rw [if_neg (by omega)]
end Oc
/-! a command of a row -/
theorem bpair (A : Option (Int × jMem)) : (A.bind fun q => some (q.1, q.2)) = A := by
  cases A <;> rfl
section Cmd
variable {t : Nat → Int} {c x : Nat} {m : jMem} {k K : Nat}
theorem sc_1 (h7 : m 139 7 = (K : Int)) (hk : k < K) (hK : K ≤ 60) : f_Script_firstNumber m (k : Int) = some (m 142 k) := by
  unfold f_Script_firstNumber
  rw [h7, if_neg (by omega), if_pos (by omega), oix_n (by omega), Int.toNat_natCast]
theorem sc_2 (h7 : m 139 7 = (K : Int)) (hk : k < K) (hK : K ≤ 60) : f_Script_secondNumber m (k : Int) = some (m 144 k) := by
  unfold f_Script_secondNumber
  rw [h7, if_neg (by omega), if_pos (by omega), oix_n (by omega), Int.toNat_natCast]
theorem sc_l (h7 : m 139 7 = (K : Int)) (hk : k < K) (hK : K ≤ 60) : f_Script_letter m (k : Int) = some (m 141 k) := by
  unfold f_Script_letter
  rw [h7, if_neg (by omega), if_pos (by omega), oix_n (by omega), Int.toNat_natCast]
theorem sc_k (h7 : m 139 7 = (K : Int)) (hk : k < K) (hK : K ≤ 60) (h : txk (m 143 k)) : f_Script_kind m (k : Int) = some (m 143 k) := by
  have h9 : 0 ≤ m 143 k ∧ m 143 k < 65536 := by
    rcases h with h | h | h <;> omega
  unfold f_Script_kind
  rw [h7, if_neg (by omega), if_pos (by omega), oix_n (by omega), Int.toNat_natCast, och_i h9]
/-- the class's command, with its letter and numbers put in -/
theorem rcm (h7 : m 139 7 = (K : Int)) (hk : k < K) (hK : K ≤ 60) {l : Int} (hl : m 141 k = l) : f_Reg_runCommand m (k : Int) = if l = 97 then (f_Script_kind m (k : Int)).bind fun x13 => (f_Actions_newHabit m (m 142 k) x13 (m 144 k)).bind fun qx14 => some (qx14.1, qx14.2) else if l = 98 then (f_Actions_burial m (m 142 k)).bind fun qx12 => some (qx12.1, qx12.2) else if l = 99 then (f_Actions_newChild m (m 142 k)).bind fun qx11 => some (qx11.1, qx11.2) else if l = 100 then some ((-2), m) else if l = 101 then (f_Actions_entailing m (m 142 k)).bind fun qx10 => some (qx10.1, qx10.2) else if l = 102 then (f_Actions_newFounder m).bind fun qx9 => some (qx9.1, qx9.2) else if l = 103 then (f_Actions_gift m (m 142 k) (m 144 k)).bind fun qx8 => some (qx8.1, qx8.2) else if l = 104 then some ((-2), m) else if l = 105 then some ((-2), m) else if l = 106 then some ((-2), m) else if l = 107 then (f_Actions_breaking m (m 142 k)).bind fun qx7 => some (qx7.1, qx7.2) else if l = 108 then some ((-2), m) else if l = 109 then some ((-2), m) else if l = 110 then (f_Actions_neglecting m (m 142 k)).bind fun qx6 => some (qx6.1, qx6.2) else if l = 111 then some ((-2), m) else if l = 112 then (f_Actions_practice m (m 142 k)).bind fun qx5 => some (qx5.1, qx5.2) else if l = 113 then some ((-2), m) else if l = 114 then some ((-2), m) else if l = 115 then some ((-2), m) else if l = 116 then some ((-2), m) else if l = 117 then some ((-2), m) else if l = 118 then some ((-2), m) else if l = 119 then some ((-2), m) else if l = 120 then some ((-2), m) else if l = 121 then (f_Actions_passing m (m 142 k)).bind fun qx4 => some (qx4.1, qx4.2) else some ((-2), m) := by
  unfold f_Reg_runCommand
  rw [sc_1 h7 hk hK, Option.bind_some, sc_2 h7 hk hK, Option.bind_some, sc_l h7 hk hK, Option.bind_some, hl]
/-- the model's -/
theorem mcm {kk : Nat} (hk : kk ≤ 30) {l : Int} (hl : m 154 (4 * kk) = l) : f_Mod_carries m ((4 * kk : Nat) : Int) = if l = 97 then (((f_Mod_addHabit m (m 154 (4 * kk + 1)) ((m 154 (4 * kk + 2)) % 65536) (m 154 (4 * kk + 3))).bind fun qx17 => some (qx17.1, qx17.2))) else if l = 98 then (f_Mod_bury m (m 154 (4 * kk + 1))).bind fun qx16 => some (qx16.1, qx16.2) else if l = 99 then (f_Mod_addChild m (m 154 (4 * kk + 1))).bind fun qx15 => some (qx15.1, qx15.2) else if l = 100 then (f_Mod_passYears m (m 154 (4 * kk + 1))).bind fun qx14 => some (qx14.1, qx14.2) else if l = 101 then (f_Mod_entail m (m 154 (4 * kk + 1))).bind fun qx13 => some (qx13.1, qx13.2) else if l = 102 then (f_Mod_addFounder m).bind fun qx12 => some (qx12.1, qx12.2) else if l = 103 then ((f_Mod_give m (m 154 (4 * kk + 1)) (m 154 (4 * kk + 2))).bind fun qx11 => some (qx11.1, qx11.2)) else if l = 104 then (f_Mod_passYears m (m 154 (4 * kk + 1))).bind fun qx10 => some (qx10.1, qx10.2) else if l = 105 then (f_Mod_passYears m (m 154 (4 * kk + 1))).bind fun qx9 => some (qx9.1, qx9.2) else if l = 106 then (f_Mod_passYears m (m 154 (4 * kk + 1))).bind fun qx8 => some (qx8.1, qx8.2) else if l = 107 then (f_Mod_breakEntail m (m 154 (4 * kk + 1))).bind fun qx7 => some (qx7.1, qx7.2) else if l = 108 then (f_Mod_passYears m (m 154 (4 * kk + 1))).bind fun qx6 => some (qx6.1, qx6.2) else if l = 109 then (f_Mod_passYears m (m 154 (4 * kk + 1))).bind fun qx5 => some (qx5.1, qx5.2) else if l = 110 then (f_Mod_neglect m (m 154 (4 * kk + 1))).bind fun qx4 => some (qx4.1, qx4.2) else if l = 111 then (f_Mod_passYears m (m 154 (4 * kk + 1))).bind fun qx3 => some (qx3.1, qx3.2) else if l = 112 then (f_Mod_practise m (m 154 (4 * kk + 1))).bind fun qx2 => some (qx2.1, qx2.2) else (f_Mod_passYears m (m 154 (4 * kk + 1))).bind fun qx1 => some (qx1.1, qx1.2) := by
  have e1 : jw (((4 * kk : Nat) : Int) + 1) = ((4 * kk + 1 : Nat) : Int) := jw_s (by omega)
  have e2 : jw (((4 * kk : Nat) : Int) + 2) = ((4 * kk + 2 : Nat) : Int) := jw_e (by omega) (by omega) (by omega)
  have e3 : jw (((4 * kk : Nat) : Int) + 3) = ((4 * kk + 3 : Nat) : Int) := jw_e (by omega) (by omega) (by omega)
  unfold f_Mod_carries
  simp only [e1, e2, e3, oix_n (show 4 * kk < 124 by omega), oix_n (show 4 * kk + 1 < 124 by omega), oix_n (show 4 * kk + 2 < 124 by omega), oix_n (show 4 * kk + 3 < 124 by omega), Int.toNat_natCast, hl]
def cmOK (t : Nat → Int) (c x : Nat) (act mod : jMem → Option (Int × jMem)) : Prop :=
  (∀ (m : jMem) (k K : Nat), m 139 7 = (K : Int) → k < K → K ≤ 60 → cmC t c m k x → f_Reg_runCommand m (k : Int) = act m) ∧
  (∀ (m : jMem) (kk : Nat), kk ≤ 30 → cmM t c m kk x → f_Mod_carries m ((4 * kk : Nat) : Int) = mod m)
theorem ok_f (e : t x = 102) : cmOK t c x f_Actions_newFounder f_Mod_addFounder := by
  refine ⟨fun m k K h7 hk hK h => ?_, fun m kk hk h => ?_⟩
  · rw [rcm h7 hk hK (h.1.trans e)]
    simp only [↓reduceIte, Int.reduceEq]
    exact bpair _
  · rw [mcm hk (h.1.trans e)]
    simp only [↓reduceIte, Int.reduceEq]
    exact bpair _
theorem ok_c (e : t x = 99) : cmOK t c x (fun m => f_Actions_newChild m (cmA t c x)) (fun m => f_Mod_addChild m (cmA t c x)) := by
  refine ⟨fun m k K h7 hk hK h => ?_, fun m kk hk h => ?_⟩
  · rw [rcm h7 hk hK (h.1.trans e), h.2.1 (by omega)]
    simp only [↓reduceIte, Int.reduceEq]
    exact bpair _
  · rw [mcm hk (h.1.trans e), h.2.1 (by omega)]
    simp only [↓reduceIte, Int.reduceEq]
    exact bpair _
theorem ok_b (e : t x = 98) : cmOK t c x (fun m => f_Actions_burial m (cmA t c x)) (fun m => f_Mod_bury m (cmA t c x)) := by
  refine ⟨fun m k K h7 hk hK h => ?_, fun m kk hk h => ?_⟩
  · rw [rcm h7 hk hK (h.1.trans e), h.2.1 (by omega)]
    simp only [↓reduceIte, Int.reduceEq]
    exact bpair _
  · rw [mcm hk (h.1.trans e), h.2.1 (by omega)]
    simp only [↓reduceIte, Int.reduceEq]
    exact bpair _
theorem ok_p (e : t x = 112) : cmOK t c x (fun m => f_Actions_practice m (cmA t c x)) (fun m => f_Mod_practise m (cmA t c x)) := by
  refine ⟨fun m k K h7 hk hK h => ?_, fun m kk hk h => ?_⟩
  · rw [rcm h7 hk hK (h.1.trans e), h.2.1 (by omega)]
    simp only [↓reduceIte, Int.reduceEq]
    exact bpair _
  · rw [mcm hk (h.1.trans e), h.2.1 (by omega)]
    simp only [↓reduceIte, Int.reduceEq]
    exact bpair _
theorem ok_n (e : t x = 110) : cmOK t c x (fun m => f_Actions_neglecting m (cmA t c x)) (fun m => f_Mod_neglect m (cmA t c x)) := by
  refine ⟨fun m k K h7 hk hK h => ?_, fun m kk hk h => ?_⟩
  · rw [rcm h7 hk hK (h.1.trans e), h.2.1 (by omega)]
    simp only [↓reduceIte, Int.reduceEq]
    exact bpair _
  · rw [mcm hk (h.1.trans e), h.2.1 (by omega)]
    simp only [↓reduceIte, Int.reduceEq]
    exact bpair _
theorem ok_e (e : t x = 101) : cmOK t c x (fun m => f_Actions_entailing m (cmA t c x)) (fun m => f_Mod_entail m (cmA t c x)) := by
  refine ⟨fun m k K h7 hk hK h => ?_, fun m kk hk h => ?_⟩
  · rw [rcm h7 hk hK (h.1.trans e), h.2.1 (by omega)]
    simp only [↓reduceIte, Int.reduceEq]
    exact bpair _
  · rw [mcm hk (h.1.trans e), h.2.1 (by omega)]
    simp only [↓reduceIte, Int.reduceEq]
    exact bpair _
theorem ok_k (e : t x = 107) : cmOK t c x (fun m => f_Actions_breaking m (cmA t c x)) (fun m => f_Mod_breakEntail m (cmA t c x)) := by
  refine ⟨fun m k K h7 hk hK h => ?_, fun m kk hk h => ?_⟩
  · rw [rcm h7 hk hK (h.1.trans e), h.2.1 (by omega)]
    simp only [↓reduceIte, Int.reduceEq]
    exact bpair _
  · rw [mcm hk (h.1.trans e), h.2.1 (by omega)]
    simp only [↓reduceIte, Int.reduceEq]
    exact bpair _
theorem ok_y (e : t x = 121) : cmOK t c x (fun m => f_Actions_passing m (cmA t c x)) (fun m => f_Mod_passYears m (cmA t c x)) := by
  refine ⟨fun m k K h7 hk hK h => ?_, fun m kk hk h => ?_⟩
  · rw [rcm h7 hk hK (h.1.trans e), h.2.1 (by omega)]
    simp only [↓reduceIte, Int.reduceEq]
    exact bpair _
  · rw [mcm hk (h.1.trans e), h.2.1 (by omega)]
    simp only [↓reduceIte, Int.reduceEq]
    exact bpair _
theorem ok_g (e : t x = 103) : cmOK t c x (fun m => f_Actions_gift m (cmA t c x) (cmB t c x)) (fun m => f_Mod_give m (cmA t c x) (cmB t c x)) := by
  refine ⟨fun m k K h7 hk hK h => ?_, fun m kk hk h => ?_⟩
  · rw [rcm h7 hk hK (h.1.trans e), h.2.1 (by omega), h.2.2.2 (Or.inr e)]
    simp only [↓reduceIte, Int.reduceEq]
    exact bpair _
  · rw [mcm hk (h.1.trans e), h.2.1 (by omega), h.2.2.2 e]
    simp only [↓reduceIte, Int.reduceEq]
    exact bpair _
theorem ok_a (e : t x = 97) (hb : txk (t (txo2 t c (x + 1)))) : cmOK t c x (fun m => f_Actions_newHabit m (cmA t c x) (t (txo2 t c (x + 1))) (cmB t c x)) (fun m => f_Mod_addHabit m (cmA t c x) (t (txo2 t c (x + 1))) (cmB t c x)) := by
  refine ⟨fun m k K h7 hk hK h => ?_, fun m kk hk h => ?_⟩
  · have h3 := h.2.2.1 e
    rw [rcm h7 hk hK (h.1.trans e), h.2.1 (by omega), h.2.2.2 (Or.inl e)]
    simp only [↓reduceIte, Int.reduceEq]
    rw [sc_k h7 hk hK (by rw [h3]; exact hb), Option.bind_some, h3]
    exact bpair _
  · obtain ⟨h3, h4⟩ := h.2.2.1 e
    have h5 : t (txo2 t c (x + 1)) % 65536 = t (txo2 t c (x + 1)) := by
      rcases hb with q | q | q <;> rw [q] <;> rfl
    rw [mcm hk (h.1.trans e), h.2.1 (by omega), h3, h4, h5]
    simp only [↓reduceIte, Int.reduceEq]
    exact bpair _
theorem oc_cmd {m0 : jMem} {g : Nat → Int} {od ps : Nat → Nat} (P : R0 m0 g od ps) (L : GL g) (hV : cmV t c x) : ∃ F act mod, (F = Fz ∨ F = fun m => m) ∧ oc F act mod g od ps ∧ cmOK t c x act mod := by
  obtain ⟨h1, h2⟩ := hV
  rcases h1 with e | e | e | e | e | e | e | e | e | e
  · exact ⟨_, _, _, Or.inr rfl, oc_found P L, ok_f e⟩
  · exact ⟨_, _, _, Or.inl rfl, oc_habit P L (cmA t c x) (cmB t c x) (h2 e), ok_a e (h2 e)⟩
  · exact ⟨_, _, _, Or.inl rfl, oc_give P L (cmA t c x) (cmB t c x), ok_g e⟩
  · exact ⟨_, _, _, Or.inl rfl, oc_pass P L (cmA t c x), ok_y e⟩
  · exact ⟨_, _, _, Or.inl rfl, oc_child P L (cmA t c x), ok_c e⟩
  · exact ⟨_, _, _, Or.inl rfl, oc_bury P L (cmA t c x), ok_b e⟩
  · exact ⟨_, _, _, Or.inl rfl, oc_prac P L (cmA t c x), ok_p e⟩
  · exact ⟨_, _, _, Or.inl rfl, oc_negl P L (cmA t c x), ok_n e⟩
  · exact ⟨_, _, _, Or.inl rfl, oc_enta P L (cmA t c x), ok_e e⟩
  · exact ⟨_, _, _, Or.inl rfl, oc_brea P L (cmA t c x), ok_k e⟩
end Cmd

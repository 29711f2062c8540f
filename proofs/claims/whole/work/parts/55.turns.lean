/-! ===== turns: the law's side, and what a turn must do ===== -/
theorem oel_n {β : Type} {b : β} {g : String → β} : oel none b g = b := rfl
theorem oel_s {β : Type} {b : β} {E : String} {g : String → β} : oel (some E) b g = g E := rfl
theorem sel_l {α β : Type} {x : α} {f : α → β} {g : String → β} : sel (.inl x) f g = f x := rfl
theorem sel_r {α β : Type} {E : String} {f : α → β} {g : String → β} : sel (.inr E) f g = g E := rfl
def Fm (m : jMem) (c : Int) : jMem := mset (mset m 147 8 c) 147 7 0
theorem Fm_row {m : jMem} {c : Int} {q : Nat} (h : q ≠ 147) : Fm m c q = m q := (mset_ne h).trans (mset_ne h)
theorem Fm_8 {m : jMem} {c : Int} : Fm m c 147 8 = c := (ms_g (by omega)).trans ms_f
theorem Fm_j {m : jMem} {c : Int} {j : Nat} (h7 : j ≠ 7) (h8 : j ≠ 8) : Fm m c 147 j = m 147 j := (ms_g h7).trans (ms_g h8)
theorem M_fails0 (m : jMem) : f_Mod_fails m 0 = some (0, Fm m 0) := rfl
theorem M_fails {m : jMem} {c : Int} (h : 0 < c) : f_Mod_fails m c = some (1, Fm m c) := if_pos h
/-- the model has answered a question: only its code counts -/
def MQr (m m' : jMem) (c : Int) : Prop := m' 147 8 = c ∧ m' 155 = m 155 ∧ SQ m m'
theorem MQr.F (m : jMem) (c : Int) : MQr m (Fm m c) c := ⟨Fm_8, Fm_row (by omega), (SQ.m8 m c).trans (SQ.m7 _ 0)⟩
theorem MQr.e (m : jMem) (c : Int) : MQr m (mset m 147 8 c) c := ⟨ms_f, mset_ne (by omega), SQ.m8 m c⟩
/-- both sides agree, and the invariant stands -/
def Qok (A : Option (Int × jMem)) (B : jMem → Option (Int × jMem)) : Prop := ∃ c m1 v m2, A = some (c, m1) ∧ B m1 = some (v, m2) ∧ m2 147 8 = c ∧ (c = 0 → m2 155 0 = v) ∧ IV m2
theorem Q0 {A : Option (Int × jMem)} {B : jMem → Option (Int × jMem)} {m m2 : jMem} {v : Int} (I : IV m) (hA : A = some (0, mset m 155 0 v)) (hB : B (mset m 155 0 v) = some (v, m2)) (hq : MQr (mset m 155 0 v) m2 0) : Qok A B :=
  ⟨0, _, v, m2, hA, hB, hq.1, fun _ => by rw [hq.2.1, ms_f], I.sq ((SQ.out m 0 v).trans hq.2.2)⟩
theorem Qc {A : Option (Int × jMem)} {B : jMem → Option (Int × jMem)} {m m2 : jMem} {c v : Int} (I : IV m) (hc : c ≠ 0) (hA : A = some (c, m)) (hB : B m = some (v, m2)) (hq : MQr m m2 c) : Qok A B :=
  ⟨c, _, v, m2, hA, hB, hq.1, fun h => absurd h hc, I.sq hq.2.2⟩
def QokB (A : Option (Int × jMem)) (B : jMem → Option (Int × jMem)) : Prop := ∃ c m1 v m2, A = some (c, m1) ∧ B m1 = some (v, m2) ∧ m2 147 8 = c ∧ (c = 0 → m2 155 0 = v) ∧ IV m2 ∧ (v = 0 ∨ v = 1)
theorem Q0B {A : Option (Int × jMem)} {B : jMem → Option (Int × jMem)} {m m2 : jMem} {v : Int} (I : IV m) (hv : v = 0 ∨ v = 1) (hA : A = some (0, mset m 155 0 v)) (hB : B (mset m 155 0 v) = some (v, m2)) (hq : MQr (mset m 155 0 v) m2 0) : QokB A B :=
  ⟨0, _, v, m2, hA, hB, hq.1, fun _ => by rw [hq.2.1, ms_f], I.sq ((SQ.out m 0 v).trans hq.2.2), hv⟩
theorem QcB {A : Option (Int × jMem)} {B : jMem → Option (Int × jMem)} {m m2 : jMem} {c v : Int} (I : IV m) (hv : v = 0 ∨ v = 1) (hc : c ≠ 0) (hA : A = some (c, m)) (hB : B m = some (v, m2)) (hq : MQr m m2 c) : QokB A B :=
  ⟨c, _, v, m2, hA, hB, hq.1, fun h => absurd h hc, I.sq hq.2.2, hv⟩
def Tok (t : Option jTn) : Prop := ∃ m' dv' x, t = some (true, (m', (dv', x))) ∧ IV m'
theorem jsgn_self (x : Int) : jsgn x x = 0 := by
  unfold jsgn
  rw [if_neg (by omega), if_pos rfl]
def jTI (A : Option (Int × jMem)) (B : jMem → Option (Int × jMem)) (dv : UInt64) : Option jTn := A.bind fun q => (B q.2).bind fun p => (f_Mod_thrown p.2).bind fun x => if x = q.1 then if q.1 = 0 then oix (0 : Int) 1 (if (jsgn (p.2 155 (0 : Int).toNat) p.1) = 0 then some (true, (p.2, (dv, q.1))) else some (false, (p.2, (dv, q.1)))) else some (true, (p.2, (dv, q.1))) else some (false, (p.2, (dv, q.1)))
theorem T_int {A : Option (Int × jMem)} {B : jMem → Option (Int × jMem)} (h : Qok A B) (dv : UInt64) : Tok (jTI A B dv) := by
  obtain ⟨c, m1, v, m2, hA, hB, h8, h0, I⟩ := h
  refine ⟨m2, dv, c, ?_, I⟩
  unfold jTI
  rw [hA, Option.bind_some, hB, Option.bind_some]
  show (f_Mod_thrown m2).bind _ = _
  unfold f_Mod_thrown
  rw [Option.bind_some, if_pos h8]
  show (if c = 0 then oix (0 : Int) 1 (if jsgn (m2 155 0) v = 0 then some (true, (m2, (dv, c))) else some (false, (m2, (dv, c)))) else some (true, (m2, (dv, c)))) = _
  by_cases hc : c = 0
  · rw [if_pos hc, h0 hc, jsgn_self, if_pos rfl]
    rfl
  · rw [if_neg hc]
def jTB (A : Option (Int × jMem)) (B : jMem → Option (Int × jMem)) (dv : UInt64) : Option jTn := A.bind fun q => (B q.2).bind fun p => (f_Mod_thrown p.2).bind fun x => if x = q.1 then if q.1 = 0 then oix (0 : Int) 1 (if p.1 = 0 then if (jsgn (p.2 155 (0 : Int).toNat) 0) = 0 then some (true, (p.2, (dv, q.1))) else some (false, (p.2, (dv, q.1))) else if (jsgn (p.2 155 (0 : Int).toNat) 1) = 0 then some (true, (p.2, (dv, q.1))) else some (false, (p.2, (dv, q.1)))) else some (true, (p.2, (dv, q.1))) else some (false, (p.2, (dv, q.1)))
theorem T_bool {A : Option (Int × jMem)} {B : jMem → Option (Int × jMem)} (h : QokB A B) (dv : UInt64) : Tok (jTB A B dv) := by
  obtain ⟨c, m1, v, m2, hA, hB, h8, h0, I, hv⟩ := h
  refine ⟨m2, dv, c, ?_, I⟩
  unfold jTB
  rw [hA, Option.bind_some, hB, Option.bind_some]
  show (f_Mod_thrown m2).bind _ = _
  unfold f_Mod_thrown
  rw [Option.bind_some, if_pos h8]
  show (if c = 0 then oix (0 : Int) 1 (if v = 0 then if jsgn (m2 155 0) 0 = 0 then some (true, (m2, (dv, c))) else some (false, (m2, (dv, c))) else if jsgn (m2 155 0) 1 = 0 then some (true, (m2, (dv, c))) else some (false, (m2, (dv, c)))) else some (true, (m2, (dv, c)))) = _
  by_cases hc : c = 0
  · rw [if_pos hc, h0 hc]
    rcases hv with e | e
    · rw [e, if_pos rfl, jsgn_self, if_pos rfl]
      rfl
    · rw [e, if_neg (by omega), jsgn_self, if_pos rfl]
      rfl
  · rw [if_neg hc]
theorem T_num {a : Option Int} {B : jMem → Option (Int × jMem)} {m m2 : jMem} {v : Int} {dv : UInt64} (I : IV m) (hA : a = some v) (hB : B m = some (v, m2)) (hq : SQ m m2) : Tok (a.bind fun x => (B m).bind fun p => if x = p.1 then some (true, (p.2, (dv, 0))) else some (false, (p.2, (dv, 0)))) := by
  refine ⟨m2, dv, 0, ?_, I.sq hq⟩
  rw [hA, Option.bind_some, hB, Option.bind_some, if_pos rfl]
theorem pin {g : Nat → Int} (V : GP g) {a : Int} (h : 0 ≤ a ∧ a < g 0) : ∃ i : Nat, a = (i : Int) ∧ i < gn g := by
  have hn := V.n
  exact ⟨a.toNat, by omega, by omega⟩
theorem hin {g : Nat → Int} (W : GH g) {a : Int} (h : 0 ≤ a ∧ a < g 1) : ∃ k : Nat, a = (k : Int) ∧ k < hN g := by
  have hn := W.n
  exact ⟨a.toNat, by omega, by omega⟩
section Req
variable {m : jMem} {g : Nat → Int} {od ps : Nat → Nat}
theorem RqP_in (V : GP g) (H : RP 1 m g od ps) {i : Nat} (hi : i < gn g) : f_Reg_requirePerson m (i : Int) = some none := by
  have hn := V.n
  unfold f_Reg_requirePerson
  rw [P_has V H, if_pos (by omega)]
  rfl
theorem RqP_out (V : GP g) (H : RP 1 m g od ps) {a : Int} (h : ¬ (0 ≤ a ∧ a < g 0)) : f_Reg_requirePerson m a = some (some "java/lang/IndexOutOfBoundsException") := by
  unfold f_Reg_requirePerson
  rw [P_has V H, if_neg h]
  rfl
theorem RqH_in (W : GH g) (R : RH 1 m g) {k : Nat} (h : k < hN g) : f_Reg_requireHabit m (k : Int) = some none := by
  unfold f_Reg_requireHabit
  rw [H_in W R h]
  rfl
theorem RqH_out (R : RH 1 m g) {a : Int} (h : ¬ (0 ≤ a ∧ a < g 1)) : f_Reg_requireHabit m a = some (some "java/lang/IndexOutOfBoundsException") := by
  unfold f_Reg_requireHabit
  rw [H_has R, if_neg h]
  rfl
theorem RqF_no (m : jMem) : f_Reg_requireFound m (-1) = some (.inr "java/util/NoSuchElementException") := if_pos rfl
theorem RqF_yes (m : jMem) {x : Int} (h : 0 ≤ x) : f_Reg_requireFound m x = some (.inl x) := if_neg (by omega)
theorem M_nob_in (V : GP g) (hg : m 148 = g) {i : Nat} (hi : i < gn g) : f_Mod_isNobody m (i : Int) = some (0, Fm m 0) := by
  have hn := V.n
  unfold f_Mod_isNobody
  rw [M_person V hg, if_pos (by omega)]
  rfl
theorem M_nob_out (V : GP g) (hg : m 148 = g) {a : Int} (h : ¬ (0 ≤ a ∧ a < g 0)) : f_Mod_isNobody m a = some (1, Fm m 1) := by
  unfold f_Mod_isNobody
  rw [M_person V hg, if_neg h]
  rfl
theorem M_per_in (V : GP g) (hg : m 148 = g) {i : Nat} (hi : i < gn g) : f_Mod_isPerson m (i : Int) = some 1 := by
  have hn := V.n
  rw [M_person V hg, if_pos (by omega)]
theorem M_per_out (V : GP g) (hg : m 148 = g) {a : Int} (h : ¬ (0 ≤ a ∧ a < g 0)) : f_Mod_isPerson m a = some 0 := by
  rw [M_person V hg, if_neg h]
theorem M_hab_in (W : GH g) (hg : m 148 = g) {k : Nat} (h : k < hN g) : f_Mod_isHabit m (k : Int) = some 1 := by
  have hn := W.n
  rw [M_habit W hg, if_pos (by omega)]
theorem M_hab_out (W : GH g) (hg : m 148 = g) {a : Int} (h : ¬ (0 ≤ a ∧ a < g 1)) : f_Mod_isHabit m a = some 0 := by
  rw [M_habit W hg, if_neg h]
theorem M_non_in (W : GH g) (hg : m 148 = g) {k : Nat} (h : k < hN g) : f_Mod_isNone m (k : Int) = some (0, Fm m 0) := by
  unfold f_Mod_isNone
  rw [M_hab_in W hg h]
  rfl
theorem M_non_out (W : GH g) (hg : m 148 = g) {a : Int} (h : ¬ (0 ≤ a ∧ a < g 1)) : f_Mod_isNone m a = some (1, Fm m 1) := by
  unfold f_Mod_isNone
  rw [M_hab_out W hg h]
  rfl
end Req
/-! the law's side, from the class's -/
section Laws
variable {m m' : jMem} {a a2 a3 v : Int}
theorem LaddFounder_i (h : f_Reg_addFounder m = some (.inl v, m')) : f_Law_addFounder m = some (0, mset m' 155 0 v) := by
  unfold f_Law_addFounder
  rw [h]
  rfl
theorem LaddFounder_e1 (h : f_Reg_addFounder m = some (.inr "java/lang/UnsupportedOperationException", m')) : f_Law_addFounder m = some (1, m') := by
  unfold f_Law_addFounder
  rw [h, Option.bind_some, sel_r, if_pos rfl]
theorem LaddChild_i (h : f_Reg_addChild m a = some (.inl v, m')) : f_Law_addChild m a = some (0, mset m' 155 0 v) := by
  unfold f_Law_addChild
  rw [h]
  rfl
theorem LaddChild_e1 (h : f_Reg_addChild m a = some (.inr "java/lang/IndexOutOfBoundsException", m')) : f_Law_addChild m a = some (1, m') := by
  unfold f_Law_addChild
  rw [h, Option.bind_some, sel_r, if_pos rfl]
theorem LaddChild_e2 (h : f_Reg_addChild m a = some (.inr "java/lang/UnsupportedOperationException", m')) : f_Law_addChild m a = some (2, m') := by
  unfold f_Law_addChild
  rw [h, Option.bind_some, sel_r, if_neg (by decide), if_pos rfl]
theorem Lbury_i (h : f_Reg_bury m a = some (.inl v, m')) : f_Law_bury m a = some (0, mset m' 155 0 v) := by
  unfold f_Law_bury
  rw [h]
  rfl
theorem Lbury_e1 (h : f_Reg_bury m a = some (.inr "java/lang/IndexOutOfBoundsException", m')) : f_Law_bury m a = some (1, m') := by
  unfold f_Law_bury
  rw [h, Option.bind_some, sel_r, if_pos rfl]
theorem Lbury_e2 (h : f_Reg_bury m a = some (.inr "java/lang/UnsupportedOperationException", m')) : f_Law_bury m a = some (2, m') := by
  unfold f_Law_bury
  rw [h, Option.bind_some, sel_r, if_neg (by decide), if_pos rfl]
theorem LisAlive_i (h : f_Reg_isAlive m a = some (.inl v)) (hv : v = 0 ∨ v = 1) : f_Law_isAlive m a = some (0, mset m 155 0 v) := by
  unfold f_Law_isAlive
  rw [h]
  rcases hv with rfl | rfl <;> rfl
theorem LisAlive_e1 (h : f_Reg_isAlive m a = some (.inr "java/lang/IndexOutOfBoundsException")) : f_Law_isAlive m a = some (1, m) := by
  unfold f_Law_isAlive
  rw [h, Option.bind_some, sel_r, if_pos rfl]
theorem LisFounder_i (h : f_Reg_isFounder m a = some (.inl v)) (hv : v = 0 ∨ v = 1) : f_Law_isFounder m a = some (0, mset m 155 0 v) := by
  unfold f_Law_isFounder
  rw [h]
  rcases hv with rfl | rfl <;> rfl
theorem LisFounder_e1 (h : f_Reg_isFounder m a = some (.inr "java/lang/IndexOutOfBoundsException")) : f_Law_isFounder m a = some (1, m) := by
  unfold f_Law_isFounder
  rw [h, Option.bind_some, sel_r, if_pos rfl]
theorem LparentOf_i (h : f_Reg_parentOf m a = some (.inl v)) : f_Law_parentOf m a = some (0, mset m 155 0 v) := by
  unfold f_Law_parentOf
  rw [h]
  rfl
theorem LparentOf_e1 (h : f_Reg_parentOf m a = some (.inr "java/lang/IndexOutOfBoundsException")) : f_Law_parentOf m a = some (1, m) := by
  unfold f_Law_parentOf
  rw [h, Option.bind_some, sel_r, if_pos rfl]
theorem LparentOf_e2 (h : f_Reg_parentOf m a = some (.inr "java/util/NoSuchElementException")) : f_Law_parentOf m a = some (2, m) := by
  unfold f_Law_parentOf
  rw [h, Option.bind_some, sel_r, if_neg (by decide), if_pos rfl]
theorem LchildCount_i (h : f_Reg_childCount m a = some (.inl v)) : f_Law_childCount m a = some (0, mset m 155 0 v) := by
  unfold f_Law_childCount
  rw [h]
  rfl
theorem LchildCount_e1 (h : f_Reg_childCount m a = some (.inr "java/lang/IndexOutOfBoundsException")) : f_Law_childCount m a = some (1, m) := by
  unfold f_Law_childCount
  rw [h, Option.bind_some, sel_r, if_pos rfl]
theorem LchildAt_i (h : f_Reg_childAt m a a2 = some (.inl v)) : f_Law_childAt m a a2 = some (0, mset m 155 0 v) := by
  unfold f_Law_childAt
  rw [h]
  rfl
theorem LchildAt_e1 (h : f_Reg_childAt m a a2 = some (.inr "java/lang/IndexOutOfBoundsException")) : f_Law_childAt m a a2 = some (1, m) := by
  unfold f_Law_childAt
  rw [h, Option.bind_some, sel_r, if_pos rfl]
theorem LchildAt_e2 (h : f_Reg_childAt m a a2 = some (.inr "java/util/NoSuchElementException")) : f_Law_childAt m a a2 = some (2, m) := by
  unfold f_Law_childAt
  rw [h, Option.bind_some, sel_r, if_neg (by decide), if_pos rfl]
theorem Lgeneration_i (h : f_Reg_generation m a = some (.inl v)) : f_Law_generation m a = some (0, mset m 155 0 v) := by
  unfold f_Law_generation
  rw [h]
  rfl
theorem Lgeneration_e1 (h : f_Reg_generation m a = some (.inr "java/lang/IndexOutOfBoundsException")) : f_Law_generation m a = some (1, m) := by
  unfold f_Law_generation
  rw [h, Option.bind_some, sel_r, if_pos rfl]
theorem LlivingDescendants_i (h : f_Reg_livingDescendants m a = some (.inl v)) : f_Law_livingDescendants m a = some (0, mset m 155 0 v) := by
  unfold f_Law_livingDescendants
  rw [h]
  rfl
theorem LlivingDescendants_e1 (h : f_Reg_livingDescendants m a = some (.inr "java/lang/IndexOutOfBoundsException")) : f_Law_livingDescendants m a = some (1, m) := by
  unfold f_Law_livingDescendants
  rw [h, Option.bind_some, sel_r, if_pos rfl]
theorem LisAncestor_i (h : f_Reg_isAncestor m a a2 = some (.inl v)) (hv : v = 0 ∨ v = 1) : f_Law_isAncestor m a a2 = some (0, mset m 155 0 v) := by
  unfold f_Law_isAncestor
  rw [h]
  rcases hv with rfl | rfl <;> rfl
theorem LisAncestor_e1 (h : f_Reg_isAncestor m a a2 = some (.inr "java/lang/IndexOutOfBoundsException")) : f_Law_isAncestor m a a2 = some (1, m) := by
  unfold f_Law_isAncestor
  rw [h, Option.bind_some, sel_r, if_pos rfl]
theorem LcommonAncestor_i (h : f_Reg_commonAncestor m a a2 = some (.inl v)) : f_Law_commonAncestor m a a2 = some (0, mset m 155 0 v) := by
  unfold f_Law_commonAncestor
  rw [h]
  rfl
theorem LcommonAncestor_e1 (h : f_Reg_commonAncestor m a a2 = some (.inr "java/lang/IndexOutOfBoundsException")) : f_Law_commonAncestor m a a2 = some (1, m) := by
  unfold f_Law_commonAncestor
  rw [h, Option.bind_some, sel_r, if_pos rfl]
theorem LcommonAncestor_e2 (h : f_Reg_commonAncestor m a a2 = some (.inr "java/util/NoSuchElementException")) : f_Law_commonAncestor m a a2 = some (2, m) := by
  unfold f_Law_commonAncestor
  rw [h, Option.bind_some, sel_r, if_neg (by decide), if_pos rfl]
theorem Ldistance_i (h : f_Reg_distance m a a2 = some (.inl v)) : f_Law_distance m a a2 = some (0, mset m 155 0 v) := by
  unfold f_Law_distance
  rw [h]
  rfl
theorem Ldistance_e1 (h : f_Reg_distance m a a2 = some (.inr "java/lang/IndexOutOfBoundsException")) : f_Law_distance m a a2 = some (1, m) := by
  unfold f_Law_distance
  rw [h, Option.bind_some, sel_r, if_pos rfl]
theorem Ldistance_e2 (h : f_Reg_distance m a a2 = some (.inr "java/util/NoSuchElementException")) : f_Law_distance m a a2 = some (2, m) := by
  unfold f_Law_distance
  rw [h, Option.bind_some, sel_r, if_neg (by decide), if_pos rfl]
theorem LdistanceBySearch_i (h : f_Reg_distanceBySearch m a a2 = some (.inl v, m')) : f_Law_distanceBySearch m a a2 = some (0, mset m' 155 0 v) := by
  unfold f_Law_distanceBySearch
  rw [h]
  rfl
theorem LdistanceBySearch_e1 (h : f_Reg_distanceBySearch m a a2 = some (.inr "java/lang/IndexOutOfBoundsException", m')) : f_Law_distanceBySearch m a a2 = some (1, m') := by
  unfold f_Law_distanceBySearch
  rw [h, Option.bind_some, sel_r, if_pos rfl]
theorem LdistanceBySearch_e2 (h : f_Reg_distanceBySearch m a a2 = some (.inr "java/util/NoSuchElementException", m')) : f_Law_distanceBySearch m a a2 = some (2, m') := by
  unfold f_Law_distanceBySearch
  rw [h, Option.bind_some, sel_r, if_neg (by decide), if_pos rfl]
theorem LheirOf_i (h : f_Reg_heirOf m a = some (.inl v)) : f_Law_heirOf m a = some (0, mset m 155 0 v) := by
  unfold f_Law_heirOf
  rw [h]
  rfl
theorem LheirOf_e1 (h : f_Reg_heirOf m a = some (.inr "java/lang/IndexOutOfBoundsException")) : f_Law_heirOf m a = some (1, m) := by
  unfold f_Law_heirOf
  rw [h, Option.bind_some, sel_r, if_pos rfl]
theorem LheirOf_e2 (h : f_Reg_heirOf m a = some (.inr "java/util/NoSuchElementException")) : f_Law_heirOf m a = some (2, m) := by
  unfold f_Law_heirOf
  rw [h, Option.bind_some, sel_r, if_neg (by decide), if_pos rfl]
theorem LheirByComparison_i (h : f_Reg_heirByComparison m a = some (.inl v)) : f_Law_heirByComparison m a = some (0, mset m 155 0 v) := by
  unfold f_Law_heirByComparison
  rw [h]
  rfl
theorem LheirByComparison_e1 (h : f_Reg_heirByComparison m a = some (.inr "java/lang/IndexOutOfBoundsException")) : f_Law_heirByComparison m a = some (1, m) := by
  unfold f_Law_heirByComparison
  rw [h, Option.bind_some, sel_r, if_pos rfl]
theorem LheirByComparison_e2 (h : f_Reg_heirByComparison m a = some (.inr "java/util/NoSuchElementException")) : f_Law_heirByComparison m a = some (2, m) := by
  unfold f_Law_heirByComparison
  rw [h, Option.bind_some, sel_r, if_neg (by decide), if_pos rfl]
theorem LdirectHeirOf_i (h : f_Reg_directHeirOf m a = some (.inl v)) : f_Law_directHeirOf m a = some (0, mset m 155 0 v) := by
  unfold f_Law_directHeirOf
  rw [h]
  rfl
theorem LdirectHeirOf_e1 (h : f_Reg_directHeirOf m a = some (.inr "java/lang/IndexOutOfBoundsException")) : f_Law_directHeirOf m a = some (1, m) := by
  unfold f_Law_directHeirOf
  rw [h, Option.bind_some, sel_r, if_pos rfl]
theorem LdirectHeirOf_e2 (h : f_Reg_directHeirOf m a = some (.inr "java/util/NoSuchElementException")) : f_Law_directHeirOf m a = some (2, m) := by
  unfold f_Law_directHeirOf
  rw [h, Option.bind_some, sel_r, if_neg (by decide), if_pos rfl]
theorem LsuccessionPosition_i (h : f_Reg_successionPosition m a = some (.inl v)) : f_Law_successionPosition m a = some (0, mset m 155 0 v) := by
  unfold f_Law_successionPosition
  rw [h]
  rfl
theorem LsuccessionPosition_e1 (h : f_Reg_successionPosition m a = some (.inr "java/lang/IndexOutOfBoundsException")) : f_Law_successionPosition m a = some (1, m) := by
  unfold f_Law_successionPosition
  rw [h, Option.bind_some, sel_r, if_pos rfl]
theorem LaddHabit_i (h : f_Reg_addHabit m a a2 a3 = some (.inl v, m')) : f_Law_addHabit m a a2 a3 = some (0, mset m' 155 0 v) := by
  unfold f_Law_addHabit
  rw [h]
  rfl
theorem LaddHabit_e1 (h : f_Reg_addHabit m a a2 a3 = some (.inr "java/lang/IndexOutOfBoundsException", m')) : f_Law_addHabit m a a2 a3 = some (1, m') := by
  unfold f_Law_addHabit
  rw [h, Option.bind_some, sel_r, if_pos rfl]
theorem LaddHabit_e2 (h : f_Reg_addHabit m a a2 a3 = some (.inr "java/lang/IllegalArgumentException", m')) : f_Law_addHabit m a a2 a3 = some (2, m') := by
  unfold f_Law_addHabit
  rw [h, Option.bind_some, sel_r, if_neg (by decide), if_pos rfl]
theorem LaddHabit_e3 (h : f_Reg_addHabit m a a2 a3 = some (.inr "java/lang/UnsupportedOperationException", m')) : f_Law_addHabit m a a2 a3 = some (3, m') := by
  unfold f_Law_addHabit
  rw [h, Option.bind_some, sel_r, if_neg (by decide), if_neg (by decide), if_pos rfl]
theorem Lpractise_i (h : f_Reg_practise m a = some (.inl v, m')) : f_Law_practise m a = some (0, mset m' 155 0 v) := by
  unfold f_Law_practise
  rw [h]
  rfl
theorem Lpractise_e1 (h : f_Reg_practise m a = some (.inr "java/lang/IndexOutOfBoundsException", m')) : f_Law_practise m a = some (1, m') := by
  unfold f_Law_practise
  rw [h, Option.bind_some, sel_r, if_pos rfl]
theorem Lpractise_e2 (h : f_Reg_practise m a = some (.inr "java/lang/UnsupportedOperationException", m')) : f_Law_practise m a = some (2, m') := by
  unfold f_Law_practise
  rw [h, Option.bind_some, sel_r, if_neg (by decide), if_pos rfl]
theorem Lneglect_i (h : f_Reg_neglect m a = some (.inl v, m')) : f_Law_neglect m a = some (0, mset m' 155 0 v) := by
  unfold f_Law_neglect
  rw [h]
  rfl
theorem Lneglect_e1 (h : f_Reg_neglect m a = some (.inr "java/lang/IndexOutOfBoundsException", m')) : f_Law_neglect m a = some (1, m') := by
  unfold f_Law_neglect
  rw [h, Option.bind_some, sel_r, if_pos rfl]
theorem Lneglect_e2 (h : f_Reg_neglect m a = some (.inr "java/lang/UnsupportedOperationException", m')) : f_Law_neglect m a = some (2, m') := by
  unfold f_Law_neglect
  rw [h, Option.bind_some, sel_r, if_neg (by decide), if_pos rfl]
theorem Lentail_i (h : f_Reg_entail m a = some (.inl v, m')) : f_Law_entail m a = some (0, mset m' 155 0 v) := by
  unfold f_Law_entail
  rw [h]
  rfl
theorem Lentail_e1 (h : f_Reg_entail m a = some (.inr "java/lang/IndexOutOfBoundsException", m')) : f_Law_entail m a = some (1, m') := by
  unfold f_Law_entail
  rw [h, Option.bind_some, sel_r, if_pos rfl]
theorem Lentail_e2 (h : f_Reg_entail m a = some (.inr "java/lang/UnsupportedOperationException", m')) : f_Law_entail m a = some (2, m') := by
  unfold f_Law_entail
  rw [h, Option.bind_some, sel_r, if_neg (by decide), if_pos rfl]
theorem LbreakEntail_i (h : f_Reg_breakEntail m a = some (.inl v, m')) : f_Law_breakEntail m a = some (0, mset m' 155 0 v) := by
  unfold f_Law_breakEntail
  rw [h]
  rfl
theorem LbreakEntail_e1 (h : f_Reg_breakEntail m a = some (.inr "java/lang/IndexOutOfBoundsException", m')) : f_Law_breakEntail m a = some (1, m') := by
  unfold f_Law_breakEntail
  rw [h, Option.bind_some, sel_r, if_pos rfl]
theorem LbreakEntail_e2 (h : f_Reg_breakEntail m a = some (.inr "java/lang/UnsupportedOperationException", m')) : f_Law_breakEntail m a = some (2, m') := by
  unfold f_Law_breakEntail
  rw [h, Option.bind_some, sel_r, if_neg (by decide), if_pos rfl]
theorem Lgive_i (h : f_Reg_give m a a2 = some (.inl v, m')) : f_Law_give m a a2 = some (0, mset m' 155 0 v) := by
  unfold f_Law_give
  rw [h]
  rfl
theorem Lgive_e1 (h : f_Reg_give m a a2 = some (.inr "java/lang/IndexOutOfBoundsException", m')) : f_Law_give m a a2 = some (1, m') := by
  unfold f_Law_give
  rw [h, Option.bind_some, sel_r, if_pos rfl]
theorem Lgive_e2 (h : f_Reg_give m a a2 = some (.inr "java/lang/UnsupportedOperationException", m')) : f_Law_give m a a2 = some (2, m') := by
  unfold f_Law_give
  rw [h, Option.bind_some, sel_r, if_neg (by decide), if_pos rfl]
theorem LkindOf_i (h : f_Reg_kindOf m a = some (.inl v)) : f_Law_kindOf m a = some (0, mset m 155 0 v) := by
  unfold f_Law_kindOf
  rw [h]
  rfl
theorem LkindOf_e1 (h : f_Reg_kindOf m a = some (.inr "java/lang/IndexOutOfBoundsException")) : f_Law_kindOf m a = some (1, m) := by
  unfold f_Law_kindOf
  rw [h, Option.bind_some, sel_r, if_pos rfl]
theorem LstrengthOf_i (h : f_Reg_strengthOf m a = some (.inl v)) : f_Law_strengthOf m a = some (0, mset m 155 0 v) := by
  unfold f_Law_strengthOf
  rw [h]
  rfl
theorem LstrengthOf_e1 (h : f_Reg_strengthOf m a = some (.inr "java/lang/IndexOutOfBoundsException")) : f_Law_strengthOf m a = some (1, m) := by
  unfold f_Law_strengthOf
  rw [h, Option.bind_some, sel_r, if_pos rfl]
theorem LholderOf_i (h : f_Reg_holderOf m a = some (.inl v)) : f_Law_holderOf m a = some (0, mset m 155 0 v) := by
  unfold f_Law_holderOf
  rw [h]
  rfl
theorem LholderOf_e1 (h : f_Reg_holderOf m a = some (.inr "java/lang/IndexOutOfBoundsException")) : f_Law_holderOf m a = some (1, m) := by
  unfold f_Law_holderOf
  rw [h, Option.bind_some, sel_r, if_pos rfl]
theorem LholderOf_e2 (h : f_Reg_holderOf m a = some (.inr "java/util/NoSuchElementException")) : f_Law_holderOf m a = some (2, m) := by
  unfold f_Law_holderOf
  rw [h, Option.bind_some, sel_r, if_neg (by decide), if_pos rfl]
theorem LisExtinct_i (h : f_Reg_isExtinct m a = some (.inl v)) (hv : v = 0 ∨ v = 1) : f_Law_isExtinct m a = some (0, mset m 155 0 v) := by
  unfold f_Law_isExtinct
  rw [h]
  rcases hv with rfl | rfl <;> rfl
theorem LisExtinct_e1 (h : f_Reg_isExtinct m a = some (.inr "java/lang/IndexOutOfBoundsException")) : f_Law_isExtinct m a = some (1, m) := by
  unfold f_Law_isExtinct
  rw [h, Option.bind_some, sel_r, if_pos rfl]
theorem LisEntailed_i (h : f_Reg_isEntailed m a = some (.inl v)) (hv : v = 0 ∨ v = 1) : f_Law_isEntailed m a = some (0, mset m 155 0 v) := by
  unfold f_Law_isEntailed
  rw [h]
  rcases hv with rfl | rfl <;> rfl
theorem LisEntailed_e1 (h : f_Reg_isEntailed m a = some (.inr "java/lang/IndexOutOfBoundsException")) : f_Law_isEntailed m a = some (1, m) := by
  unfold f_Law_isEntailed
  rw [h, Option.bind_some, sel_r, if_pos rfl]
theorem LisPractised_i (h : f_Reg_isPractised m a = some (.inl v)) (hv : v = 0 ∨ v = 1) : f_Law_isPractised m a = some (0, mset m 155 0 v) := by
  unfold f_Law_isPractised
  rw [h]
  rcases hv with rfl | rfl <;> rfl
theorem LisPractised_e1 (h : f_Reg_isPractised m a = some (.inr "java/lang/IndexOutOfBoundsException")) : f_Law_isPractised m a = some (1, m) := by
  unfold f_Law_isPractised
  rw [h, Option.bind_some, sel_r, if_pos rfl]
theorem LhabitOf_i (h : f_Reg_habitOf m a a2 = some (.inl v)) : f_Law_habitOf m a a2 = some (0, mset m 155 0 v) := by
  unfold f_Law_habitOf
  rw [h]
  rfl
theorem LhabitOf_e1 (h : f_Reg_habitOf m a a2 = some (.inr "java/lang/IndexOutOfBoundsException")) : f_Law_habitOf m a a2 = some (1, m) := by
  unfold f_Law_habitOf
  rw [h, Option.bind_some, sel_r, if_pos rfl]
theorem LhabitOf_e2 (h : f_Reg_habitOf m a a2 = some (.inr "java/lang/IllegalArgumentException")) : f_Law_habitOf m a a2 = some (2, m) := by
  unfold f_Law_habitOf
  rw [h, Option.bind_some, sel_r, if_neg (by decide), if_pos rfl]
theorem LhabitOf_e3 (h : f_Reg_habitOf m a a2 = some (.inr "java/util/NoSuchElementException")) : f_Law_habitOf m a a2 = some (3, m) := by
  unfold f_Law_habitOf
  rw [h, Option.bind_some, sel_r, if_neg (by decide), if_neg (by decide), if_pos rfl]
theorem LhabitStrength_i (h : f_Reg_habitStrength m a = some (.inl v)) : f_Law_habitStrength m a = some (0, mset m 155 0 v) := by
  unfold f_Law_habitStrength
  rw [h]
  rfl
theorem LhabitStrength_e1 (h : f_Reg_habitStrength m a = some (.inr "java/lang/IndexOutOfBoundsException")) : f_Law_habitStrength m a = some (1, m) := by
  unfold f_Law_habitStrength
  rw [h, Option.bind_some, sel_r, if_pos rfl]
theorem LpassYears_i (h : f_Reg_passYears m a = some (.inl v, m')) : f_Law_passYears m a = some (0, mset m' 155 0 v) := by
  unfold f_Law_passYears
  rw [h]
  rfl
theorem LpassYears_e1 (h : f_Reg_passYears m a = some (.inr "java/lang/IllegalArgumentException", m')) : f_Law_passYears m a = some (1, m') := by
  unfold f_Law_passYears
  rw [h, Option.bind_some, sel_r, if_pos rfl]
theorem LyearsLeft_i (h : f_Reg_yearsLeft m a = some (.inl v)) : f_Law_yearsLeft m a = some (0, mset m 155 0 v) := by
  unfold f_Law_yearsLeft
  rw [h]
  rfl
theorem LyearsLeft_e1 (h : f_Reg_yearsLeft m a = some (.inr "java/lang/IndexOutOfBoundsException")) : f_Law_yearsLeft m a = some (1, m) := by
  unfold f_Law_yearsLeft
  rw [h, Option.bind_some, sel_r, if_pos rfl]
theorem LyearsLeft_e2 (h : f_Reg_yearsLeft m a = some (.inr "java/util/NoSuchElementException")) : f_Law_yearsLeft m a = some (2, m) := by
  unfold f_Law_yearsLeft
  rw [h, Option.bind_some, sel_r, if_neg (by decide), if_pos rfl]
theorem LhabitByStrength_i (h : f_Reg_habitByStrength m a = some (.inl v)) : f_Law_habitByStrength m a = some (0, mset m 155 0 v) := by
  unfold f_Law_habitByStrength
  rw [h]
  rfl
theorem LhabitByStrength_e1 (h : f_Reg_habitByStrength m a = some (.inr "java/util/NoSuchElementException")) : f_Law_habitByStrength m a = some (1, m) := by
  unfold f_Law_habitByStrength
  rw [h, Option.bind_some, sel_r, if_pos rfl]
theorem LpersonByStrength_i (h : f_Reg_personByStrength m a = some (.inl v)) : f_Law_personByStrength m a = some (0, mset m 155 0 v) := by
  unfold f_Law_personByStrength
  rw [h]
  rfl
theorem LpersonByStrength_e1 (h : f_Reg_personByStrength m a = some (.inr "java/util/NoSuchElementException")) : f_Law_personByStrength m a = some (1, m) := by
  unfold f_Law_personByStrength
  rw [h, Option.bind_some, sel_r, if_pos rfl]
theorem LwritePerson_i (h : f_Reg_writePerson m a = some (.inl v, m')) : f_Law_writePerson m a = some (0, mset m' 155 0 v) := by
  unfold f_Law_writePerson
  rw [h]
  rfl
theorem LwritePerson_e1 (h : f_Reg_writePerson m a = some (.inr "java/lang/IndexOutOfBoundsException", m')) : f_Law_writePerson m a = some (1, m') := by
  unfold f_Law_writePerson
  rw [h, Option.bind_some, sel_r, if_pos rfl]
theorem LwriteLine_i (h : f_Reg_writeLine m a = some (.inl v, m')) : f_Law_writeLine m a = some (0, mset m' 155 0 v) := by
  unfold f_Law_writeLine
  rw [h]
  rfl
theorem LwriteLine_e1 (h : f_Reg_writeLine m a = some (.inr "java/lang/IndexOutOfBoundsException", m')) : f_Law_writeLine m a = some (1, m') := by
  unfold f_Law_writeLine
  rw [h, Option.bind_some, sel_r, if_pos rfl]
theorem LoutputAt_i (h : f_Reg_outputAt m a = some (.inl v)) : f_Law_outputAt m a = some (0, mset m 155 0 v) := by
  unfold f_Law_outputAt
  rw [h]
  rfl
theorem LoutputAt_e1 (h : f_Reg_outputAt m a = some (.inr "java/lang/IndexOutOfBoundsException")) : f_Law_outputAt m a = some (1, m) := by
  unfold f_Law_outputAt
  rw [h, Option.bind_some, sel_r, if_pos rfl]
theorem LappendInput_i (h : f_Reg_appendInput m a = some (.inl v, m')) : f_Law_appendInput m a = some (0, mset m' 155 0 v) := by
  unfold f_Law_appendInput
  rw [h]
  rfl
theorem LappendInput_e1 (h : f_Reg_appendInput m a = some (.inr "java/lang/IllegalArgumentException", m')) : f_Law_appendInput m a = some (1, m') := by
  unfold f_Law_appendInput
  rw [h, Option.bind_some, sel_r, if_pos rfl]
theorem LappendInput_e2 (h : f_Reg_appendInput m a = some (.inr "java/lang/IllegalStateException", m')) : f_Law_appendInput m a = some (2, m') := by
  unfold f_Law_appendInput
  rw [h, Option.bind_some, sel_r, if_neg (by decide), if_pos rfl]
theorem Lexecute_i (h : f_Reg_execute m = some (.inl v, m')) : f_Law_execute m = some (0, mset m' 155 0 v) := by
  unfold f_Law_execute
  rw [h]
  rfl
theorem Lexecute_e1 (h : f_Reg_execute m = some (.inr "java/lang/IllegalArgumentException", m')) : f_Law_execute m = some (1, m') := by
  unfold f_Law_execute
  rw [h, Option.bind_some, sel_r, if_pos rfl]
theorem Lexecute_e2 (h : f_Reg_execute m = some (.inr "java/lang/IllegalStateException", m')) : f_Law_execute m = some (2, m') := by
  unfold f_Law_execute
  rw [h, Option.bind_some, sel_r, if_neg (by decide), if_pos rfl]
theorem Lexecute_e3 (h : f_Reg_execute m = some (.inr "java/lang/UnsupportedOperationException", m')) : f_Law_execute m = some (3, m') := by
  unfold f_Law_execute
  rw [h, Option.bind_some, sel_r, if_neg (by decide), if_neg (by decide), if_pos rfl]
theorem LsyntaxErrorOffset_i (h : f_Reg_syntaxErrorOffset m = some (.inl v)) : f_Law_syntaxErrorOffset m = some (0, mset m 155 0 v) := by
  unfold f_Law_syntaxErrorOffset
  rw [h]
  rfl
theorem LsyntaxErrorOffset_e1 (h : f_Reg_syntaxErrorOffset m = some (.inr "java/util/NoSuchElementException")) : f_Law_syntaxErrorOffset m = some (1, m) := by
  unfold f_Law_syntaxErrorOffset
  rw [h, Option.bind_some, sel_r, if_pos rfl]
theorem LrejectionReason_i (h : f_Reg_rejectionReason m = some (.inl v)) : f_Law_rejectionReason m = some (0, mset m 155 0 v) := by
  unfold f_Law_rejectionReason
  rw [h]
  rfl
theorem LrejectionReason_e1 (h : f_Reg_rejectionReason m = some (.inr "java/util/NoSuchElementException")) : f_Law_rejectionReason m = some (1, m) := by
  unfold f_Law_rejectionReason
  rw [h, Option.bind_some, sel_r, if_pos rfl]
theorem LrejectionDetail_i (h : f_Reg_rejectionDetail m = some (.inl v)) : f_Law_rejectionDetail m = some (0, mset m 155 0 v) := by
  unfold f_Law_rejectionDetail
  rw [h]
  rfl
theorem LrejectionDetail_e1 (h : f_Reg_rejectionDetail m = some (.inr "java/util/NoSuchElementException")) : f_Law_rejectionDetail m = some (1, m) := by
  unfold f_Law_rejectionDetail
  rw [h, Option.bind_some, sel_r, if_pos rfl]
theorem LcauseReason_i (h : f_Reg_causeReason m = some (.inl v)) : f_Law_causeReason m = some (0, mset m 155 0 v) := by
  unfold f_Law_causeReason
  rw [h]
  rfl
theorem LcauseReason_e1 (h : f_Reg_causeReason m = some (.inr "java/util/NoSuchElementException")) : f_Law_causeReason m = some (1, m) := by
  unfold f_Law_causeReason
  rw [h, Option.bind_some, sel_r, if_pos rfl]
theorem Lundo_i (h : f_Reg_undo m = some (.inl v, m')) : f_Law_undo m = some (0, mset m' 155 0 v) := by
  unfold f_Law_undo
  rw [h]
  rfl
theorem Lundo_e1 (h : f_Reg_undo m = some (.inr "java/lang/IllegalStateException", m')) : f_Law_undo m = some (1, m') := by
  unfold f_Law_undo
  rw [h, Option.bind_some, sel_r, if_pos rfl]
theorem LrestoreSnapshot_i (h : f_Reg_restoreSnapshot m = some (.inl v, m')) : f_Law_restoreSnapshot m = some (0, mset m' 155 0 v) := by
  unfold f_Law_restoreSnapshot
  rw [h]
  rfl
theorem LrestoreSnapshot_e1 (h : f_Reg_restoreSnapshot m = some (.inr "java/lang/IllegalStateException", m')) : f_Law_restoreSnapshot m = some (1, m') := by
  unfold f_Law_restoreSnapshot
  rw [h, Option.bind_some, sel_r, if_pos rfl]
end Laws

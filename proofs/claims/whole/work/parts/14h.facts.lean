/-! ===== the tables are the statement's: the words, more ===== -/
set_option maxRecDepth 100000 in
theorem jmt_ok0 : jall2 (jmt1 (jcn0 0)) (jmrs.getD 0 []) (jmps.getD 0 []) = true := by
  rw [show jmrs.getD 0 [] = jmra0_0 ++ (jmra0_1) from by decide +kernel, show jmps.getD 0 [] = jmpa0_0 ++ (jmpa0_1) from by decide +kernel]
  exact jall2_app jmc0_0 (jmc0_1)
set_option maxRecDepth 100000 in
theorem jmt_ok1 : jall2 (jmt1 (jcn0 1)) (jmrs.getD 1 []) (jmps.getD 1 []) = true := by
  rw [show jmrs.getD 1 [] = jmra1_0 ++ (jmra1_1) from by decide +kernel, show jmps.getD 1 [] = jmpa1_0 ++ (jmpa1_1) from by decide +kernel]
  exact jall2_app jmc1_0 (jmc1_1)
set_option maxRecDepth 100000 in
theorem jmt_ok2 : jall2 (jmt1 (jcn0 2)) (jmrs.getD 2 []) (jmps.getD 2 []) = true := by
  rw [show jmrs.getD 2 [] = jmra2_0 from by decide +kernel, show jmps.getD 2 [] = jmpa2_0 from by decide +kernel]
  exact jmc2_0
set_option maxRecDepth 100000 in
theorem jmt_ok3 : jall2 (jmt1 (jcn0 3)) (jmrs.getD 3 []) (jmps.getD 3 []) = true := by
  rw [show jmrs.getD 3 [] = jmra3_0 ++ (jmra3_1 ++ (jmra3_2 ++ (jmra3_3))) from by decide +kernel, show jmps.getD 3 [] = jmpa3_0 ++ (jmpa3_1 ++ (jmpa3_2 ++ (jmpa3_3))) from by decide +kernel]
  exact jall2_app jmc3_0 (jall2_app jmc3_1 (jall2_app jmc3_2 (jmc3_3)))
set_option maxRecDepth 100000 in
theorem jmt_ok4 : jall2 (jmt1 (jcn0 4)) (jmrs.getD 4 []) (jmps.getD 4 []) = true := by
  rw [show jmrs.getD 4 [] = jmra4_0 from by decide +kernel, show jmps.getD 4 [] = jmpa4_0 from by decide +kernel]
  exact jmc4_0
set_option maxRecDepth 100000 in
theorem jmt_ok5 : jall2 (jmt1 (jcn0 5)) (jmrs.getD 5 []) (jmps.getD 5 []) = true := by
  rw [show jmrs.getD 5 [] = jmra5_0 ++ (jmra5_1) from by decide +kernel, show jmps.getD 5 [] = jmpa5_0 ++ (jmpa5_1) from by decide +kernel]
  exact jall2_app jmc5_0 (jmc5_1)
set_option maxRecDepth 100000 in
theorem jmt_ok6 : jall2 (jmt1 (jcn0 6)) (jmrs.getD 6 []) (jmps.getD 6 []) = true := by
  rw [show jmrs.getD 6 [] = jmra6_0 ++ (jmra6_1 ++ (jmra6_2 ++ (jmra6_3 ++ (jmra6_4 ++ (jmra6_5 ++ (jmra6_6 ++ (jmra6_7 ++ (jmra6_8 ++ (jmra6_9 ++ (jmra6_10)))))))))) from by decide +kernel, show jmps.getD 6 [] = jmpa6_0 ++ (jmpa6_1 ++ (jmpa6_2 ++ (jmpa6_3 ++ (jmpa6_4 ++ (jmpa6_5 ++ (jmpa6_6 ++ (jmpa6_7 ++ (jmpa6_8 ++ (jmpa6_9 ++ (jmpa6_10)))))))))) from by decide +kernel]
  exact jall2_app jmc6_0 (jall2_app jmc6_1 (jall2_app jmc6_2 (jall2_app jmc6_3 (jall2_app jmc6_4 (jall2_app jmc6_5 (jall2_app jmc6_6 (jall2_app jmc6_7 (jall2_app jmc6_8 (jall2_app jmc6_9 (jmc6_10))))))))))
set_option maxRecDepth 100000 in
theorem jmt_ok7 : jall2 (jmt1 (jcn0 7)) (jmrs.getD 7 []) (jmps.getD 7 []) = true := by
  rw [show jmrs.getD 7 [] = jmra7_0 ++ (jmra7_1) from by decide +kernel, show jmps.getD 7 [] = jmpa7_0 ++ (jmpa7_1) from by decide +kernel]
  exact jall2_app jmc7_0 (jmc7_1)
set_option maxRecDepth 100000 in
theorem jmt_ok8 : jall2 (jmt1 (jcn0 8)) (jmrs.getD 8 []) (jmps.getD 8 []) = true := by
  rw [show jmrs.getD 8 [] = jmra8_0 from by decide +kernel, show jmps.getD 8 [] = jmpa8_0 from by decide +kernel]
  exact jmc8_0
set_option maxRecDepth 100000 in
theorem jmt_ok9 : jall2 (jmt1 (jcn0 9)) (jmrs.getD 9 []) (jmps.getD 9 []) = true := by
  rw [show jmrs.getD 9 [] = jmra9_0 ++ (jmra9_1 ++ (jmra9_2 ++ (jmra9_3 ++ (jmra9_4 ++ (jmra9_5 ++ (jmra9_6 ++ (jmra9_7))))))) from by decide +kernel, show jmps.getD 9 [] = jmpa9_0 ++ (jmpa9_1 ++ (jmpa9_2 ++ (jmpa9_3 ++ (jmpa9_4 ++ (jmpa9_5 ++ (jmpa9_6 ++ (jmpa9_7))))))) from by decide +kernel]
  exact jall2_app jmc9_0 (jall2_app jmc9_1 (jall2_app jmc9_2 (jall2_app jmc9_3 (jall2_app jmc9_4 (jall2_app jmc9_5 (jall2_app jmc9_6 (jmc9_7)))))))
set_option maxRecDepth 100000 in
theorem jmt_ok10 : jall2 (jmt1 (jcn0 10)) (jmrs.getD 10 []) (jmps.getD 10 []) = true := by
  rw [show jmrs.getD 10 [] = jmra10_0 ++ (jmra10_1 ++ (jmra10_2 ++ (jmra10_3 ++ (jmra10_4 ++ (jmra10_5 ++ (jmra10_6 ++ (jmra10_7 ++ (jmra10_8 ++ (jmra10_9 ++ (jmra10_10 ++ (jmra10_11 ++ (jmra10_12 ++ (jmra10_13 ++ (jmra10_14 ++ (jmra10_15 ++ (jmra10_16 ++ (jmra10_17 ++ (jmra10_18 ++ (jmra10_19 ++ (jmra10_20 ++ (jmra10_21))))))))))))))))))))) from by decide +kernel, show jmps.getD 10 [] = jmpa10_0 ++ (jmpa10_1 ++ (jmpa10_2 ++ (jmpa10_3 ++ (jmpa10_4 ++ (jmpa10_5 ++ (jmpa10_6 ++ (jmpa10_7 ++ (jmpa10_8 ++ (jmpa10_9 ++ (jmpa10_10 ++ (jmpa10_11 ++ (jmpa10_12 ++ (jmpa10_13 ++ (jmpa10_14 ++ (jmpa10_15 ++ (jmpa10_16 ++ (jmpa10_17 ++ (jmpa10_18 ++ (jmpa10_19 ++ (jmpa10_20 ++ (jmpa10_21))))))))))))))))))))) from by decide +kernel]
  exact jall2_app jmc10_0 (jall2_app jmc10_1 (jall2_app jmc10_2 (jall2_app jmc10_3 (jall2_app jmc10_4 (jall2_app jmc10_5 (jall2_app jmc10_6 (jall2_app jmc10_7 (jall2_app jmc10_8 (jall2_app jmc10_9 (jall2_app jmc10_10 (jall2_app jmc10_11 (jall2_app jmc10_12 (jall2_app jmc10_13 (jall2_app jmc10_14 (jall2_app jmc10_15 (jall2_app jmc10_16 (jall2_app jmc10_17 (jall2_app jmc10_18 (jall2_app jmc10_19 (jall2_app jmc10_20 (jmc10_21)))))))))))))))))))))
theorem jmt_ok (cn : Nat) (h : cn < 11) : jall2 (jmt1 (jcn0 cn)) (jmrs.getD cn []) (jmps.getD cn []) = true := by
  match cn, h with
  | 0, _ => exact jmt_ok0
  | 1, _ => exact jmt_ok1
  | 2, _ => exact jmt_ok2
  | 3, _ => exact jmt_ok3
  | 4, _ => exact jmt_ok4
  | 5, _ => exact jmt_ok5
  | 6, _ => exact jmt_ok6
  | 7, _ => exact jmt_ok7
  | 8, _ => exact jmt_ok8
  | 9, _ => exact jmt_ok9
  | 10, _ => exact jmt_ok10
  | k + 11, h => omega
theorem jmt_at {mu idx : Nat} {r : jMR} (h : jmres jT0 mu idx = some r) : ∃ p, jmt1 (jcn mu) (idx, r) p = true := by
  obtain ⟨g, hg, hm⟩ := jsel_mem (show jsel jmrs mu idx = _ from h)
  have h1 := jmt_ok _ (jown_lt mu)
  rw [jgetD hg] at h1
  exact jall2_mem _ _ h1 _ hm
theorem jcb_at {y : MethodName} {n : Nat} (h : jcb y n = true) : (y.cls ≠ "java/lang/invoke/MethodHandle" ∧ y.cls ≠ "java/lang/invoke/VarHandle") ∧ (∀ sig, parseMethodDescriptor y.desc = some sig → n = sig.parameters.length) ∧ plainName y.cls = true := by
  unfold jcb at h
  rw [Bool.and_eq_true, Bool.and_eq_true, Bool.and_eq_true, decide_eq_true_eq, decide_eq_true_eq, decide_eq_true_eq] at h
  refine ⟨⟨h.1, h.2.1⟩, fun sig hs => ?_, h.2.2.2⟩
  have h2 := h.2.2.1
  rw [hs] at h2
  exact (Option.some.inj h2).symm
/-- what a call of one of the program's own methods asks of the words -/
theorem jmt_own {mu idx kd mu' n : Nat} (h : jmres jT0 mu idx = some (kd, (mu', n))) (hk : kd = 0 ∨ kd = 1 ∨ kd = 2) :
    (Cond.methodLink (jcn mu) idx (jy mu') ∈ jTw ∨ ∃ host, Cond.methodLinkNest (jcn mu) idx (jy mu') host ∈ jTw) ∧ Cond.initialized (jy mu').cls ∈ jTw ∧ jcw0 mu' ∈ jTw ∧
    (((jy mu').cls ≠ "java/lang/invoke/MethodHandle" ∧ (jy mu').cls ≠ "java/lang/invoke/VarHandle") ∧ (∀ sig, parseMethodDescriptor (jy mu').desc = some sig → n = sig.parameters.length) ∧ plainName (jy mu').cls = true) ∧
    (kd = 0 → Cond.instanceMethod (jy mu') ∈ jTw ∧ Cond.selects (jcn mu') (jy mu') (jy mu') ∈ jTw ∧ jhof mu' = none ∧ jcn mu' = (jy mu').cls ∧ jown mu' < 10) ∧
    (kd = 1 → Cond.static (jy mu') ∈ jTw ∧ (jhof mu' = none ∨ Cond.methodLink (jcn mu) idx (jy mu') ∈ jTw)) ∧
    (kd = 2 → Cond.instanceMethod (jy mu') ∈ jTw ∧ jhof mu' = none ∧ (jy mu').name = "<init>" ∧ jrt mu' = none) := by
  obtain ⟨⟨p0, pl⟩, hp⟩ := jmt_at h
  unfold jmt1 at hp
  rcases hk with rfl | rfl | rfl
  · split at hp
    · rename_i e1 e2
      cases e1
      simp only [Bool.and_eq_true, decide_eq_true_eq, Option.isNone_iff_eq_none] at hp
      obtain ⟨a1, a2, a3, a4, a5, a6, a7, a8, a9⟩ := hp
      exact ⟨jlnk_at a1, jin_mem a4, jin_mem a5, jcb_at a6, fun _ => ⟨jin_mem a2, jin_mem a3, a7, a8, a9⟩, fun h => absurd h (by decide), fun h => absurd h (by decide)⟩
    · rename_i e1 e2; cases e1
    · rename_i e1 e2; cases e1
    · rename_i e1 e2; cases e1
    · rename_i e1 e2; cases e1
    · rename_i e1 e2; cases e1
    · cases hp
  · split at hp
    · rename_i e1 e2; cases e1
    · rename_i e1 e2
      cases e1
      simp only [Bool.and_eq_true, Bool.or_eq_true, Option.isNone_iff_eq_none] at hp
      obtain ⟨a1, a2, a3, a4, a5, a6⟩ := hp
      exact ⟨jlnk_at a1, jin_mem a3, jin_mem a4, jcb_at a5, fun h => absurd h (by decide), fun _ => ⟨jin_mem a2, a6.imp id jin_mem⟩, fun h => absurd h (by decide)⟩
    · rename_i e1 e2; cases e1
    · rename_i e1 e2; cases e1
    · rename_i e1 e2; cases e1
    · rename_i e1 e2; cases e1
    · cases hp
  · split at hp
    · rename_i e1 e2; cases e1
    · rename_i e1 e2; cases e1
    · rename_i e1 e2
      cases e1
      simp only [Bool.and_eq_true, decide_eq_true_eq, Option.isNone_iff_eq_none] at hp
      obtain ⟨a1, a2, a3, a4, a5, a6, a7, a8⟩ := hp
      exact ⟨jlnk_at a1, jin_mem a3, jin_mem a4, jcb_at a5, fun h => absurd h (by decide), fun h => absurd h (by decide), fun _ => ⟨jin_mem a2, a6, a7, a8⟩⟩
    · rename_i e1 e2; cases e1
    · rename_i e1 e2; cases e1
    · rename_i e1 e2; cases e1
    · cases hp
theorem jmt_math {mu idx kd : Nat} {q : Nat × Nat} (h : jmres jT0 mu idx = some (kd, q)) :
    (kd = 3 → Cond.methodLink (jcn mu) idx Lib.Math.max.name ∈ jTw ∧ Cond.static Lib.Math.max.name ∈ jTw ∧ Cond.initialized "java/lang/Math" ∈ jTw ∧ Cond.code Lib.Math.max.name Lib.Math.max.code 2 (some .int) ∈ jTw) ∧
    (kd = 4 → Cond.methodLink (jcn mu) idx Lib.Math.min.name ∈ jTw ∧ Cond.static Lib.Math.min.name ∈ jTw ∧ Cond.initialized "java/lang/Math" ∈ jTw ∧ Cond.code Lib.Math.min.name Lib.Math.min.code 2 (some .int) ∈ jTw) ∧
    (kd = 5 → Cond.methodLink (jcn mu) idx Lib.objectInit ∈ jTw ∧ Cond.instanceMethod Lib.objectInit ∈ jTw ∧ Cond.code Lib.objectInit ⟨#[0xb1]⟩ 1 none ∈ jTw) := by
  obtain ⟨⟨p0, pl⟩, hp⟩ := jmt_at h
  unfold jmt1 at hp
  split at hp
  · rename_i e1 e2; cases e1; exact ⟨fun h => absurd h (by decide), fun h => absurd h (by decide), fun h => absurd h (by decide)⟩
  · rename_i e1 e2; cases e1; exact ⟨fun h => absurd h (by decide), fun h => absurd h (by decide), fun h => absurd h (by decide)⟩
  · rename_i e1 e2; cases e1; exact ⟨fun h => absurd h (by decide), fun h => absurd h (by decide), fun h => absurd h (by decide)⟩
  · rename_i e1 e2
    cases e1
    simp only [Bool.and_eq_true] at hp
    exact ⟨fun _ => ⟨jin_mem hp.1, jin_mem hp.2.1, jin_mem hp.2.2.1, jin_mem hp.2.2.2⟩, fun h => absurd h (by decide), fun h => absurd h (by decide)⟩
  · rename_i e1 e2
    cases e1
    simp only [Bool.and_eq_true] at hp
    exact ⟨fun h => absurd h (by decide), fun _ => ⟨jin_mem hp.1, jin_mem hp.2.1, jin_mem hp.2.2.1, jin_mem hp.2.2.2⟩, fun h => absurd h (by decide)⟩
  · rename_i e1 e2
    cases e1
    simp only [Bool.and_eq_true] at hp
    exact ⟨fun h => absurd h (by decide), fun h => absurd h (by decide), fun _ => ⟨jin_mem hp.1, jin_mem hp.2.1, jin_mem hp.2.2⟩⟩
  · cases hp
/-! objects made -/
def jfrk (v : jV) (ty : FieldType) : Bool := match v, ty with
  | .inl x, .int => x == 0
  | .inl x, .boolean => x == 0
  | .inl x, .char => x == 0
  | .inr (.inr .null), .object _ => true
  | .inr (.inr .null), .array _ => true
  | _, _ => false
def jnw1 (own : String) (e : Nat × ((Nat × List jV) ⊕ String)) (p : Nat × Nat) : Bool := match e.2 with
  | .inl (ci, fs) => (match jClasses[ci]? with
    | some (C, T, N) => jin p.2 (.classLink own e.1 C) && (Nat.beq fs.length N && (List.range N).all fun k => match fs[k]?, parseFieldDescriptor (T k).2.2.1 with | some v, some ty => jfrk v ty | _, _ => false)
    | none => false)
  | .inr E => jin p.2 (.classLink own e.1 E)
theorem jnw_ok : ((List.range 11).all fun cn => jall2 (jnw1 (jcn0 cn)) (jkrs.getD cn []) (jkps.getD cn [])) = true := by decide +kernel
theorem jfrk_at {v : jV} {ty : FieldType} (h : jfrk v ty = true) : jok v ∧ defaultValue ty = jtv v := by
  unfold jfrk at h
  split at h
  · rw [beq_iff_eq] at h; subst h; exact ⟨jr0, rfl⟩
  · rw [beq_iff_eq] at h; subst h; exact ⟨jr0, rfl⟩
  · rw [beq_iff_eq] at h; subst h; exact ⟨jr0, rfl⟩
  · exact ⟨trivial, rfl⟩
  · exact ⟨trivial, rfl⟩
  · cases h
theorem jnw_at {mu idx ci : Nat} {fs : List jV} (h : jkres jT0 mu idx = some (.inl (ci, fs))) : ∃ (C : String) (T : u_T) (N : Nat) (ty : Nat → FieldType), jClasses[ci]? = some (C, T, N) ∧ (∀ k, k < N → parseFieldDescriptor (T k).2.2.1 = some (ty k)) ∧ Cond.classLink (jcn mu) idx C ∈ jTw ∧ fs.length = N ∧ (∀ v ∈ fs, jok v) ∧ ∀ j, j < N → defaultValue (ty j) = vp_V (fs.map jtv) j := by
  obtain ⟨g, hg, hm⟩ := jsel_mem (show jsel jkrs mu idx = _ from h)
  have h1 := List.all_eq_true.mp jnw_ok _ (List.mem_range.mpr (jown_lt mu))
  rw [jgetD hg] at h1
  obtain ⟨p, h2⟩ := jall2_mem _ _ h1 _ hm
  have h3 : (match jClasses[ci]? with
    | some (C, T, N) => jin p.2 (.classLink (jcn0 (jown mu)) idx C) && (Nat.beq fs.length N && (List.range N).all fun k => match fs[k]?, parseFieldDescriptor (T k).2.2.1 with | some v, some ty => jfrk v ty | _, _ => false)
    | none => false) = true := h2
  split at h3
  · rename_i C T N hC
    rw [Bool.and_eq_true, Bool.and_eq_true] at h3
    obtain ⟨a1, a2, a3⟩ := h3
    have hN := Nat.eq_of_beq_eq_true a2
    obtain ⟨-, -, ⟨ty, hty⟩, -⟩ := jcls_at hC
    have hk : ∀ k, k < N → ∃ v, fs[k]? = some v ∧ jfrk v (ty k) = true := fun k hk => by
      have h4 := List.all_eq_true.mp a3 k (List.mem_range.mpr hk)
      split at h4
      · rename_i v ty' e1 e2
        rw [hty k hk] at e2
        cases e2
        exact ⟨v, e1, h4⟩
      · cases h4
    refine ⟨C, T, N, ty, hC, hty, jin_mem a1, hN, fun v hv => ?_, fun j hj => ?_⟩
    · obtain ⟨k, hk', e⟩ := List.mem_iff_getElem.mp hv
      obtain ⟨v', e1, e2⟩ := hk k (by omega)
      rw [List.getElem?_eq_getElem hk', e] at e1
      cases e1
      exact (jfrk_at e2).1
    · obtain ⟨v', e1, e2⟩ := hk j hj
      rw [(jfrk_at e2).2]
      unfold vp_V
      rw [List.getD_eq_getElem?_getD, List.getElem?_map, e1]
      rfl
  · cases h3
/-! exceptions thrown -/
def jchn : List String := ["java/lang/RuntimeException", "java/lang/Exception"]
def jths : List (Nat × (Nat × (Nat × (Nat × (String × Bool))))) := [(122, (16, (152, (150, ("the strength is out of range", false))))), (137, (7, (152, (213, ("the number of years is out of range", false))))), (147, (15, (252, (250, ("all habits are extinct", false))))), (148, (15, (252, (253, ("there are no people", false))))), (154, (11, (290, (288, ("there is no character at this index", true))))), (155, (12, (152, (294, ("the code is out of range", true))))), (155, (33, (303, (301, ("the input is full", true))))), (156, (30, (152, (315, ("the input has a syntax error", true))))), (156, (95, (303, (328, ("a command has an index or a number that is not accepted", true))))), (156, (125, (341, (339, ("a command is rejected", true))))), (161, (9, (368, (366, ("no command was rejected", true))))), (162, (10, (303, (373, ("there is no change that can be undone", true))))), (165, (7, (303, (382, ("there is no snapshot", true))))), (166, (23, (341, (388, ("the call is rejected", true))))), (168, (7, (368, (390, ("no call was rejected", true))))), (169, (14, (290, (393, ("there is no such person", true))))), (170, (14, (290, (396, ("there is no such habit", true))))), (171, (7, (152, (402, ("there is no such kind", true))))), (172, (5, (368, (404, ("there is none", true)))))]
def jfnd : List (Nat × (Nat × (Nat × (Nat × (String × Bool))))) → Nat → Nat → Option (Nat × (Nat × (String × Bool)))
  | [], _, _ => none
  | (a, (b, x)) :: r, mu, pc => match Nat.beq a mu && Nat.beq b pc with
    | true => some x
    | false => jfnd r mu pc
def jstl : List (Nat × String) := [(150, "the strength is out of range"), (213, "the number of years is out of range"), (250, "all habits are extinct"), (253, "there are no people"), (288, "there is no character at this index"), (294, "the code is out of range"), (301, "the input is full"), (315, "the input has a syntax error"), (328, "a command has an index or a number that is not accepted"), (339, "a command is rejected"), (366, "no command was rejected"), (373, "there is no change that can be undone"), (382, "there is no snapshot"), (388, "the call is rejected"), (390, "no call was rejected"), (393, "there is no such person"), (396, "there is no such habit"), (402, "there is no such kind"), (404, "there is none")]
def jexl : List (String × Nat) := [("java/lang/ArithmeticException", 252), ("java/lang/IllegalArgumentException", 152), ("java/lang/IllegalStateException", 303), ("java/lang/IndexOutOfBoundsException", 290), ("java/lang/UnsupportedOperationException", 341), ("java/util/NoSuchElementException", 368)]
/-- the first constructor's link to its superclass's, and its bytes -/
def jxix (E : String) : Nat := if E = "java/util/NoSuchElementException" then 13 else 7
def jxrx (E : String) : ByteArray := if E = "java/util/NoSuchElementException" then ⟨#[0x2a, 0x2b, 0xb7, 0x00, 0x0d, 0xb1]⟩ else Bundle.six
/-- the words of 'throw new X("..")', X's own constructor linking by ix -/
def jatX (own : String) (ic : Nat) (X : String) (ix : Nat) (rx : ByteArray) : List Cond :=
  (Bundle.throwableAtoms ++ (Bundle.throwableSAtoms ++ (Bundle.passSAtoms X "java/lang/RuntimeException" ix rx ++ (Bundle.chainSAtoms "java/lang/RuntimeException" ["java/lang/Exception"] ++
  ([.methodLink own ic (Bundle.initS X), .instantiable X 6, .castable X X, .selects X Bundle.tFill0 Bundle.tFill0, .selects X Bundle.tFill Bundle.tFill,
   .lays X Bundle.tN "cause" "Ljava/lang/Throwable;", .lays X Bundle.tN "stackTrace" Bundle.steD, .lays X Bundle.tN "suppressedExceptions" Bundle.listD, .lays X Bundle.tN "detailMessage" "Ljava/lang/String;",
   .isRef (.static Bundle.tN "UNASSIGNED_STACK" Bundle.steD), .isRef (.static Bundle.tN "SUPPRESSED_SENTINEL" Bundle.listD),
   .fieldLink Bundle.tN 198 Bundle.tN "backtrace" "Ljava/lang/Object;", .lays Bundle.tN Bundle.tN "backtrace" "Ljava/lang/Object;", .lays X Bundle.tN "backtrace" "Ljava/lang/Object;"] : List Cond))))).filter vx_no
def jexw (e : String × Nat) : Bool := Bundle.fit e.1 && (jmem (.initialized e.1) && ((jatX "HabitRegistry" e.2 e.1 (jxix e.1) (jxrx e.1)).all fun w => jmem w && vx_ot w))
theorem jexw0 : jexw ("java/lang/ArithmeticException", 252) = true := by decide +kernel
theorem jexw1 : jexw ("java/lang/IllegalArgumentException", 152) = true := by decide +kernel
theorem jexw2 : jexw ("java/lang/IllegalStateException", 303) = true := by decide +kernel
theorem jexw3 : jexw ("java/lang/IndexOutOfBoundsException", 290) = true := by decide +kernel
theorem jexw4 : jexw ("java/lang/UnsupportedOperationException", 341) = true := by decide +kernel
theorem jexw5 : jexw ("java/util/NoSuchElementException", 368) = true := by decide +kernel
theorem jexw_ok : ∀ e ∈ jexl, jexw e = true := List.forall_mem_cons.mpr ⟨jexw0, List.forall_mem_cons.mpr ⟨jexw1, List.forall_mem_cons.mpr ⟨jexw2, List.forall_mem_cons.mpr ⟨jexw3, List.forall_mem_cons.mpr ⟨jexw4, List.forall_mem_cons.mpr ⟨jexw5, fun _ h => absurd h List.not_mem_nil⟩⟩⟩⟩⟩⟩
def jth1 (mu : Nat) (e : Nat × (Instr × Nat)) : Bool := match e.2.1 with
  | .new idx => (match jsel jkrs mu idx with
    | some (.inr E) => (match jfnd jths mu e.1 with
      | some (ic, (is, (tx, wide))) => decide (jcn mu = "HabitRegistry") && (jexl.any (fun q => decide (q = (E, ic))) && (jstl.any (fun q => decide (q = (is, tx))) && (vx_ot (.classLink "HabitRegistry" idx E) && ((jhof mu).isNone && (decide (jcode jT0 mu (e.1 + 3) = some .dup) && (match wide with
        | true => decide (jcode jT0 mu (e.1 + 4) = some (.ldc_w is)) && (decide (jcode jT0 mu (e.1 + 7) = some (.invokespecial ic)) && decide (jcode jT0 mu (e.1 + 10) = some .athrow))
        | false => decide (jcode jT0 mu (e.1 + 4) = some (.ldc is)) && (decide (jcode jT0 mu (e.1 + 6) = some (.invokespecial ic)) && decide (jcode jT0 mu (e.1 + 9) = some .athrow))))))))
      | none => false)
    | _ => true)
  | _ => true
theorem jth_ok : ((List.range 338).all fun mu => (jpages mu).all fun g => g.all (jth1 mu)) = true := by decide +kernel
theorem jth_at {mu pc idx : Nat} {E : String} (h : jcode jT0 mu pc = some (.new idx)) (hk : jkres jT0 mu idx = some (.inr E)) : ∃ ic is tx, jcn mu = "HabitRegistry" ∧ (E, ic) ∈ jexl ∧ (is, tx) ∈ jstl ∧ vx_ot (.classLink "HabitRegistry" idx E) = true ∧ jhof mu = none ∧ Cond.classLink "HabitRegistry" idx E ∈ jTw ∧ jcode jT0 mu (pc + 3) = some .dup ∧
    ((jcode jT0 mu (pc + 4) = some (.ldc_w is) ∧ jcode jT0 mu (pc + 7) = some (.invokespecial ic) ∧ jcode jT0 mu (pc + 10) = some .athrow) ∨ (jcode jT0 mu (pc + 4) = some (.ldc is) ∧ jcode jT0 mu (pc + 6) = some (.invokespecial ic) ∧ jcode jT0 mu (pc + 9) = some .athrow)) := by
  obtain ⟨len, h1⟩ := jins jth_ok h
  have hlink : Cond.classLink (jcn mu) idx E ∈ jTw := by
    obtain ⟨g, hg, hm⟩ := jsel_mem (show jsel jkrs mu idx = _ from hk)
    have h1 := List.all_eq_true.mp jnw_ok _ (List.mem_range.mpr (jown_lt mu))
    rw [jgetD hg] at h1
    obtain ⟨p, h2⟩ := jall2_mem _ _ h1 _ hm
    exact jin_mem h2
  unfold jth1 at h1
  dsimp only at h1
  rw [show jsel jkrs mu idx = some (.inr E) from hk] at h1
  dsimp only at h1
  split at h1
  · rename_i ic is tx wide hf
    rw [Bool.and_eq_true, Bool.and_eq_true, Bool.and_eq_true, Bool.and_eq_true, Bool.and_eq_true, Bool.and_eq_true, decide_eq_true_eq, List.any_eq_true, List.any_eq_true, Option.isNone_iff_eq_none, decide_eq_true_eq] at h1
    obtain ⟨a1, ⟨q1, b1, b2⟩, ⟨q2, c1, c2⟩, a4, a5, a6, a7⟩ := h1
    rw [decide_eq_true_eq] at b2 c2
    subst b2
    subst c2
    rw [a1] at hlink
    refine ⟨ic, is, tx, a1, b1, c1, a4, a5, hlink, a6, ?_⟩
    cases wide with
    | true =>
      have h7 : (decide (jcode jT0 mu (pc + 4) = some (.ldc_w is)) && (decide (jcode jT0 mu (pc + 7) = some (.invokespecial ic)) && decide (jcode jT0 mu (pc + 10) = some .athrow))) = true := a7
      rw [Bool.and_eq_true, Bool.and_eq_true, decide_eq_true_eq, decide_eq_true_eq, decide_eq_true_eq] at h7
      exact Or.inl h7
    | false =>
      have h7 : (decide (jcode jT0 mu (pc + 4) = some (.ldc is)) && (decide (jcode jT0 mu (pc + 6) = some (.invokespecial ic)) && decide (jcode jT0 mu (pc + 9) = some .athrow))) = true := a7
      rw [Bool.and_eq_true, Bool.and_eq_true, decide_eq_true_eq, decide_eq_true_eq, decide_eq_true_eq] at h7
      exact Or.inr h7
  · cases h1
theorem jexw_at {E : String} {ic : Nat} (h : (E, ic) ∈ jexl) : Bundle.fit E = true ∧ Cond.initialized E ∈ jTw ∧ ∀ w ∈ jatX "HabitRegistry" ic E (jxix E) (jxrx E), w ∈ jTw ∧ vx_ot w = true := by
  have h1 : (Bundle.fit E && (jmem (.initialized E) && ((jatX "HabitRegistry" ic E (jxix E) (jxrx E)).all fun w => jmem w && vx_ot w))) = true := jexw_ok _ h
  rw [Bool.and_eq_true, Bool.and_eq_true, List.all_eq_true] at h1
  refine ⟨h1.1, jmem_mem h1.2.1, fun w hw => ?_⟩
  have h2 := h1.2.2 w hw
  rw [Bool.and_eq_true] at h2
  exact ⟨jmem_mem h2.1, h2.2⟩
/-! arrays -/
theorem jarr_ok : ([FieldType.int, .char, .boolean, .long, .double].all fun ty => jmem (.arrayClass ty)) = true := by decide +kernel
theorem jarr_at {ty : FieldType} (h : ty ∈ [FieldType.int, .char, .boolean, .long, .double]) : Cond.arrayClass ty ∈ jTw := jmem_mem (List.all_eq_true.mp jarr_ok ty h)
theorem jover_at : Cond.arrayOver (.object "HabitRegistry$State") ∈ jTw := jmem_mem (by decide +kernel)
def jan1 (mu : Nat) (e : Nat × (Instr × Nat)) : Bool := match e.2.1 with
  | .anewarray idx => jmem (.classLink (jcn mu) idx "HabitRegistry$State")
  | _ => true
theorem jan_ok : ((List.range 338).all fun mu => (jpages mu).all fun g => g.all (jan1 mu)) = true := by decide +kernel
theorem jan_at {mu pc idx : Nat} (h : jcode jT0 mu pc = some (.anewarray idx)) : Cond.classLink (jcn mu) idx "HabitRegistry$State" ∈ jTw := by
  obtain ⟨len, h1⟩ := jins jan_ok h
  exact jmem_mem h1
/-! handlers -/
def jhd1 (mu : Nat) (q : (Nat × Nat × Nat × Nat)) (r : String × (Nat × Nat)) : Bool := jmem (.classLink (jcn mu) q.2.2.2 r.1) && (jmem (.castable r.1 r.1) && (decide (q.2.2.2 ≠ 0) && (decide (r.2.2 ≠ 8) && (decide (r.2.2 < jMx mu) && (match jcode jT0 mu q.2.2.1 with
  | some (.astore_n f) => Nat.beq f.val r.2.2 && Nat.beq r.2.1 (q.2.2.1 + 1)
  | some (.astore k) => Nat.beq k r.2.2 && Nat.beq r.2.1 (q.2.2.1 + 2)
  | _ => false)))))
def jhd2 (e : Nat × List (String × (Nat × Nat))) (h : Nat × jHH) : Bool := Nat.beq e.1 h.1 && jall2 (jhd1 e.1) h.2 e.2
theorem jhd_ok : jall2 jhd2 jhl jhh = true := by decide +kernel
/-- every call of an instance's method in a body with handlers lies under all of them -/
def jcv1 (mu : Nat) (e : Nat × (Instr × Nat)) : Bool := match e.2.1 with
  | .invokevirtual _ => (match jhof mu with
    | some hh => hh.all fun q => decide (q.1 ≤ e.1) && decide (e.1 < q.2.1)
    | none => true)
  | .invokespecial _ => (jhof mu).isNone
  | .new _ => (jhof mu).isNone
  | _ => true
theorem jcv_ok : ((List.range 338).all fun mu => (jpages mu).all fun g => g.all (jcv1 mu)) = true := by decide +kernel
/-- the exceptions caught: no two of them are castable -/
def jexc : List String := ["java/lang/UnsupportedOperationException", "java/lang/IndexOutOfBoundsException", "java/util/NoSuchElementException", "java/lang/IllegalArgumentException", "java/lang/ArithmeticException", "java/lang/IllegalStateException"]
theorem jhx_mem : (jhl.all fun e => e.2.all fun r => jexc.any fun E => decide (E = r.1)) = true := by decide +kernel

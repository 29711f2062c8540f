/-! ===== the tables are the statement's: the words ===== -/
def jwm (w : Cond) : Bool := goodWord w || (match w with
  | .methodLinkNest _ _ _ _ => true
  | .fieldLinkNest _ _ _ _ _ _ => true
  | .declares _ => true
  | .castable _ _ => true
  | .arrayOver (.object _) => true
  | _ => false)
theorem jwm_warm {w : Cond} {A A' : Array Value} {s U : State} (h : jwm w = true) (hW : s.WarmedH U.vm) (hb : w.before A s = true) : w.before A' U = true := by
  unfold jwm at h
  rw [Bool.or_eq_true] at h
  rcases h with h | h
  · exact word_at hW (good_of_word h) hb
  · split at h
    · exact va_Nw.use rfl (va_Nw.warmM hW (va_Nw.of rfl hb))
    · exact va_Nw.use rfl (va_Nw.warmF hW (va_Nw.of rfl hb))
    · exact va_Nw.use rfl (va_Nw.warmD hW (va_Nw.of rfl hb))
    · exact va_Nw.use rfl (va_Nw.warmC hW (va_Nw.of rfl hb))
    · exact va_AO.use (va_AO.moved hW.alike (va_AO.of hb))
    · cases h
/-- the words that stay, whatever the machine loads -/
def jTw : List Cond := lw_tbl.filter jwm
def jin (i : Nat) (w : Cond) : Bool := match lw_tbl[i]? with
  | some v => decide (v = w) && jwm v
  | none => false
theorem jin_mem {i : Nat} {w : Cond} (h : jin i w = true) : w ∈ jTw := by
  unfold jin at h
  split at h
  · rename_i v hv
    rw [Bool.and_eq_true, decide_eq_true_eq] at h
    obtain ⟨rfl, h2⟩ := h
    exact List.mem_filter.mpr ⟨List.mem_of_getElem? hv, h2⟩
  · cases h
def jmem (w : Cond) : Bool := jwm w && lw_tbl.any fun v => decide (v = w)
theorem jmem_mem {w : Cond} (h : jmem w = true) : w ∈ jTw := by
  unfold jmem at h
  rw [Bool.and_eq_true, List.any_eq_true] at h
  obtain ⟨h1, v, hv, h2⟩ := h
  rw [decide_eq_true_eq] at h2
  subst h2
  exact List.mem_filter.mpr ⟨hv, h1⟩
def jall2 {α β : Type} (f : α → β → Bool) : List α → List β → Bool
  | [], [] => true
  | a :: r, b :: s => f a b && jall2 f r s
  | _, _ => false
theorem jall2_mem {α β : Type} {f : α → β → Bool} : ∀ (l : List α) (r : List β), jall2 f l r = true → ∀ a ∈ l, ∃ b, f a b = true
  | [], _, _, a, h => absurd h List.not_mem_nil
  | a :: l, [], h, _, _ => by cases h
  | a :: l, b :: r, h, c, hc => by
    have h' : (f a b && jall2 f l r) = true := h
    rw [Bool.and_eq_true] at h'
    rcases List.mem_cons.mp hc with rfl | hc
    · exact ⟨b, h'.1⟩
    · exact jall2_mem l r h'.2 c hc
theorem jas_mem {α : Type} : ∀ (l : List (Nat × α)) (k : Nat) (x : α), jas l k = some x → (k, x) ∈ l
  | [], _, _, h => by cases h
  | (q, y) :: r, k, x, h => by
    unfold jas at h
    split at h
    · rename_i hq
      cases h
      rw [Nat.eq_of_beq_eq_true hq]
      exact List.mem_cons_self
    · exact List.mem_cons_of_mem _ (jas_mem r k x h)
theorem jown_lt (mu : Nat) : jown mu < 11 := by
  unfold jown
  repeat (first | (cases Nat.blt mu _ <;> dsimp only [cond]) | decide)
theorem jsel_mem {α : Type} {l : List (List (Nat × α))} {mu k : Nat} {x : α} (h : jsel l mu k = some x) : ∃ g, l[jown mu]? = some g ∧ (k, x) ∈ g := by
  unfold jsel at h
  split at h
  · exact ⟨_, by assumption, jas_mem _ _ _ h⟩
  · cases h
/-! classes -/
def jcls1 (ci : Nat) : Bool := match jClasses[ci]?, jcw[ci]? with
  | some (C, T, N), some (pi, (pin, ps)) => jin pi (.instantiable C N) && (jin pin (.initialized C) && ((List.range N).all (fun k => match ps[k]? with | some p => jin p (u_lay C T k) && (parseFieldDescriptor (T k).2.2.1).isSome | none => false) && (List.range N).all fun a => (List.range N).all fun b => Nat.beq a b || !(decide ((T a).2.1 = (T b).2.1))))
  | _, _ => false
theorem jcls_ok : (List.range 10).all jcls1 = true := by decide +kernel
theorem jcls_at {ci : Nat} {C : String} {T : u_T} {N : Nat} (h : jClasses[ci]? = some (C, T, N)) : (Cond.instantiable C N ∈ jTw ∧ Cond.initialized C ∈ jTw) ∧ (∀ w ∈ u_ws C T N, w ∈ jTw) ∧ (∃ ty : Nat → FieldType, ∀ k, k < N → parseFieldDescriptor (T k).2.2.1 = some (ty k)) ∧ (∀ a, a < N → ∀ b, b < N → a ≠ b → (T a).2.1 ≠ (T b).2.1) := by
  have hc : ci < 10 := (List.getElem?_eq_some_iff.mp h).1
  have h1 := List.all_eq_true.mp jcls_ok ci (List.mem_range.mpr hc)
  unfold jcls1 at h1
  rw [h] at h1
  split at h1
  · rename_i C' T' N' pi pin ps e1 e2
    cases e1
    rw [Bool.and_eq_true, Bool.and_eq_true, Bool.and_eq_true] at h1
    obtain ⟨a1, a2, a3, a4⟩ := h1
    have hk : ∀ k, k < N → u_lay C T k ∈ jTw ∧ (parseFieldDescriptor (T k).2.2.1).isSome = true := fun k hk => by
      have h2 := List.all_eq_true.mp a3 k (List.mem_range.mpr hk)
      split at h2
      · rw [Bool.and_eq_true] at h2
        exact ⟨jin_mem h2.1, h2.2⟩
      · cases h2
    refine ⟨⟨jin_mem a1, jin_mem a2⟩, fun w hw => ?_, ⟨fun k => (parseFieldDescriptor (T k).2.2.1).getD .int, fun k hk' => ?_⟩, fun a ha b hb hab => ?_⟩
    · obtain ⟨k, hk', rfl⟩ := List.mem_map.mp hw
      exact (hk k (List.mem_range.mp hk')).1
    · obtain ⟨ty, h3⟩ := Option.isSome_iff_exists.mp (hk k hk').2
      show _ = some ((parseFieldDescriptor (T k).2.2.1).getD .int)
      rw [h3]
      rfl
    · have h3 := List.all_eq_true.mp (List.all_eq_true.mp a4 a (List.mem_range.mpr ha)) b (List.mem_range.mpr hb)
      rw [Bool.or_eq_true] at h3
      rcases h3 with h3 | h3
      · exact absurd (Nat.eq_of_beq_eq_true h3) hab
      · intro h4
        rw [h4] at h3
        simp at h3
  · cases h1
/-! fields -/
def jfld1 (own : String) (e : Nat × (Nat × (Nat × FieldType))) (p : Nat × Nat) : Bool := match jClasses[e.2.1]? with
  | some (_, T, N) => decide (e.2.2.1 < N) && (decide (parseFieldDescriptor (T e.2.2.1).2.2.1 = some e.2.2.2) && (match lw_tbl[p.2]? with
    | some w => jwm w && (match w with
      | .fieldLinkNest _ _ _ _ _ h => decide (w = .fieldLinkNest own e.1 (T e.2.2.1).1 (T e.2.2.1).2.1 (T e.2.2.1).2.2.1 h)
      | _ => decide (w = .fieldLink own e.1 (T e.2.2.1).1 (T e.2.2.1).2.1 (T e.2.2.1).2.2.1))
    | none => false))
  | none => false
theorem jfld_ok : ((List.range 11).all fun cn => jall2 (jfld1 (jcn0 cn)) (jfrs.getD cn []) (jfps.getD cn [])) = true := by decide +kernel
theorem jgetD {α : Type} {l : List α} {k : Nat} {x d : α} (h : l[k]? = some x) : l.getD k d = x := by
  rw [List.getD_eq_getElem?_getD, h]
  rfl
theorem jfld_at {mu idx ci k : Nat} {ty : FieldType} (h : jfres jT0 mu idx = some (ci, (k, ty))) : ∃ C T N, jClasses[ci]? = some (C, T, N) ∧ k < N ∧ parseFieldDescriptor (T k).2.2.1 = some ty ∧
    (Cond.fieldLink (jcn mu) idx (T k).1 (T k).2.1 (T k).2.2.1 ∈ jTw ∨ ∃ host, Cond.fieldLinkNest (jcn mu) idx (T k).1 (T k).2.1 (T k).2.2.1 host ∈ jTw) := by
  obtain ⟨g, hg, hm⟩ := jsel_mem (show jsel jfrs mu idx = _ from h)
  have h1 := List.all_eq_true.mp jfld_ok _ (List.mem_range.mpr (jown_lt mu))
  rw [jgetD hg] at h1
  obtain ⟨p, h2⟩ := jall2_mem _ _ h1 _ hm
  unfold jfld1 at h2
  split at h2
  · rename_i C T N hC
    rw [Bool.and_eq_true, Bool.and_eq_true, decide_eq_true_eq, decide_eq_true_eq] at h2
    refine ⟨C, T, N, hC, h2.1, h2.2.1, ?_⟩
    have h3 := h2.2.2
    split at h3
    · rename_i w hw
      rw [Bool.and_eq_true] at h3
      obtain ⟨h4, h5⟩ := h3
      have hmem : w ∈ jTw := List.mem_filter.mpr ⟨List.mem_of_getElem? hw, h4⟩
      split at h5
      · rw [decide_eq_true_eq] at h5
        rw [h5] at hmem
        exact Or.inr ⟨_, hmem⟩
      · rw [decide_eq_true_eq] at h5
        rw [h5] at hmem
        exact Or.inl hmem
    · cases h3
  · cases h2
/-- stores to final fields are in the class's own constructors -/
def jput1 (mu : Nat) (e : Nat × (Instr × Nat)) : Bool := match e.2.1 with
  | .putfield idx => (match jsel jfrs mu idx with
    | some (ci, (k, _)) => (match jClasses[ci]? with
      | some (_, T, _) => !(T k).2.2.2 || (decide ((jy mu).name = "<init>") && (decide ((T k).1 = jcn mu) && (match jas (jfps.getD (jown mu) []) idx with
        | some p => jin p (.fieldLink (jcn mu) idx (T k).1 (T k).2.1 (T k).2.2.1)
        | none => false)))
      | none => false)
    | none => false)
  | _ => true
theorem jput_ok : ((List.range 338).all fun mu => (jpages mu).all fun g => g.all (jput1 mu)) = true := by decide +kernel
theorem jpages_lt {mu : Nat} {g : jPg} (h : g ∈ jpages mu) : mu < 338 := by
  unfold jpages at h
  split at h
  · rename_i ps hps
    split at h
    · rename_i p hp
      by_cases h1 : mu < 338
      · exact h1
      · exfalso
        have h2 : mu / 20 < 17 := (List.getElem?_eq_some_iff.mp hps).1
        have h3 : mu / 20 = 16 := by omega
        rw [h3] at hps
        cases hps
        have h4 : mu % 20 < 18 := (List.getElem?_eq_some_iff.mp hp).1
        omega
    · cases h
  · cases h
theorem jins {P : Nat → Nat × (Instr × Nat) → Bool} (hP : ((List.range 338).all fun mu => (jpages mu).all fun g => g.all (P mu)) = true) {mu pc : Nat} {i : Instr} (h : jcode jT0 mu pc = some i) : ∃ len, P mu (pc, (i, len)) = true := by
  obtain ⟨len, h1, -⟩ := jCode_dec mu pc i h
  obtain ⟨g, hg, hm⟩ := List.mem_flatten.mp h1
  exact ⟨len, List.all_eq_true.mp (List.all_eq_true.mp (List.all_eq_true.mp hP mu (List.mem_range.mpr (jpages_lt hg))) g hg) _ hm⟩
theorem jput_at {mu pc idx ci k : Nat} {ty : FieldType} {C : String} {T : u_T} {N : Nat} (h : jcode jT0 mu pc = some (.putfield idx)) (hf : jfres jT0 mu idx = some (ci, (k, ty))) (hC : jClasses[ci]? = some (C, T, N)) : (T k).2.2.2 = false ∨ ((T k).2.2.2 = true ∧ (jy mu).name = "<init>" ∧ (T k).1 = jcn mu ∧ Cond.fieldLink (jcn mu) idx (T k).1 (T k).2.1 (T k).2.2.1 ∈ jTw) := by
  obtain ⟨len, h1⟩ := jins jput_ok h
  have h2 : (match jsel jfrs mu idx with
    | some (ci, (k, _)) => (match jClasses[ci]? with
      | some (_, T, _) => !(T k).2.2.2 || (decide ((jy mu).name = "<init>") && (decide ((T k).1 = jcn mu) && (match jas (jfps.getD (jown mu) []) idx with
        | some p => jin p (.fieldLink (jcn mu) idx (T k).1 (T k).2.1 (T k).2.2.1)
        | none => false)))
      | none => false)
    | none => false) = true := h1
  rw [show jsel jfrs mu idx = some (ci, (k, ty)) from hf] at h2
  dsimp only at h2
  rw [hC] at h2
  dsimp only at h2
  cases hfin : (T k).2.2.2 with
  | false => exact Or.inl rfl
  | true =>
    rw [hfin] at h2
    have h3 : (decide ((jy mu).name = "<init>") && (decide ((T k).1 = jcn mu) && (match jas (jfps.getD (jown mu) []) idx with
        | some p => jin p (.fieldLink (jcn mu) idx (T k).1 (T k).2.1 (T k).2.2.1)
        | none => false))) = true := h2
    rw [Bool.and_eq_true, Bool.and_eq_true, decide_eq_true_eq, decide_eq_true_eq] at h3
    refine Or.inr ⟨rfl, h3.1, h3.2.1, ?_⟩
    have h4 := h3.2.2
    split at h4
    · exact jin_mem h4
    · cases h4
/-! calls -/
def jcw0 (mu : Nat) : Cond := match jhof mu with
  | none => .code (jy mu) (jbytes mu) (jMx mu) (jrt mu)
  | some hh => .codeWith (jy mu) (jbytes mu) (jMx mu) (jrt mu) hh
def jlnk (own : String) (idx : Nat) (y : MethodName) (p : Nat) : Bool := match lw_tbl[p]? with
  | some w => jwm w && (match w with
    | .methodLinkNest _ _ _ h => decide (w = .methodLinkNest own idx y h)
    | _ => decide (w = .methodLink own idx y))
  | none => false
theorem jlnk_at {own : String} {idx p : Nat} {y : MethodName} (h : jlnk own idx y p = true) : Cond.methodLink own idx y ∈ jTw ∨ ∃ host, Cond.methodLinkNest own idx y host ∈ jTw := by
  unfold jlnk at h
  split at h
  · rename_i w hw
    rw [Bool.and_eq_true] at h
    obtain ⟨h4, h5⟩ := h
    have hmem : w ∈ jTw := List.mem_filter.mpr ⟨List.mem_of_getElem? hw, h4⟩
    split at h5
    · rw [decide_eq_true_eq] at h5
      rw [h5] at hmem
      exact Or.inr ⟨_, hmem⟩
    · rw [decide_eq_true_eq] at h5
      rw [h5] at hmem
      exact Or.inl hmem
  · cases h
def jcb (y : MethodName) (n : Nat) : Bool := decide (y.cls ≠ "java/lang/invoke/MethodHandle") && (decide (y.cls ≠ "java/lang/invoke/VarHandle") && (decide ((parseMethodDescriptor y.desc).map (fun d => d.parameters.length) = some n) && plainName y.cls))
def jmt1 (own : String) (e : Nat × jMR) (p : Nat × List Nat) : Bool := match e, p.2 with
  | (idx, (0, (mu, n))), [pl, ps, sel, pin, pc] => jlnk own idx (jy mu) pl && (jin ps (.instanceMethod (jy mu)) && (jin sel (.selects (jcn mu) (jy mu) (jy mu)) && (jin pin (.initialized (jy mu).cls) && (jin pc (jcw0 mu) && (jcb (jy mu) n && ((jhof mu).isNone && (decide (jcn mu = (jy mu).cls) && decide (jown mu < 10))))))))
  | (idx, (1, (mu, n))), [pl, ps, _, pin, pc] => jlnk own idx (jy mu) pl && (jin ps (.static (jy mu)) && (jin pin (.initialized (jy mu).cls) && (jin pc (jcw0 mu) && (jcb (jy mu) n && ((jhof mu).isNone || jin pl (.methodLink own idx (jy mu)))))))
  | (idx, (2, (mu, n))), [pl, ps, _, pin, pc] => jlnk own idx (jy mu) pl && (jin ps (.instanceMethod (jy mu)) && (jin pin (.initialized (jy mu).cls) && (jin pc (jcw0 mu) && (jcb (jy mu) n && ((jhof mu).isNone && (decide ((jy mu).name = "<init>") && decide (jrt mu = none)))))))
  | (idx, (3, _)), [pl, ps, _, pin, pc] => jin pl (.methodLink own idx Lib.Math.max.name) && (jin ps (.static Lib.Math.max.name) && (jin pin (.initialized "java/lang/Math") && jin pc (.code Lib.Math.max.name Lib.Math.max.code 2 (some .int))))
  | (idx, (4, _)), [pl, ps, _, pin, pc] => jin pl (.methodLink own idx Lib.Math.min.name) && (jin ps (.static Lib.Math.min.name) && (jin pin (.initialized "java/lang/Math") && jin pc (.code Lib.Math.min.name Lib.Math.min.code 2 (some .int))))
  | (idx, (5, _)), [pl, ps, _, _, pc] => jin pl (.methodLink own idx Lib.objectInit) && (jin ps (.instanceMethod Lib.objectInit) && jin pc (.code Lib.objectInit ⟨#[0xb1]⟩ 1 none))
  | _, _ => false
theorem jall2_app {α β : Type} {f : α → β → Bool} : ∀ {a : List α} {c : List β} {b : List α} {d : List β}, jall2 f a c = true → jall2 f b d = true → jall2 f (a ++ b) (c ++ d) = true
  | [], [], _, _, _, h => h
  | [], _ :: _, _, _, h, _ => by cases h
  | _ :: _, [], _, _, h, _ => by cases h
  | x :: a, y :: c, b, d, h1, h2 => by
    have h' : (f x y && jall2 f a c) = true := h1
    rw [Bool.and_eq_true] at h'
    show (f x y && jall2 f (a ++ b) (c ++ d)) = true
    rw [h'.1, jall2_app h'.2 h2]
    rfl

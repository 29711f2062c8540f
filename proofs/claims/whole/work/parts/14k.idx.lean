/-! ===== String.indexOf over the one text of the program ===== -/
def jWI : List Cond := [.code Jvm.Free.StrIndexOf.indexOf1N Jvm.Free.StrIndexOf.indexOf1B 2 (some .int),
  .methodLink "java/lang/String" 633 Jvm.Free.StrIndexOf.indexOf2N, .selects "java/lang/String" Jvm.Free.StrIndexOf.indexOf2N Jvm.Free.StrIndexOf.indexOf2N, .instanceMethod Jvm.Free.StrIndexOf.indexOf2N, .initialized "java/lang/String",
  .code Jvm.Free.StrIndexOf.indexOf2N Jvm.Free.StrIndexOf.indexOf2B 3 (some .int),
  .methodLink "java/lang/String" 492 Jvm.Free.StrIndexOf.S2.IL, .selects "java/lang/String" Jvm.Free.StrIndexOf.S2.IL Jvm.Free.StrIndexOf.S2.IL, .instanceMethod Jvm.Free.StrIndexOf.S2.IL,
  .fieldLink "java/lang/String" 9 "java/lang/String" "value" "[B",
  .methodLink "java/lang/String" 505 Jvm.Free.StrIndexOf.S2.LN, .selects "java/lang/String" Jvm.Free.StrIndexOf.S2.LN Jvm.Free.StrIndexOf.S2.LN, .instanceMethod Jvm.Free.StrIndexOf.S2.LN,
  .methodLink "java/lang/String" 637 Jvm.Free.SL1IndexOf.indexOfN, .static Jvm.Free.SL1IndexOf.indexOfN, .initialized "java/lang/StringLatin1",
  .code Jvm.Free.SL1IndexOf.indexOfN Jvm.Free.SL1IndexOf.indexOfB 4 (some .int),
  .methodLink "java/lang/StringLatin1" 88 Jvm.Free.SL1IndexOf.canEncodeN, .static Jvm.Free.SL1IndexOf.canEncodeN, .code Jvm.Free.SL1IndexOf.canEncodeN Jvm.Free.SL1IndexOf.canEncodeB 1 (some .boolean),
  .methodLink "java/lang/StringLatin1" 92 Lib.Math.max.name, .static Lib.Math.max.name, .code Lib.Math.max.name Lib.Math.max.code 2 (some .int),
  .methodLink "java/lang/StringLatin1" 38 Lib.Math.min.name, .static Lib.Math.min.name, .code Lib.Math.min.name Lib.Math.min.code 2 (some .int), .initialized "java/lang/Math",
  .methodLink "java/lang/StringLatin1" 95 Jvm.Free.SL1IndexOf.indexOfCharN, .static Jvm.Free.SL1IndexOf.indexOfCharN, .code Jvm.Free.SL1IndexOf.indexOfCharN Jvm.Free.SL1IndexOf.indexOfCharB 6 (some .int),
  .code Jvm.Free.StrIndexOf.S2.IL Jvm.Lib.String.isLatin1.code 1 (some .boolean), .fieldLink "java/lang/String" 38 "java/lang/String" "COMPACT_STRINGS" "Z", .fieldLink "java/lang/String" 15 "java/lang/String" "coder" "B",
  .code Jvm.Free.StrIndexOf.S2.LN Jvm.Lib.String.length.code 1 (some .int), .methodLink "java/lang/String" 335 Jvm.Lib.Cold.length.CO, .selects "java/lang/String" Jvm.Lib.Cold.length.CO Jvm.Lib.Cold.length.CO, .instanceMethod Jvm.Lib.Cold.length.CO,
  .code Jvm.Lib.Cold.length.CO Jvm.Lib.String.coder.code 1 (some .byte)]
theorem jWI_ok : (jWI.all fun w => jmem w) = true := by decide +kernel
theorem jWI_mem {w : Cond} (h : w ∈ jWI) : jmem w = true := List.all_eq_true.mp jWI_ok w h
theorem jWI_wm {w : Cond} (h : w ∈ jWI) : jwm w = true := by
  have h1 := jWI_mem h
  unfold jmem at h1
  rw [Bool.and_eq_true] at h1
  exact h1.1
theorem jWI_sub {w : Cond} (h : w ∈ jWI) : w ∈ jTw := jmem_mem (jWI_mem h)
def jAny (U : State) : Prop := ∀ (i : Nat) (w : Cond), jWI[i]? = some w → ∀ A : Array Value, w.before A U = true
theorem jAny.of {A : Array Value} {U : State} (h : ∀ w ∈ jWI, w.before A U = true) : jAny U := fun _ w hi _ =>
  jwm_warm (jWI_wm (List.mem_of_getElem? hi)) (State.WarmedH.refl U) (h w (List.mem_of_getElem? hi))
/-- the places of the text -/
def jbs (i : Nat) : Int32 := match i with
  | 0 => 102 | 1 => 99 | 2 => 98 | 3 => 97 | 4 => 112 | 5 => 110 | 6 => 101 | 7 => 107 | 8 => 103 | 9 => 121 | _ => 0
/-- the text's object and its bytes -/
def jSg (sa d : Nat) (arr : Cell) (U : State) : Prop :=
  U.fieldOf? sa "java/lang/String" "value" "[B" = some (.ref d) ∧ U.fieldOf? sa "java/lang/String" "coder" "B" = some (.int 0) ∧
  (∃ (cl : Cell) (k : Class), U.heap[sa]? = some cl ∧ U.vm.findClass "java/lang/String" = some cl.cls ∧ U.vm.classes[cl.cls]? = some k ∧ cl.vm.isStatics = false ∧ (k.kind = .ordinary → cl.slots.size = k.instanceTypes.size)) ∧
  U.heap[d]? = some arr ∧ U.isArrayOf arr .byte ∧ arr.vm ≠ .unknown ∧ arr.slots.size = 10 ∧ ∀ i, i < 10 → arr.slots[i]? = some (.int (jbs i))
theorem jSg.go {sa d : Nat} {arr : Cell} {s U : State} (hW : s.vm.Alike U.vm) (h : jSg sa d arr s) (h1 : U.heap[sa]? = s.heap[sa]?) (h2 : U.heap[d]? = s.heap[d]?) : jSg sa d arr U := by
  have e : ∀ c n d', U.fieldOf? sa c n d' = s.fieldOf? sa c n d' := fun c n d' => by
    rw [← State.fieldOf?_setVm hW sa c n d']
    unfold State.fieldOf?
    rw [h1]
    rfl
  obtain ⟨a1, a2, ⟨cl, k, q1, q2, q3, q4, q5⟩, a4, a5, a6⟩ := h
  obtain ⟨k', hk', he⟩ := hW.2.2 _ _ q3
  refine ⟨by rw [e]; exact a1, by rw [e]; exact a2, ⟨cl, k', by rw [h1]; exact q1, by rw [hW.findClass]; exact q2, hk', q4, by rw [he]; exact q5⟩, by rw [h2]; exact a4, State.isArrayOf_alike hW a5, a6⟩
theorem jdeclares {y : MethodName} {bytes : ByteArray} {n : Nat} {r : Option FieldType} {U : State} {A A1 A' : Array Value} (h1 : (Cond.instanceMethod y).before A U = true) (h2 : (Cond.code y bytes n r).before A1 U = true) : (Cond.declares y).before A' U = true := by
  obtain ⟨mk, methM, hnamed, hmethM, hstM, habM⟩ := Cond.instanceMethod_spec h1
  obtain ⟨meth, c, g1, -, -, -, -, -, -, g8⟩ := Cond.code_spec hnamed h2
  cases hmethM.symm.trans g1
  simp [Cond.before, Cond.holds, Cond.value, hnamed, hmethM, hstM, g8]
theorem jexact {sa d : Nat} {arr : Cell} {U : State} {A' : Array Value} (hA : A'[0]? = some (.ref sa)) (h : jSg sa d arr U) : (Cond.exactly (.arg 0) "java/lang/String").before A' U = true := by
  obtain ⟨-, -, ⟨cl, k, q1, q2, q3, q4, q5⟩, -⟩ := h
  unfold Cond.before Cond.holds
  rw [show Cond.value A' U none U [] (.exactly (.arg 0) "java/lang/String") = some true from ?_]
  · rfl
  · simp only [Cond.value, Term.eval, hA, q2, q1, q3, q4]
    cases hk : k.kind <;> simp [hk] at q5 ⊢ <;> first | exact ⟨q4, q5⟩ | exact q4
theorem jstat {U : State} {A : Nat → Prop} (h : va_Z "java/lang/String" "COMPACT_STRINGS" "Z" (.int 1) A U U.heap) : Jvm.Lib.Cold.StaticIs U "java/lang/String" "COMPACT_STRINGS" "Z" (.int 1) := by
  obtain ⟨cf, kf, fi, f, a, cell, h1, h2, h3, h4, h5, h6, h7, -⟩ := h
  refine ⟨cf, fi, kf, f, a, cell, h1, h2, h3, h4, h5, ?_, h7⟩
  intro hu
  rw [hu] at h6
  cases h6
theorem jIL_pre {sa : Nat} {U : State} (hw : jAny U) : Jvm.Lib.Cold.isLatin1.spec.pre.before #[.ref sa] U = true := by
  simp only [Jvm.Lib.Cold.isLatin1.spec, Cond.before_and, Bool.and_eq_true]
  exact ⟨hw 30 _ rfl _, rfl, hw 31 _ rfl _, hw 32 _ rfl _⟩
theorem jCO_pre {sa : Nat} {U : State} (hw : jAny U) : Jvm.Lib.Cold.coder.spec.pre.before #[.ref sa] U = true := by
  simp only [Jvm.Lib.Cold.coder.spec, Cond.before_and, Bool.and_eq_true]
  exact ⟨hw 37 _ rfl _, rfl, hw 31 _ rfl _, hw 32 _ rfl _⟩
theorem jLN_pre {sa d : Nat} {arr : Cell} {U : State} (hw : jAny U) (h : jSg sa d arr U) : Jvm.Lib.Cold.length.spec.pre.before #[.ref sa] U = true := by
  simp only [Jvm.Lib.Cold.length.spec, Cond.before_and, Bool.and_eq_true]
  exact ⟨hw 33 _ rfl _, rfl, jexact rfl h, hw 9 _ rfl _, hw 34 _ rfl _, jdeclares (hw 36 _ rfl #[]) (hw 37 _ rfl #[]), hw 35 _ rfl _, hw 36 _ rfl _, hw 4 _ rfl _⟩
theorem jI2_pre {sa d : Nat} {arr : Cell} {x y : Int32} {U : State} (hw : jAny U) (h : jSg sa d arr U) : Jvm.Free.StrIndexOf.S2.spec.pre.before #[.ref sa, .int x, .int y] U = true := by
  simp only [Jvm.Free.StrIndexOf.S2.spec, Jvm.Free.SL1IndexOf.Idx.tab, Jvm.Free.SL1IndexOf.Can.tab, Jvm.Free.SL1IndexOf.Chr.tab, Cond.before_and, Bool.and_eq_true]
  exact ⟨hw 5 _ rfl _, rfl, jexact rfl h, hw 6 _ rfl _, jdeclares (hw 8 _ rfl #[]) (hw 30 _ rfl #[]), hw 7 _ rfl _, hw 8 _ rfl _, hw 9 _ rfl _, hw 10 _ rfl _, jdeclares (hw 12 _ rfl #[]) (hw 33 _ rfl #[]), hw 11 _ rfl _, hw 12 _ rfl _, hw 13 _ rfl _, hw 14 _ rfl _,
    ⟨hw 16 _ rfl _, hw 17 _ rfl _, hw 18 _ rfl _, hw 19 _ rfl _, hw 20 _ rfl _, hw 21 _ rfl _, hw 22 _ rfl _, hw 23 _ rfl _, hw 24 _ rfl _, hw 25 _ rfl _, hw 26 _ rfl _, hw 27 _ rfl _, hw 28 _ rfl _, hw 29 _ rfl _⟩, hw 15 _ rfl _, hw 4 _ rfl _⟩
theorem jI1_pre {sa d : Nat} {arr : Cell} {x : Int32} {U : State} (hw : jAny U) (h : jSg sa d arr U) : Jvm.Free.StrIndexOf.S1.spec.pre.before #[.ref sa, .int x] U = true := by
  simp only [Jvm.Free.StrIndexOf.S1.spec, Cond.before_and, Bool.and_eq_true]
  exact ⟨hw 0 _ rfl _, rfl, jexact rfl h, hw 1 _ rfl _, jdeclares (hw 3 _ rfl #[]) (hw 5 _ rfl #[]), hw 2 _ rfl _, hw 3 _ rfl _, hw 4 _ rfl _⟩
theorem jI1_P {sa d : Nat} {arr : Cell} {x : Int32} {A : Nat → Prop} {U : State} (hw : jAny U) (h : jSg sa d arr U) (hz : va_Z "java/lang/String" "COMPACT_STRINGS" "Z" (.int 1) A U U.heap) : Jvm.Free.StrIndexOf.S1.P sa d x 1 arr #[.ref sa, .int x] U := by
  have hs := jstat hz
  have hc : Jvm.Lib.Cold.coder.P sa 1 #[.ref sa] U := ⟨rfl, hs, by decide, h.2.1⟩
  have hi : Jvm.Lib.Cold.isLatin1.P sa 1 #[.ref sa] U := ⟨rfl, hs, by decide, h.2.1⟩
  have hl : Jvm.Lib.Cold.length.P sa d 1 arr #[.ref sa] U := ⟨rfl, h.1, h.2.2.2.1, h.2.2.2.2.1, jCO_pre hw, hc⟩
  refine ⟨rfl, jI2_pre hw h, rfl, h.1, jIL_pre hw, hi, jLN_pre hw h, hl, h.2.2.2.2.2.1, by rw [h.2.2.2.2.2.2.1]; decide, fun i hi => ?_⟩
  rw [h.2.2.2.2.2.2.1] at hi
  exact Jvm.Lib.StringLatin1.equals.intAt_spec ⟨_, h.2.2.2.2.2.2.2 i hi⟩
theorem jfirst_congr {f g : Nat → Int32} {t : Int32} : ∀ (n lo : Nat), (∀ k, lo ≤ k → k < lo + n → f k = g k) → Jvm.Free.SL1IndexOf.Chr.firstIdx f t lo n = Jvm.Free.SL1IndexOf.Chr.firstIdx g t lo n
  | 0, _, _ => rfl
  | n + 1, lo, h => by
    unfold Jvm.Free.SL1IndexOf.Chr.firstIdx
    rw [h lo (Nat.le_refl _) (by omega), jfirst_congr n (lo + 1) (fun k h1 h2 => h k (by omega) (by omega))]
theorem jidx_fin : ∀ n : Nat, n < 256 → Jvm.Free.SL1IndexOf.Chr.firstIdx jbs (Int32.ofInt (n : Int)).toInt8.toInt32 0 10 = Int32.ofInt (jidx (n : Int)) := by decide +kernel
theorem jidx_out {x : Int} (h : ¬ (0 ≤ x ∧ x ≤ 255)) : jidx x = -1 := by
  unfold jidx
  repeat (first | rw [if_neg (by omega)])
theorem jans {arr : Cell} (hz : arr.slots.size = 10) (hs : ∀ i, i < 10 → arr.slots[i]? = some (.int (jbs i))) {x : Int} (hx : jr32 x) : Jvm.Free.SL1IndexOf.Idx.answer arr (Int32.ofInt x) 0 arr.slots.size.toInt32 = Int32.ofInt (jidx x) := by
  have h255 : (255 : Int32) = Int32.ofInt 255 := by decide
  have r255 : jr32 255 := ⟨by omega, by omega⟩
  have r0 : jr32 0 := ⟨by omega, by omega⟩
  rw [hz]
  unfold Jvm.Free.SL1IndexOf.Idx.answer Jvm.Free.SL1IndexOf.Can.can
  have hc : (0 ≤ Int32.ofInt x ∧ Int32.ofInt x ≤ 255) ↔ (0 ≤ x ∧ x ≤ 255) := by
    rw [ji_0, h255, ji_le r0 hx, ji_le hx r255]
  by_cases h : 0 ≤ x ∧ x ≤ 255
  · rw [if_pos (hc.mpr h), if_neg (by decide)]
    have e1 : Jvm.Free.SL1IndexOf.Idx.lo 0 = 0 := by decide
    have e2 : Jvm.Free.SL1IndexOf.Idx.hi arr (Nat.toInt32 10) = 10 := by unfold Jvm.Free.SL1IndexOf.Idx.hi; rw [hz]; decide
    rw [e1, e2, if_pos (by decide), show (0 : Int32).toNatClampNeg = 0 from by decide, show (10 : Int32).toNatClampNeg = 10 from by decide]
    rw [jfirst_congr (g := jbs) 10 0 (fun k _ hk => by
      have h1 := hs k (by omega)
      have h2 := Jvm.Lib.StringLatin1.equals.intAt_spec ⟨_, h1⟩
      rw [h1] at h2
      exact (Value.int.inj (Option.some.inj h2)).symm)]
    obtain ⟨n, rfl⟩ := Int.eq_ofNat_of_zero_le h.1
    exact jidx_fin n (by omega)
  · rw [if_neg (fun q => h (hc.mp q)), if_pos rfl, jidx_out h]
    decide
/-- what the call asks and what it answers -/
def jPI (sa d : Nat) (arr : Cell) (x : Int) (A : Nat → Prop) : Array Value → State → Prop := fun args U => args = #[.ref sa, .int (Int32.ofInt x)] ∧ jSg sa d arr U ∧ va_Z "java/lang/String" "COMPACT_STRINGS" "Z" (.int 1) A U U.heap
def jQI (x : Int) : Array Value → State → Outcome → State → Prop := fun _ st o t => o = .returned (some (.int (Int32.ofInt (jidx x)))) ∧ t.heap = st.heap
theorem jheap0 {s t : State} (h : s.sameBut t []) : t.heap = s.heap := by
  obtain ⟨-, h2, h3⟩ := h
  apply Array.ext h2
  intro a h1a h2a
  obtain ⟨c', hc', he, hsz, hsl⟩ := h3 a s.heap[a] (Array.getElem?_eq_getElem h2a)
  have h9 : c'.slots = (s.heap[a]).slots := Array.ext hsz (fun i i1 i2 => by
    have := hsl i (by simp)
    rw [Array.getElem?_eq_getElem i1, Array.getElem?_eq_getElem i2] at this
    exact Option.some.inj this)
  have h8 : c' = s.heap[a] := by
    rw [he, h9]
  rw [Array.getElem?_eq_getElem h1a] at hc'
  exact (Option.some.inj hc').trans h8
theorem jMI (l : Launch) {sa d : Nat} {arr : Cell} {x : Int} {A : Nat → Prop} {free : Nat → Prop} (hx : jr32 x) (XC : String → State → State → Prop) : vx_Met l Jvm.Free.StrIndexOf.indexOf1N jWI Jvm.Free.StrIndexOf.S1.spec.room (jPI sa d arr x A) (jQI x) XC 0 0 free := by
  intro p e ha hc hk s m args below hf happ hP _
  obtain ⟨rfl, hg, hz⟩ := hP
  have happ0 := happ
  unfold Spec.appliesLoose at happ
  rw [hf] at happ
  simp only [Bool.and_eq_true] at happ
  have hany : jAny s := jAny.of (atoms_spec (ws := jWI) happ.2)
  have happ' : Jvm.Free.StrIndexOf.S1.spec.appliesLoose Jvm.Free.StrIndexOf.indexOf1N e.platform s = true := by
    unfold Spec.appliesLoose
    rw [hf]
    simp only [Bool.and_eq_true]
    exact ⟨happ.1, jI1_pre hany hg⟩
  obtain ⟨n, o, h1, h2, h3, h4, h5⟩ := Jvm.Free.StrIndexOf.S1.met l sa d (Int32.ofInt x) 1 arr p e ha hc hk s m _ below hf happ' (jI1_P hany hg hz) trivial
  rw [jans hg.2.2.2.2.2.2.1 hg.2.2.2.2.2.2.2 hx] at h5
  have h9 := jheap0 h4.2.2
  refine ⟨n, o, h1, h2, h3, Or.inl ⟨⟨h5, h9⟩, [], ⟨h4.1, h4.2.1, h4.2.2.sameButNew 0 0⟩, fun q hq => nomatch hq⟩⟩

/-! ===== the world at the law's entry ===== -/
def jD0 (s : State) : va_G := (fun ci => match jClasses[ci]? with | some q => (s.vm.findClass q.1).getD 0 | none => 0, fun ci k => match jClasses[ci]? with | some q => (match s.fieldFound? (q.2.1 k).1 (q.2.1 k).2.1 (q.2.1 k).2.2.1 with | some f => f.2.2.2.slot | none => 0) | none => 0)
def jar0 (s : State) (ty : FieldType) : ClassId := (s.vm.findClass ("[" ++ ty.toString)).getD 0
def jG0 (s : State) (b : Nat) (scr : Cell) : jGc := (s.heap.size, (jD0 s, (jar0 s, (b, scr))))
theorem jlay_found {A : Array Value} {s : State} {C : String} {T : u_T} {k : Nat} (h : (u_lay C T k).before A s = true) : ∃ q, s.fieldFound? (T k).1 (T k).2.1 (T k).2.2.1 = some q := by
  unfold u_lay at h
  split at h
  · obtain ⟨c, k1, c', k', i, f, -, -, h3, -⟩ := Cond.laysFinal_spec h
    exact ⟨_, h3⟩
  · obtain ⟨c, k1, c', k', i, f, -, -, h3, -⟩ := Cond.lays_spec h
    exact ⟨_, h3⟩
theorem jarr0 {A : Array Value} {s : State} (hts : ∀ w ∈ jTw, w.before A s = true) {ty : FieldType} (h : ty ∈ [FieldType.int, .char, .boolean, .long, .double]) : ArrOfT s (jar0 s ty) ty ∧ s.vm.findClass ("[" ++ ty.toString) = some (jar0 s ty) := by
  obtain ⟨c, k, comp, h1, h2, h3⟩ := Cond.arrayClass_spec (hts _ (jarr_at h))
  have e : jar0 s ty = c := by unfold jar0; rw [h1]; rfl
  rw [e]
  exact ⟨fun n z => ⟨(fun q hq => by cases hq), k, h2, comp, h3⟩, h1⟩
theorem jK0 {A : Array Value} {s : State} (hts : ∀ w ∈ jTw, w.before A s = true) (b : Nat) (scr : Cell) : va_K (jD0 s) jClasses (jtys (jG0 s b scr)) s := by
  refine ⟨fun c q h => ?_, fun k q h => ?_⟩
  · obtain ⟨C, T, N⟩ := q
    obtain ⟨⟨hi, hini⟩, hin, -, -⟩ := jcls_at h
    refine ⟨fun k hk => ?_, ?_⟩
    · obtain ⟨⟨cf, kf, fi, f⟩, hf⟩ := jlay_found (hts _ (hin _ (List.mem_map.mpr ⟨k, List.mem_range.mpr hk, rfl⟩)))
      refine ⟨cf, kf, fi, f, hf, ?_⟩
      have hf' : s.fieldFound? (T k).1 (T k).2.1 (T k).2.2.1 = some (cf, kf, fi, f) := hf
      show f.slot = (match jClasses[c]? with | some q => (match s.fieldFound? (q.2.1 k).1 (q.2.1 k).2.1 (q.2.1 k).2.2.1 with | some f => f.2.2.2.slot | none => 0) | none => 0)
      rw [h]
      dsimp only
      rw [hf']
    · obtain ⟨c0, k0, h1, h2, h3, -⟩ := Cond.instantiable_spec (hts _ hi)
      have e : (jD0 s).1 c = c0 := by
        show (match jClasses[c]? with | some q => (s.vm.findClass q.1).getD 0 | none => 0) = c0
        rw [h]
        dsimp only
        rw [h1]
        rfl
      show ClassAt s C ((jD0 s).1 c)
      rw [e]
      exact ⟨h1, k0, h2, h3⟩
  · match k, h with
    | 0, h => cases h; exact jarr0 hts (ty := .int) (by simp)
    | 1, h => cases h; exact jarr0 hts (ty := .long) (by simp)
    | 2, h => cases h; exact jarr0 hts (ty := .boolean) (by simp)
    | 3, h => cases h; exact jarr0 hts (ty := .char) (by simp)
    | 4, h => cases h; exact jarr0 hts (ty := .double) (by simp)
    | 5, h =>
      cases h
      obtain ⟨comp, c, k, h1, -, h3, h4, h5⟩ := Cond.arrayOver_spec (hts _ jover_at)
      have e : jar0 s (.object "HabitRegistry$State") = c := by unfold jar0; rw [h5]; rfl
      show ArrOfT s (jar0 s (.object "HabitRegistry$State")) (.object "HabitRegistry$State") ∧ va_RA s (jar0 s (.object "HabitRegistry$State")) (.object "HabitRegistry$State")
      rw [e]
      exact ⟨fun n z => ⟨(fun q hq => by cases hq), k, h3, comp, h4⟩, k, comp, h3, h4, h1, h5⟩
    | k + 6, h => cases h
/-! the statement's own premises of the start -/
def jgv : List Cond := flatC (Jvm.Cond.and given_1 narrow_1)
def jgm (w : Cond) : Bool := jgv.any fun v => decide (v = w)
theorem jgm_mem {w : Cond} (h : jgm w = true) : w ∈ jgv := by
  obtain ⟨v, h1, h2⟩ := List.any_eq_true.mp h
  rw [decide_eq_true_eq] at h2
  exact h2 ▸ h1
def jtm (w : Cond) : Bool := lw_tbl.any fun v => decide (v = w)
theorem jtm_mem {w : Cond} (h : jtm w = true) : w ∈ lw_tbl := by
  obtain ⟨v, h1, h2⟩ := List.any_eq_true.mp h
  rw [decide_eq_true_eq] at h2
  exact h2 ▸ h1
theorem jstr_ok : (jstl.all fun q => jtm (.stringRef "HabitRegistry" q.1 q.2) && jgm (.exactly (.string "HabitRegistry" q.1) "java/lang/String")) = true := by decide +kernel
theorem jnca_ok : (jexc.all fun a => jexc.all fun b => decide (a = b) || jgm (.not (.castable a b))) = true := by decide +kernel
abbrev jtS : Term := .string "HabitRegistry$Script" 50
abbrev jtV : Term := .field jtS "java/lang/String" "value" "[B"
theorem jscp1 : jtm (.stringRef "HabitRegistry$Script" 50 "fcbapnekgy") = true := by decide +kernel
theorem jscp2 : jgm (.exactly jtS "java/lang/String") = true := by decide +kernel
theorem jscp3 : jgm (.eq (.field jtS "java/lang/String" "coder" "B") (.int 0)) = true := by decide +kernel
theorem jscp4 : jgm (.arrayOf jtV .byte) = true := by decide +kernel
theorem jscp5 : jgm (.eq (.length jtV) (.int 10)) = true := by decide +kernel
theorem jscp6 : ((List.range 10).all fun i => jgm (.eq (.elem jtV (.int (Int32.ofNat i))) (.int (jbs i)))) = true := by decide +kernel
theorem jsta1 : jtm (.laysStatic "java/lang/String" "COMPACT_STRINGS" "Z") = true := by decide +kernel
theorem jsta2 : jgm (.eq (.static "java/lang/String" "COMPACT_STRINGS" "Z") (.int 1)) = true := by decide +kernel
theorem jsta3 : jtm (.initialized "java/lang/String") = true := by decide +kernel
theorem jsta4 : jtm (.initialized Bundle.tN) = true := by decide +kernel
theorem jsta5 : jtm (.laysStatic Bundle.tN "UNASSIGNED_STACK" Bundle.steD) = true := by decide +kernel
theorem jsta6 : jtm (.laysStatic Bundle.tN "SUPPRESSED_SENTINEL" Bundle.listD) = true := by decide +kernel
theorem jsta7 : jgm (.isRef (.static Bundle.tN "UNASSIGNED_STACK" Bundle.steD)) = true := by decide +kernel
theorem jsta8 : jgm (.isRef (.static Bundle.tN "SUPPRESSED_SENTINEL" Bundle.listD)) = true := by decide +kernel
section JStart
variable {s : State} {b : Nat}
theorem jstrR {own tx : String} {k : Nat} {A : Array Value} (h1 : (Cond.stringRef own k tx).before A s = true) (h2 : (Cond.exactly (.string own k) "java/lang/String").before A s = true) : ∃ sa, vk_R own k tx sa s := by
  obtain ⟨a, c, cell, kk, e1, -⟩ := Cond.exactly_spec h2
  refine ⟨a, h1, ?_⟩
  rw [Term.string_eval_of_vm (args := A) (args' := #[]) (rfl : s.vm = s.vm)]
  exact e1
theorem jlen_ev {t : Term} {A : Array Value} {n : Int32} (h : (Term.length t).eval A s none [] s = some (.int n)) : ∃ d arr, t.eval A s none [] s = some (.ref d) ∧ s.arrayAt? d = some arr ∧ arr.slots.size < 2 ^ 31 ∧ arr.slots.size.toInt32 = n := by
  simp only [Term.eval] at h
  cases ht : t.eval A s none [] s with
  | none => rw [ht] at h; cases h
  | some v =>
    rw [ht] at h
    cases v with
    | ref d =>
      have h' : ((s.arrayAt? d).bind fun c => if c.slots.size < 2 ^ 31 then some (Value.int c.slots.size.toInt32) else none) = some (.int n) := h
      cases ha : s.arrayAt? d with
      | none => rw [ha] at h'; cases h'
      | some arr =>
        rw [ha] at h'
        have h9 : (if arr.slots.size < 2 ^ 31 then some (Value.int arr.slots.size.toInt32) else none) = some (.int n) := h'
        split at h9
        · rename_i hlt
          cases h9
          exact ⟨d, arr, rfl, ha, hlt, rfl⟩
        · cases h9
    | _ => cases h
theorem jelem_ev {t : Term} {A : Array Value} {d i : Nat} {arr : Cell} {v : Value} (hi : i < 10) (ht : t.eval A s none [] s = some (.ref d)) (ha : s.arrayAt? d = some arr) (h : (Term.elem t (.int (Int32.ofNat i))).eval A s none [] s = some v) : arr.slots[i]? = some v := by
  simp only [Term.eval, ht] at h
  have h0 : ¬ Int32.ofNat i < 0 := by
    have : ∀ j, j < 10 → ¬ Int32.ofNat j < 0 := by decide
    exact this i hi
  have h1 : (Int32.ofNat i).toNatClampNeg = i := by
    have : ∀ j, j < 10 → (Int32.ofNat j).toNatClampNeg = j := by decide
    exact this i hi
  have h' : (if Int32.ofNat i < 0 then none else (s.arrayAt? d).bind fun c => c.slots[(Int32.ofNat i).toNatClampNeg]?) = some v := h
  rw [if_neg h0, ha, h1] at h'
  exact h'
theorem jWld0 (htl : ∀ w ∈ lw_tbl, w.before #[Value.ref b] s = true) (hgv : (Jvm.Cond.and given_1 narrow_1).before #[Value.ref b] s = true) {scr : Cell} (hof : s.isArrayOf scr .int) (hkn : scr.vm ≠ .unknown) : jWld (jG0 s b scr) s := by
  have hts : ∀ w ∈ jTw, w.before #[Value.ref b] s = true := fun w hw => htl w (List.mem_filter.mp hw).1
  have hg : ∀ w ∈ jgv, w.before #[Value.ref b] s = true := flat_of_before _ hgv
  have hA : ∀ a : Nat, a < s.heap.size → ¬ jA (jG0 s b scr) a := fun a ha h => absurd ha (Nat.not_lt.mpr h)
  refine ⟨⟨⟨jK0 hts b scr, hof, hkn⟩, vx_Zqof (htl _ (jtm_mem jsta5)) (htl _ (jtm_mem jsta4)) (hg _ (jgm_mem jsta7)) hA, vx_Zqof (htl _ (jtm_mem jsta6)) (htl _ (jtm_mem jsta4)) (hg _ (jgm_mem jsta8)) hA⟩, fun q hq => ?_, fun x hx y hy hxy => ?_, ?_⟩
  · have h1 := List.all_eq_true.mp jstr_ok q hq
    rw [Bool.and_eq_true] at h1
    exact jstrR (htl _ (jtm_mem h1.1)) (hg _ (jgm_mem h1.2))
  · have h1 := List.all_eq_true.mp (List.all_eq_true.mp jnca_ok x hx) y hy
    rw [Bool.or_eq_true, decide_eq_true_eq] at h1
    rcases h1 with h1 | h1
    · exact absurd h1 hxy
    · exact va_Nc.of (hg _ (jgm_mem h1))
  · skip
    obtain ⟨sa, cc, cell, kk, e1, e2, e3, e4, e5, e6, e7⟩ := Cond.exactly_spec (hg _ (jgm_mem jscp2))
    have hR : vk_R "HabitRegistry$Script" 50 "fcbapnekgy" sa s := ⟨htl _ (jtm_mem jscp1), by
      rw [Term.string_eval_of_vm (args := #[Value.ref b]) (args' := #[]) (rfl : s.vm = s.vm)]
      exact e1⟩
    have f1 : s.fieldOf? sa "java/lang/String" "coder" "B" = some (.int 0) := by
      have h1 := Cond.eq_int (hg _ (jgm_mem jscp3)) rfl
      simp only [Term.eval] at h1
      simp only [Term.eval] at e1
      rw [e1] at h1
      exact h1
    have hl := Cond.eq_int (hg _ (jgm_mem jscp5)) rfl
    obtain ⟨d, arr, g1, g2, g3, g4⟩ := jlen_ev hl
    obtain ⟨g5, g6, g7, -⟩ := State.arrayAt?_spec g2
    have f2 : s.fieldOf? sa "java/lang/String" "value" "[B" = some (.ref d) := by
      have h1 := g1
      simp only [Term.eval] at h1
      simp only [Term.eval] at e1
      rw [e1] at h1
      exact h1
    have hz : arr.slots.size = 10 := by
      have h1 : (Nat.toInt32 arr.slots.size).toNatClampNeg = (10 : Int32).toNatClampNeg := by rw [g4]
      rw [Int32.toNatClampNeg_ofNat_of_lt g3] at h1
      exact h1
    have hof' := Cond.arrayOf_spec (hg _ (jgm_mem jscp4)) g1 g5
    subst e6
    refine ⟨sa, d, arr, hR, hA _ (Array.getElem?_eq_some_iff.mp e3).1, hA _ (Array.getElem?_eq_some_iff.mp g5).1, ⟨f2, f1, ⟨cell, kk, e3, e2, e4, e5, e7⟩, g5, hof'.1, hof'.2, hz, fun i hi => ?_⟩, va_Zof (htl _ (jtm_mem jsta1)) (htl _ (jtm_mem jsta3)) (Cond.eq_int (hg _ (jgm_mem jsta2)) rfl) hA⟩
    have h1 := List.all_eq_true.mp jscp6 i (List.mem_range.mpr hi)
    exact jelem_ev hi g1 g2 (Cond.eq_int (hg _ (jgm_mem h1)) rfl)
/-- the interpreter's heap at the entry: the script alone -/
def jw0 (s : State) (b L : Nat) (xs : Nat → Int32) : jH := (fun q => if q = b then some (.inr (.inr (.int, (L, fun j => .int (xs j))))) else none, (some s.heap.size, (0, 0)))
theorem jHR0 {L : Nat} {xs : Nat → Int32} {scr : Cell} (hb : b < s.heap.size) (hL : L ≤ 2048) (h1 : s.heap[b]? = some scr) (h4 : scr.slots.size = L) (h5 : ∀ j : Nat, j < L → scr.slots[j]? = some (.int (xs j))) : jHR jClasses (jG0 s b scr) (jw0 s b L xs) s.heap := by
  refine ⟨Nat.le_refl _, fun a e he => ?_, fun t ht => ?_⟩
  · have he' : (if a = b then some (.inr (.inr (.int, (L, fun j => .int (xs j)))) : jE) else none) = some e := he
    split at he'
    · rename_i hab
      subst hab
      cases he'
      exact ⟨by omega, Or.inl ⟨rfl, rfl, hb, h1, h4, fun j hj => ⟨xs j, rfl, h5 j hj⟩⟩⟩
    · cases he'
  · cases ht
    rfl
end JStart

/-! ===== what values, locals and heaps of the interpreter stand for ===== -/
def jtv (v : jV) : Value := match v with
  | .inl x => .int (Int32.ofInt x)
  | .inr (.inl x) => .long (Int64.ofInt x)
  | .inr (.inr v) => v
def jok (v : jV) : Prop := match v with
  | .inl x => jr32 x
  | .inr (.inl x) => jr64 x
  | .inr (.inr (.int _)) => False
  | .inr (.inr (.long _)) => False
  | .inr (.inr _) => True
theorem jok_cat {v : jV} (h : jok v) : (jtv v).category = jcat v := by
  rcases v with x | x | v
  · rfl
  · rfl
  · cases v <;> first | rfl | exact absurd h (by simp [jok])
theorem jok_ref (a : Nat) : jok (jr a) := trivial
def jlv (ls : jL) : List (Nat × Value) := (List.range ls.length).filterMap fun k => match ls[k]? with
  | some (some v) => some (k, jtv v)
  | _ => none
theorem jlv_mem {ls : jL} {k : Nat} {v : jV} (h : ls[k]? = some (some v)) : (k, jtv v) ∈ jlv ls := by
  refine List.mem_filterMap.mpr ⟨k, List.mem_range.mpr (List.getElem?_eq_some_iff.mp h).1, ?_⟩
  rw [h]
theorem jlv_inv {ls : jL} {q : Nat × Value} (h : q ∈ jlv ls) : ∃ v, ls[q.1]? = some (some v) ∧ q.2 = jtv v := by
  obtain ⟨k, -, h2⟩ := List.mem_filterMap.mp h
  split at h2
  · rename_i v hv
    cases h2
    exact ⟨v, hv, rfl⟩
  · cases h2
def jLo (arr : Array Slot) (ls : jL) : Prop := arr.size = ls.length ∧ lv_wf arr ∧ ∀ (k : Nat) (v : jV), ls[k]? = some (some v) → arr[k]? = some (.val (jtv v)) ∧ jok v ∧ (jcat v = 2 → k = 7)
theorem jLo.has {arr : Array Slot} {ls : jL} (h : jLo arr ls) : lv_has arr ls.length (jlv ls) := ⟨h.1, h.2.1, fun q hq => by
  obtain ⟨v, h1, h2⟩ := jlv_inv hq
  rw [h2]
  exact (h.2.2 _ _ h1).1⟩
theorem jLo.get {arr : Array Slot} {ls : jL} (h : jLo arr ls) {k : Nat} {v : jV} (hk : ls[k]? = some (some v)) : arr[k]? = some (.val (jtv v)) := (h.2.2 k v hk).1
theorem jLo.ok {arr : Array Slot} {ls : jL} (h : jLo arr ls) {k : Nat} {v : jV} (hk : ls[k]? = some (some v)) : jok v := (h.2.2 k v hk).2.1
theorem jset_get {ls : jL} {i k : Nat} {o : Option jV} {u : jV} (h : (ls.set i o)[k]? = some (some u)) : (k = i ∧ o = some u) ∨ (k ≠ i ∧ ls[k]? = some (some u)) := by
  by_cases e : i = k
  · subst e
    have hl : i < ls.length := by
      have := (List.getElem?_eq_some_iff.mp h).1
      rwa [List.length_set] at this
    rw [List.getElem?_set_self hl] at h
    cases h
    exact Or.inl ⟨rfl, rfl⟩
  · rw [List.getElem?_set_ne e] at h
    exact Or.inr ⟨fun x => e x.symm, h⟩
theorem jLo.set1 {arr arr' : Array Slot} {ls : jL} (h : jLo arr ls) {i : Nat} {v : jV} (hi : i < ls.length) (h8 : i ≠ 8) (hv : jok v) (hc : jcat v ≠ 2)
    (h' : lv_has arr' ls.length ((i, jtv v) :: (jlv ls).filter (fun q => !(q.1 == i) && !(q.1 + 1 == i && q.2.category == 2)))) : jLo arr' (ls.set i (some v)) := by
  refine ⟨by rw [List.length_set]; exact h'.1, h'.2.1, fun k u hk => ?_⟩
  rcases jset_get hk with ⟨e, e1⟩ | ⟨e, hk⟩
  · subst e
    cases e1
    exact ⟨h'.2.2 _ List.mem_cons_self, hv, fun e => absurd e hc⟩
  · have h0 := h.2.2 k u hk
    refine ⟨h'.2.2 (k, jtv u) (List.mem_cons_of_mem _ (List.mem_filter.mpr ⟨jlv_mem hk, ?_⟩)), h0.2.1, h0.2.2⟩
    have e1 : (k == i) = false := by simpa using e
    have e2 : (k + 1 == i && (jtv u).category == 2) = false := by
      rw [jok_cat h0.2.1]
      by_cases hcu : jcat u = 2
      · have := h0.2.2 hcu
        have : (k + 1 == i) = false := by simp; omega
        rw [this]; rfl
      · have : (jcat u == 2) = false := by simpa using hcu
        rw [this, Bool.and_false]
    show (!(k == i) && !(k + 1 == i && (jtv u).category == 2)) = true
    rw [e1, e2]; rfl
theorem jLo.set2 {arr arr' : Array Slot} {ls : jL} (h : jLo arr ls) {i : Nat} {v : jV} (hi : i = 7) (h8 : 8 < ls.length) (hv : jok v)
    (h' : lv_has arr' ls.length ((i, jtv v) :: (jlv ls).filter (fun q => !(q.1 == i) && (!(q.1 == i + 1) && !(q.1 + 1 == i && q.2.category == 2))))) : jLo arr' ((ls.set 7 (some v)).set 8 none) := by
  subst hi
  refine ⟨by rw [List.length_set, List.length_set]; exact h'.1, h'.2.1, fun k u hk => ?_⟩
  rcases jset_get hk with ⟨e, e1⟩ | ⟨e8, hk⟩
  · cases e1
  · rcases jset_get hk with ⟨e, e1⟩ | ⟨e, hk⟩
    · subst e
      cases e1
      exact ⟨h'.2.2 _ List.mem_cons_self, hv, fun _ => rfl⟩
    · have h0 := h.2.2 k u hk
      refine ⟨h'.2.2 (k, jtv u) (List.mem_cons_of_mem _ (List.mem_filter.mpr ⟨jlv_mem hk, ?_⟩)), h0.2.1, h0.2.2⟩
      have e1 : (k == 7) = false := by simpa using e
      have e0 : (k == 7 + 1) = false := by simpa using e8
      have e2 : (k + 1 == 7 && (jtv u).category == 2) = false := by
        rw [jok_cat h0.2.1]
        by_cases hcu : jcat u = 2
        · have := h0.2.2 hcu
          omega
        · have : (jcat u == 2) = false := by simpa using hcu
          rw [this, Bool.and_false]
      show (!(k == 7) && (!(k == 7 + 1) && !(k + 1 == 7 && (jtv u).category == 2))) = true
      rw [e1, e2, e0]; rfl
theorem jLo.unset {arr : Array Slot} {ls : jL} (h : jLo arr ls) (i : Nat) : jLo arr (ls.set i none) := by
  refine ⟨by rw [List.length_set]; exact h.1, h.2.1, fun k u hk => ?_⟩
  rcases jset_get hk with ⟨e, e1⟩ | ⟨e, hk⟩
  · cases e1
  · exact h.2.2 k u hk
/-- the stack -/
def jSo (st : List jV) : Prop := ∀ v ∈ st, jok v
theorem jSo.hd {v : jV} {st : List jV} (h : jSo (v :: st)) : jok v := h v List.mem_cons_self
theorem jSo.tl {v : jV} {st : List jV} (h : jSo (v :: st)) : jSo st := fun u hu => h u (List.mem_cons_of_mem _ hu)
theorem jSo.cons {v : jV} {st : List jV} (hv : jok v) (h : jSo st) : jSo (v :: st) := fun u hu => by
  rcases List.mem_cons.mp hu with rfl | h1
  · exact hv
  · exact h u h1
theorem jSo.nil : jSo [] := fun _ h => absurd h List.not_mem_nil
theorem jcats_sum {st : List jV} (h : jSo st) : ((st.map jtv).map fun v => v.category).sum = jcats st := by
  induction st with
  | nil => rfl
  | cons v r ih =>
    show (jtv v).category + ((r.map jtv).map fun v => v.category).sum = jcat v + jcats r
    rw [jok_cat h.hd, ih h.tl]
/-- fixed for a run: the heap's size at the law's entry, classes and places of fields, classes of arrays, the script's cell -/
abbrev jGc : Type := Nat × (va_G × ((FieldType → ClassId) × (Nat × Cell)))
def jn0 (G : jGc) : Nat := G.1
def jDD (G : jGc) : va_G := G.2.1
def jar (G : jGc) : FieldType → ClassId := G.2.2.1
def jsb (G : jGc) : Nat := G.2.2.2.1
def jsc (G : jGc) : Cell := G.2.2.2.2
def jA (G : jGc) (q : Nat) : Prop := jn0 G ≤ q
def jfp (ty : FieldType) (x : Int) : Prop := match ty with
  | .int => jr32 x
  | .long => jr64 x
  | .boolean => x = 0 ∨ x = 1
  | .char => 0 ≤ x ∧ x < 65536
  | _ => False
def jva (ty : FieldType) (x : Int) : Value := match ty with
  | .long => .long (Int64.ofInt x)
  | _ => .int (Int32.ofInt x)
theorem jfp_r {ty : FieldType} {x : Int} (h : jfp ty x) (hl : ty ≠ .long) : jr32 x := by
  cases ty with
  | int => exact h
  | boolean => rcases h with rfl | rfl <;> exact ⟨by decide, by decide⟩
  | char => exact ⟨by have := h.1; omega, by have := h.2; omega⟩
  | long => exact absurd rfl hl
  | _ => exact absurd h (by simp [jfp])
def jcr (cl : List vw_C) (G : jGc) (a : Nat) (e : jE) (H : Heap) : Prop := match e with
  | .inl (ty, (n, g)) => jn0 G ≤ a ∧ n < 65536 ∧ (∀ j, j < n → jfp ty (g j)) ∧ H[a]? = some (arrV (jar G ty) n (fun j => jva ty (g j)))
  | .inr (.inl (ci, fs)) => jn0 G ≤ a ∧ (∀ v ∈ fs, jok v) ∧ va_at (jDD G) cl (a, .inr (ci, fs.map jtv)) H
  | .inr (.inr (ty, (n, g))) => n < 65536 ∧ ((ty = .int ∧ a = jsb G ∧ a < jn0 G ∧ H[a]? = some (jsc G) ∧ (jsc G).slots.size = n ∧ ∀ j, j < n → ∃ x, g j = .int x ∧ (jsc G).slots[j]? = some (.int x)) ∨ ((ty = .double ∨ ty = .object "HabitRegistry$State") ∧ jn0 G ≤ a ∧ H[a]? = some (arrV (jar G ty) n g)))
theorem jcr.kept {cl : List vw_C} {G : jGc} {a : Nat} {e : jE} {H H1 : Heap} (h : jcr cl G a e H) (hq : H1[a]? = H[a]?) : jcr cl G a e H1 := by
  rcases e with ⟨ty, n, g⟩ | ⟨ci, fs⟩ | ⟨ty, n, g⟩
  · exact ⟨h.1, h.2.1, h.2.2.1, hq.trans h.2.2.2⟩
  · obtain ⟨h1, h2, r, h3, cell, h4, h5⟩ := h
    exact ⟨h1, h2, r, h3, cell, hq.trans h4, h5⟩
  · refine ⟨h.1, ?_⟩
    rcases h.2 with h1 | h1
    · exact Or.inl ⟨h1.1, h1.2.1, h1.2.2.1, hq.trans h1.2.2.2.1, h1.2.2.2.2⟩
    · exact Or.inr ⟨h1.1, h1.2.1, hq.trans h1.2.2⟩
theorem jcr.lt {cl : List vw_C} {G : jGc} {a : Nat} {e : jE} {H : Heap} (h : jcr cl G a e H) : a < H.size := by
  rcases e with ⟨ty, n, g⟩ | ⟨ci, fs⟩ | ⟨ty, n, g⟩
  · exact (Array.getElem?_eq_some_iff.mp h.2.2.2).1
  · obtain ⟨h1, h2, r, h3, cell, h4, h5⟩ := h
    exact (Array.getElem?_eq_some_iff.mp h4).1
  · rcases h.2 with h1 | h1
    · exact (Array.getElem?_eq_some_iff.mp h1.2.2.2.1).1
    · exact (Array.getElem?_eq_some_iff.mp h1.2.2).1
def jHR (cl : List vw_C) (G : jGc) (w : jH) (H : Heap) : Prop := jn0 G ≤ H.size ∧ (∀ (a : Nat) (e : jE), w.1 a = some e → jcr cl G a e H) ∧ ∀ t, w.2.1 = some t → H.size = t
theorem jHR.put {cl : List vw_C} {G : jGc} {w : jH} {H H1 : Heap} (h : jHR cl G w H) {a : Nat} {e : jE} (he : jcr cl G a e H1) (hs : H1.size = H.size) (hq : ∀ q : Nat, q ≠ a → H1[q]? = H[q]?) : jHR cl G (jset w a e) H1 := by
  refine ⟨by rw [hs]; exact h.1, fun b f hb => ?_, fun t ht => by rw [hs]; exact h.2.2 t ht⟩
  have hb' : (if b = a then some e else w.1 b) = some f := hb
  split at hb'
  · rename_i e1
    subst e1
    cases hb'
    exact he
  · rename_i e1
    exact (h.2.1 b f hb').kept (hq b e1)
theorem jHR.new {cl : List vw_C} {G : jGc} {w : jH} {H H1 : Heap} (h : jHR cl G w H) {t n : Nat} {e : jE} (ht : w.2.1 = some t) (he : jcr cl G t e H1) (hs : H1.size = t + 1) (hq : ∀ q : Nat, q < t → H1[q]? = H[q]?) : jHR cl G ((fun q => if q = t then some e else w.1 q), (some (t + 1), (w.2.2.1 + 1, w.2.2.2 + n))) H1 := by
  have h0 := h.2.2 t ht
  refine ⟨by have := h.1; omega, fun b f hb => ?_, fun t' ht' => ?_⟩
  · have hb' : (if b = t then some e else w.1 b) = some f := hb
    split at hb'
    · rename_i e1
      subst e1
      cases hb'
      exact he
    · have h1 := h.2.1 b f hb'
      exact h1.kept (hq b (by have := h1.lt; omega))
  · have e2 : some (t + 1) = some t' := ht'
    cases e2
    exact hs
theorem jHR.thr {cl : List vw_C} {G : jGc} {w : jH} {H H1 : Heap} (h : jHR cl G w H) (hs : H.size ≤ H1.size) (hq : ∀ q : Nat, q < H.size → H1[q]? = H[q]?) : jHR cl G (jthr w) H1 := by
  refine ⟨by have := h.1; omega, fun b f hb => ?_, fun t' ht' => by cases ht'⟩
  have h1 := h.2.1 b f hb
  exact h1.kept (hq b h1.lt)

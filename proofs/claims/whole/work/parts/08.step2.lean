/-! ===== one step of the interpreter is one step of the machine's: the heap ===== -/
def jtys (G : jGc) : List (ClassId × FieldType) := [(jar G .int, .int), (jar G .long, .long), (jar G .boolean, .boolean), (jar G .char, .char), (jar G .double, .double), (jar G (.object "HabitRegistry$State"), .object "HabitRegistry$State")]
/-- the classes as the run's start has them -/
def jWo (cl : List vw_C) (G : jGc) (s : State) : Prop := va_K (jDD G) cl (jtys G) s ∧ s.isArrayOf (jsc G) .int ∧ (jsc G).vm ≠ .unknown
theorem jWo.moved {cl : List vw_C} {G : jGc} {u U : State} (hvm : u.vm.Alike U.vm) (h : jWo cl G u) : jWo cl G U := ⟨h.1.moved hvm, State.isArrayOf_alike hvm h.2.1, h.2.2⟩
theorem jWo.arr {cl : List vw_C} {G : jGc} {s : State} (h : jWo cl G s) {ty : FieldType} (hty : (jar G ty, ty) ∈ jtys G) : ArrOfT s (jar G ty) ty := by
  obtain ⟨k, hk⟩ := List.mem_iff_getElem?.mp hty
  exact (h.1.2 k _ hk).1
theorem jWo.ra {cl : List vw_C} {G : jGc} {s : State} (h : jWo cl G s) {ty : FieldType} (hty : (jar G ty, ty) ∈ jtys G) : va_RA s (jar G ty) ty := by
  obtain ⟨k, hk⟩ := List.mem_iff_getElem?.mp hty
  exact (h.1.2 k _ hk).2
theorem jty_int (G : jGc) : (jar G .int, .int) ∈ jtys G := List.mem_of_getElem? (i := 0) rfl
theorem jty_long (G : jGc) : (jar G .long, .long) ∈ jtys G := List.mem_of_getElem? (i := 1) rfl
theorem jty_boolean (G : jGc) : (jar G .boolean, .boolean) ∈ jtys G := List.mem_of_getElem? (i := 2) rfl
theorem jty_char (G : jGc) : (jar G .char, .char) ∈ jtys G := List.mem_of_getElem? (i := 3) rfl
theorem jty_double (G : jGc) : (jar G .double, .double) ∈ jtys G := List.mem_of_getElem? (i := 4) rfl
theorem jty_state (G : jGc) : (jar G (.object "HabitRegistry$State"), .object "HabitRegistry$State") ∈ jtys G := List.mem_of_getElem? (i := 5) rfl
theorem jknown (cA : ClassId) (n : Nat) (f : Nat → Value) : (arrV cA n f).vm ≠ .unknown := fun h => by cases h
theorem jS_put {A : Nat → Prop} {H0 H H' : Heap} {locs : List Loc} (hS : va_S A H0 H locs) {a : Nat} (ha : A a) (hs : H'.size = H.size) (hq : ∀ q : Nat, q ≠ a → H'[q]? = H[q]?) (k : Nat) : va_S A H0 H' (locs ++ [⟨a, k⟩]) :=
  ⟨by rw [hs]; exact hS.1, fun q h1 h2 => (hq q (fun e => h2 (e ▸ ha))).trans (hS.2.1 q h1 h2), fun x hx => by
    rcases List.mem_append.mp hx with h | h
    · exact hS.2.2 x h
    · rw [List.mem_singleton.mp h]
      exact ha⟩
theorem jS_new {A : Nat → Prop} {H0 H H' : Heap} {locs : List Loc} (hS : va_S A H0 H locs) (hs : H.size ≤ H'.size) (hq : ∀ q : Nat, q < H.size → H'[q]? = H[q]?) : va_S A H0 H' locs :=
  ⟨Nat.le_trans hS.1 hs, fun q h1 h2 => (hq q (Nat.lt_of_lt_of_le h1 hS.1)).trans (hS.2.1 q h1 h2), hS.2.2⟩
theorem jupd (ty : FieldType) (g : Nat → Int) (k : Nat) (x : Int) : updV (fun j => jva ty (g j)) k (jva ty x) = fun j => jva ty (jup g k x j) := by
  funext j
  unfold updV jup
  split <;> rfl
theorem jupv (g : Nat → Value) (k : Nat) (x : Value) : updV g k x = juv g k x := rfl
theorem jup_fp {ty : FieldType} {g : Nat → Int} {n k : Nat} {x : Int} (h : ∀ j, j < n → jfp ty (g j)) (hx : jfp ty x) : ∀ j, j < n → jfp ty (jup g k x j) := fun j hj => by
  unfold jup
  split
  · exact hx
  · exact h j hj
theorem jfits_fp {ty : FieldType} {x : Int} (h : jfits ty x = true) (hr : jr32 x) : jfp ty x := by
  cases ty with
  | int => exact hr
  | boolean =>
    have h' : (x == 0 || x == 1) = true := h
    simp only [Bool.or_eq_true, beq_iff_eq] at h'
    exact h'
  | char =>
    have h' : (Nat.ble 0 x.toNat && (decide (0 ≤ x) && decide (x < 65536))) = true := h
    simp only [Bool.and_eq_true, decide_eq_true_eq] at h'
    exact h'.2
  | _ => exact absurd h (by simp [jfits])
theorem jfp_fits {ty : FieldType} {x : Int} (h : jfp ty x) (hl : ty ≠ .long) : fits ty (.int (Int32.ofInt x)) = true := by
  have hr := jfp_r h hl
  cases ty with
  | int => rfl
  | boolean => rcases h with rfl | rfl <;> rfl
  | char =>
    have h1 : (0 : Int32) ≤ Int32.ofInt x := by rw [ji_0]; exact (ji_le jr0 hr).mpr h.1
    have h2 : Int32.ofInt x ≤ 65535 := by
      rw [show (65535 : Int32) = Int32.ofInt 65535 from rfl]
      exact (ji_le hr ⟨by decide, by decide⟩).mpr (by have := h.2; omega)
    show (decide (0 ≤ Int32.ofInt x) && decide (Int32.ofInt x ≤ 65535)) = true
    rw [decide_eq_true h1, decide_eq_true h2]; rfl
  | long => exact absurd rfl hl
  | _ => exact absurd h (by simp [jfp])
theorem jva_i {ty : FieldType} (hl : ty ≠ .long) (x : Int) : jva ty x = .int (Int32.ofInt x) := by
  cases ty <;> first | rfl | exact absurd rfl hl
theorem jlen32 (n : Nat) : n.toInt32 = Int32.ofInt (n : Int) := Int32.ofInt_eq_ofNat.symm
section JStep2
variable {cl : List vw_C} {G : jGc} {p : Program} {l : Launch} {e : Env} {R : Room} {s : State} {m : MethodId} {args : Array Value} {below : List Frame} {meth : Method} {c : Code} {Q : State → Prop} {c0 s0 : Nat} {z : jO × jH} {pc : Nat} {ls : jL} {st : List jV} {w : jH}
theorem jS_iald (hx : p.tables.exec = Jvm.exec) (hW : jWo cl G s) {a n : Nat} {i : Int} {g : Nat → Int} {r : List jV} (hd : decode c.code pc = .ok (.iaload, 1)) (hw : w.1 a = some (.inl (.int, (n, g)))) (h0 : 0 ≤ i) (hn : i < (n : Int)) (h : jPt cl G p l e R s m args below meth c Q c0 s0 z (pc + 1) ls (.inl (g i.toNat) :: r) w) : jPt cl G p l e R s m args below meth c Q c0 s0 z pc ls (.inl i :: jr a :: r) w := by
  refine ⟨h.1, fun arr H locs cells slots e0 e1 e2 e3 e4 e5 e6 => ?_⟩
  obtain ⟨b1, b2, b3, b4⟩ := e3.2.1 _ _ hw
  have hi : jr32 i := e2.hd
  refine W.iald hx rfl b4 (hW.arr (jty_int G) _ _) (jknown _ _ _) (by rw [arrV_size]; exact ji_in hi h0 hn) (v := jva .int (g i.toNat)) (by rw [ji_toN hi]; exact arrV_read _ _ (by omega)) rfl rfl hd ?_
  exact h.2 arr H locs cells slots e0 e1 (jSo.cons (v := .inl (g i.toNat)) (jfp_r (b3 _ (by omega)) (by decide)) e2.tl.tl) e3 e4 e5 e6
theorem jS_zald (hx : p.tables.exec = Jvm.exec) (hW : jWo cl G s) {a n : Nat} {i : Int} {g : Nat → Int} {r : List jV} (hd : decode c.code pc = .ok (.baload, 1)) (hw : w.1 a = some (.inl (.boolean, (n, g)))) (h0 : 0 ≤ i) (hn : i < (n : Int)) (h : jPt cl G p l e R s m args below meth c Q c0 s0 z (pc + 1) ls (.inl (g i.toNat) :: r) w) : jPt cl G p l e R s m args below meth c Q c0 s0 z pc ls (.inl i :: jr a :: r) w := by
  refine ⟨h.1, fun arr H locs cells slots e0 e1 e2 e3 e4 e5 e6 => ?_⟩
  obtain ⟨b1, b2, b3, b4⟩ := e3.2.1 _ _ hw
  have hi : jr32 i := e2.hd
  refine W.zald hx rfl b4 (hW.arr (jty_boolean G) _ _) (jknown _ _ _) (by rw [arrV_size]; exact ji_in hi h0 hn) (v := jva .boolean (g i.toNat)) (by rw [ji_toN hi]; exact arrV_read _ _ (by omega)) rfl rfl hd ?_
  exact h.2 arr H locs cells slots e0 e1 (jSo.cons (v := .inl (g i.toNat)) (jfp_r (b3 _ (by omega)) (by decide)) e2.tl.tl) e3 e4 e5 e6
theorem jS_cald (hx : p.tables.exec = Jvm.exec) (hW : jWo cl G s) {a n : Nat} {i : Int} {g : Nat → Int} {r : List jV} (hd : decode c.code pc = .ok (.caload, 1)) (hw : w.1 a = some (.inl (.char, (n, g)))) (h0 : 0 ≤ i) (hn : i < (n : Int)) (h : jPt cl G p l e R s m args below meth c Q c0 s0 z (pc + 1) ls (.inl (g i.toNat) :: r) w) : jPt cl G p l e R s m args below meth c Q c0 s0 z pc ls (.inl i :: jr a :: r) w := by
  refine ⟨h.1, fun arr H locs cells slots e0 e1 e2 e3 e4 e5 e6 => ?_⟩
  obtain ⟨b1, b2, b3, b4⟩ := e3.2.1 _ _ hw
  have hi : jr32 i := e2.hd
  refine W.cald hx rfl b4 (hW.arr (jty_char G) _ _) (jknown _ _ _) (by rw [arrV_size]; exact ji_in hi h0 hn) (v := jva .char (g i.toNat)) (by rw [ji_toN hi]; exact arrV_read _ _ (by omega)) rfl rfl hd ?_
  exact h.2 arr H locs cells slots e0 e1 (jSo.cons (v := .inl (g i.toNat)) (jfp_r (b3 _ (by omega)) (by decide)) e2.tl.tl) e3 e4 e5 e6
theorem jS_lald (hx : p.tables.exec = Jvm.exec) (hW : jWo cl G s) {a n : Nat} {i : Int} {g : Nat → Int} {r : List jV} (hd : decode c.code pc = .ok (.laload, 1)) (hw : w.1 a = some (.inl (.long, (n, g)))) (h0 : 0 ≤ i) (hn : i < (n : Int)) (h : jPt cl G p l e R s m args below meth c Q c0 s0 z (pc + 1) ls (.inr (.inl (g i.toNat)) :: r) w) : jPt cl G p l e R s m args below meth c Q c0 s0 z pc ls (.inl i :: jr a :: r) w := by
  refine ⟨h.1, fun arr H locs cells slots e0 e1 e2 e3 e4 e5 e6 => ?_⟩
  obtain ⟨b1, b2, b3, b4⟩ := e3.2.1 _ _ hw
  have hi : jr32 i := e2.hd
  refine W.lald hx rfl b4 (hW.arr (jty_long G) _ _) (jknown _ _ _) (by rw [arrV_size]; exact ji_in hi h0 hn) (v := jva .long (g i.toNat)) (by rw [ji_toN hi]; exact arrV_read _ _ (by omega)) rfl rfl hd ?_
  exact h.2 arr H locs cells slots e0 e1 (jSo.cons (v := .inr (.inl (g i.toNat))) (b3 _ (by omega)) e2.tl.tl) e3 e4 e5 e6
theorem jS_ialdS (hx : p.tables.exec = Jvm.exec) (hW : jWo cl G s) {a n : Nat} {i : Int} {x : Int32} {g : Nat → Value} {r : List jV} (hd : decode c.code pc = .ok (.iaload, 1)) (hw : w.1 a = some (.inr (.inr (.int, (n, g))))) (h0 : 0 ≤ i) (hn : i < (n : Int)) (hg : g i.toNat = .int x) (h : jPt cl G p l e R s m args below meth c Q c0 s0 z (pc + 1) ls (.inl x.toInt :: r) w) : jPt cl G p l e R s m args below meth c Q c0 s0 z pc ls (.inl i :: jr a :: r) w := by
  refine ⟨h.1, fun arr H locs cells slots e0 e1 e2 e3 e4 e5 e6 => ?_⟩
  obtain ⟨b1, b2⟩ := e3.2.1 _ _ hw
  have hi : jr32 i := e2.hd
  rcases b2 with ⟨-, -, -, b3, b4, b5⟩ | ⟨hb, -⟩
  · obtain ⟨y, y1, y2⟩ := b5 i.toNat (by omega)
    rw [hg] at y1
    cases y1
    refine W.iald hx rfl b3 hW.2.1 hW.2.2 (by rw [b4]; exact ji_in hi h0 hn) (v := .int x) (by rw [ji_toN hi]; exact y2) rfl rfl hd ?_
    have hk := h.2 arr H locs cells slots e0 e1 (jSo.cons (v := .inl x.toInt) (ji_r x) e2.tl.tl) e3 e4 e5 e6
    rw [List.map_cons, show jtv (.inl x.toInt) = .int x from congrArg Value.int (ji_of x)] at hk
    exact hk
  · rcases hb with hb | hb <;> cases hb
theorem jS_dald (hx : p.tables.exec = Jvm.exec) (hW : jWo cl G s) {a n : Nat} {i : Int} {x : UInt64} {g : Nat → Value} {r : List jV} (hd : decode c.code pc = .ok (.daload, 1)) (hw : w.1 a = some (.inr (.inr (.double, (n, g))))) (h0 : 0 ≤ i) (hn : i < (n : Int)) (hg : g i.toNat = .double x) (h : jPt cl G p l e R s m args below meth c Q c0 s0 z (pc + 1) ls (.inr (.inr (.double x)) :: r) w) : jPt cl G p l e R s m args below meth c Q c0 s0 z pc ls (.inl i :: jr a :: r) w := by
  refine ⟨h.1, fun arr H locs cells slots e0 e1 e2 e3 e4 e5 e6 => ?_⟩
  obtain ⟨b1, b2⟩ := e3.2.1 _ _ hw
  have hi : jr32 i := e2.hd
  rcases b2 with ⟨hb, -⟩ | ⟨-, -, b3⟩
  · cases hb
  · refine W.dald hx rfl b3 (hW.arr (jty_double G) _ _) (jknown _ _ _) (by rw [arrV_size]; exact ji_in hi h0 hn) (v := .double x) (by rw [ji_toN hi, arrV_read _ _ (by omega), hg]) rfl rfl hd ?_
    exact h.2 arr H locs cells slots e0 e1 (jSo.cons (v := .inr (.inr (.double x))) trivial e2.tl.tl) e3 e4 e5 e6
theorem jS_aald (hx : p.tables.exec = Jvm.exec) (hW : jWo cl G s) {a n x : Nat} {i : Int} {g : Nat → Value} {r : List jV} (hd : decode c.code pc = .ok (.aaload, 1)) (hw : w.1 a = some (.inr (.inr (.object "HabitRegistry$State", (n, g))))) (h0 : 0 ≤ i) (hn : i < (n : Int)) (hg : g i.toNat = .ref x) (h : jPt cl G p l e R s m args below meth c Q c0 s0 z (pc + 1) ls (jr x :: r) w) : jPt cl G p l e R s m args below meth c Q c0 s0 z pc ls (.inl i :: jr a :: r) w := by
  refine ⟨h.1, fun arr H locs cells slots e0 e1 e2 e3 e4 e5 e6 => ?_⟩
  obtain ⟨b1, b2⟩ := e3.2.1 _ _ hw
  have hi : jr32 i := e2.hd
  rcases b2 with ⟨hb, -⟩ | ⟨-, -, b3⟩
  · cases hb
  · refine W.aald hx rfl b3 (hW.arr (jty_state G) _ _) rfl (jknown _ _ _) (by rw [arrV_size]; exact ji_in hi h0 hn) (v := .ref x) (by rw [ji_toN hi, arrV_read _ _ (by omega), hg]) rfl rfl hd ?_
    exact h.2 arr H locs cells slots e0 e1 (jSo.cons (v := jr x) trivial e2.tl.tl) e3 e4 e5 e6
theorem jS_iast (hx : p.tables.exec = Jvm.exec) (hW : jWo cl G s) {a n : Nat} {i x : Int} {g : Nat → Int} {r : List jV} (hd : decode c.code pc = .ok (.iastore, 1)) (hw : w.1 a = some (.inl (.int, (n, g)))) (h0 : 0 ≤ i) (hn : i < (n : Int)) (hfx : jfits .int x = true) (h : jPt cl G p l e R s m args below meth c Q c0 s0 z (pc + 1) ls r (jset w a (.inl (.int, (n, jup g i.toNat x))))) : jPt cl G p l e R s m args below meth c Q c0 s0 z pc ls (.inl x :: .inl i :: jr a :: r) w := by
  refine ⟨h.1, fun arr H locs cells slots e0 e1 e2 e3 e4 e5 e6 => ?_⟩
  obtain ⟨b1, b2, b3, b4⟩ := e3.2.1 _ _ hw
  have hi : jr32 i := e2.tl.hd
  have hf := jfits_fp hfx e2.hd
  refine W.iast hx rfl b4 (hW.arr (jty_int G) _ _) (jknown _ _ _) (by rw [arrV_size]; exact ji_in hi h0 hn) rfl rfl hd fun H' k1 k2 k3 => ?_
  rw [ji_toN hi, arrV_store, show Value.int (Int32.ofInt x) = jva .int x from rfl, jupd] at k1
  exact h.2 arr H' _ cells slots e0 e1 e2.tl.tl.tl (e3.put ⟨b1, b2, jup_fp b3 hf, k1⟩ k2 k3) (jS_put e4 b1 k2 k3 _) e5 e6
theorem jS_zast (hx : p.tables.exec = Jvm.exec) (hW : jWo cl G s) {a n : Nat} {i x : Int} {g : Nat → Int} {r : List jV} (hd : decode c.code pc = .ok (.bastore, 1)) (hw : w.1 a = some (.inl (.boolean, (n, g)))) (h0 : 0 ≤ i) (hn : i < (n : Int)) (hfx : jfits .boolean x = true) (h : jPt cl G p l e R s m args below meth c Q c0 s0 z (pc + 1) ls r (jset w a (.inl (.boolean, (n, jup g i.toNat x))))) : jPt cl G p l e R s m args below meth c Q c0 s0 z pc ls (.inl x :: .inl i :: jr a :: r) w := by
  refine ⟨h.1, fun arr H locs cells slots e0 e1 e2 e3 e4 e5 e6 => ?_⟩
  obtain ⟨b1, b2, b3, b4⟩ := e3.2.1 _ _ hw
  have hi : jr32 i := e2.tl.hd
  have hf := jfits_fp hfx e2.hd
  refine W.zast hx rfl b4 (hW.arr (jty_boolean G) _ _) (jknown _ _ _) (by rw [arrV_size]; exact ji_in hi h0 hn) rfl rfl hd fun H' k1 k2 k3 => ?_
  rw [narrow_of_fits (jfp_fits (ty := .boolean) hf (by decide)), ji_toN hi, arrV_store, show Value.int (Int32.ofInt x) = jva .boolean x from rfl, jupd] at k1
  exact h.2 arr H' _ cells slots e0 e1 e2.tl.tl.tl (e3.put ⟨b1, b2, jup_fp b3 hf, k1⟩ k2 k3) (jS_put e4 b1 k2 k3 _) e5 e6
theorem jS_cast (hx : p.tables.exec = Jvm.exec) (hW : jWo cl G s) {a n : Nat} {i x : Int} {g : Nat → Int} {r : List jV} (hd : decode c.code pc = .ok (.castore, 1)) (hw : w.1 a = some (.inl (.char, (n, g)))) (h0 : 0 ≤ i) (hn : i < (n : Int)) (hfx : jfits .char x = true) (h : jPt cl G p l e R s m args below meth c Q c0 s0 z (pc + 1) ls r (jset w a (.inl (.char, (n, jup g i.toNat x))))) : jPt cl G p l e R s m args below meth c Q c0 s0 z pc ls (.inl x :: .inl i :: jr a :: r) w := by
  refine ⟨h.1, fun arr H locs cells slots e0 e1 e2 e3 e4 e5 e6 => ?_⟩
  obtain ⟨b1, b2, b3, b4⟩ := e3.2.1 _ _ hw
  have hi : jr32 i := e2.tl.hd
  have hf := jfits_fp hfx e2.hd
  refine W.cast hx rfl b4 (hW.arr (jty_char G) _ _) (jknown _ _ _) (by rw [arrV_size]; exact ji_in hi h0 hn) rfl rfl hd fun H' k1 k2 k3 => ?_
  rw [narrow_of_fits (jfp_fits (ty := .char) hf (by decide)), ji_toN hi, arrV_store, show Value.int (Int32.ofInt x) = jva .char x from rfl, jupd] at k1
  exact h.2 arr H' _ cells slots e0 e1 e2.tl.tl.tl (e3.put ⟨b1, b2, jup_fp b3 hf, k1⟩ k2 k3) (jS_put e4 b1 k2 k3 _) e5 e6
theorem jS_last (hx : p.tables.exec = Jvm.exec) (hW : jWo cl G s) {a n : Nat} {i x : Int} {g : Nat → Int} {r : List jV} (hd : decode c.code pc = .ok (.lastore, 1)) (hw : w.1 a = some (.inl (.long, (n, g)))) (h0 : 0 ≤ i) (hn : i < (n : Int)) (h : jPt cl G p l e R s m args below meth c Q c0 s0 z (pc + 1) ls r (jset w a (.inl (.long, (n, jup g i.toNat x))))) : jPt cl G p l e R s m args below meth c Q c0 s0 z pc ls (.inr (.inl x) :: .inl i :: jr a :: r) w := by
  refine ⟨h.1, fun arr H locs cells slots e0 e1 e2 e3 e4 e5 e6 => ?_⟩
  obtain ⟨b1, b2, b3, b4⟩ := e3.2.1 _ _ hw
  have hi : jr32 i := e2.tl.hd
  refine W.last hx rfl b4 (hW.arr (jty_long G) _ _) (jknown _ _ _) (by rw [arrV_size]; exact ji_in hi h0 hn) rfl rfl hd fun H' k1 k2 k3 => ?_
  rw [ji_toN hi, arrV_store, show Value.long (Int64.ofInt x) = jva .long x from rfl, jupd] at k1
  exact h.2 arr H' _ cells slots e0 e1 e2.tl.tl.tl (e3.put ⟨b1, b2, jup_fp b3 (e2.hd : jr64 x), k1⟩ k2 k3) (jS_put e4 b1 k2 k3 _) e5 e6
theorem jS_dast (hx : p.tables.exec = Jvm.exec) (hW : jWo cl G s) {a n : Nat} {i : Int} {x : UInt64} {g : Nat → Value} {r : List jV} (hd : decode c.code pc = .ok (.dastore, 1)) (hw : w.1 a = some (.inr (.inr (.double, (n, g))))) (h0 : 0 ≤ i) (hn : i < (n : Int)) (h : jPt cl G p l e R s m args below meth c Q c0 s0 z (pc + 1) ls r (jset w a (.inr (.inr (.double, (n, juv g i.toNat (.double x))))))) : jPt cl G p l e R s m args below meth c Q c0 s0 z pc ls (.inr (.inr (.double x)) :: .inl i :: jr a :: r) w := by
  refine ⟨h.1, fun arr H locs cells slots e0 e1 e2 e3 e4 e5 e6 => ?_⟩
  obtain ⟨b1, b2⟩ := e3.2.1 _ _ hw
  have hi : jr32 i := e2.tl.hd
  rcases b2 with ⟨hb, -⟩ | ⟨b0, b2, b3⟩
  · cases hb
  · refine W.dast hx rfl b3 (hW.arr (jty_double G) _ _) (jknown _ _ _) (by rw [arrV_size]; exact ji_in hi h0 hn) rfl rfl hd fun H' k1 k2 k3 => ?_
    rw [ji_toN hi, arrV_store, jupv] at k1
    exact h.2 arr H' _ cells slots e0 e1 e2.tl.tl.tl (e3.put ⟨b1, Or.inr ⟨b0, b2, k1⟩⟩ k2 k3) (jS_put e4 b2 k2 k3 _) e5 e6
theorem jS_alen (hx : p.tables.exec = Jvm.exec) (hW : jWo cl G s) {a n : Nat} {ty : FieldType} {g : Nat → Int} {r : List jV} (hd : decode c.code pc = .ok (.arraylength, 1)) (hw : w.1 a = some (.inl (ty, (n, g)))) (hty : (jar G ty, ty) ∈ jtys G) (h : jPt cl G p l e R s m args below meth c Q c0 s0 z (pc + 1) ls (.inl (n : Int) :: r) w) : jPt cl G p l e R s m args below meth c Q c0 s0 z pc ls (jr a :: r) w := by
  refine ⟨h.1, fun arr H locs cells slots e0 e1 e2 e3 e4 e5 e6 => ?_⟩
  obtain ⟨b1, b2, b3, b4⟩ := e3.2.1 _ _ hw
  refine W.alen (n := Int32.ofInt (n : Int)) hx rfl b4 (hW.arr hty _ _) (by rw [arrV_size, jlen32]) rfl rfl hd ?_
  exact h.2 arr H locs cells slots e0 e1 (jSo.cons (v := .inl (n : Int)) ⟨by omega, by omega⟩ e2.tl) e3 e4 e5 e6
theorem jS_alenQ (hx : p.tables.exec = Jvm.exec) (hW : jWo cl G s) {a n : Nat} {ty : FieldType} {g : Nat → Value} {r : List jV} (hd : decode c.code pc = .ok (.arraylength, 1)) (hw : w.1 a = some (.inr (.inr (ty, (n, g))))) (h : jPt cl G p l e R s m args below meth c Q c0 s0 z (pc + 1) ls (.inl (n : Int) :: r) w) : jPt cl G p l e R s m args below meth c Q c0 s0 z pc ls (jr a :: r) w := by
  refine ⟨h.1, fun arr H locs cells slots e0 e1 e2 e3 e4 e5 e6 => ?_⟩
  obtain ⟨b1, b2⟩ := e3.2.1 _ _ hw
  have hk := h.2 arr H locs cells slots e0 e1 (jSo.cons (v := .inl (n : Int)) ⟨by omega, by omega⟩ e2.tl) e3 e4 e5 e6
  rcases b2 with ⟨-, -, -, b3, b4, -⟩ | ⟨hb, -, b3⟩
  · exact W.alen (n := Int32.ofInt (n : Int)) hx rfl b3 hW.2.1 (by rw [b4, jlen32]) rfl rfl hd hk
  · rcases hb with rfl | rfl
    · exact W.alen (n := Int32.ofInt (n : Int)) hx rfl b3 (hW.arr (jty_double G) _ _) (by rw [arrV_size, jlen32]) rfl rfl hd hk
    · exact W.alen (n := Int32.ofInt (n : Int)) hx rfl b3 (hW.arr (jty_state G) _ _) (by rw [arrV_size, jlen32]) rfl rfl hd hk
/-- what a reference to a field stands for -/
def jFl (cl : List vw_C) (args : Array Value) (s : State) (own : String) (idx ci k : Nat) (ty : FieldType) : Prop := ∃ (C : String) (T : u_T) (N : Nat), cl[ci]? = some (C, T, N) ∧ k < N ∧ parseFieldDescriptor (T k).2.2.1 = some ty ∧ (∀ w ∈ u_ws C T N, w.before args s = true) ∧
  ((Cond.fieldLink own idx (T k).1 (T k).2.1 (T k).2.2.1).before args s = true ∨ ∃ host, (Cond.fieldLinkNest own idx (T k).1 (T k).2.1 (T k).2.2.1 host).before args s = true)
/-- what a store to it needs besides -/
def jFp (cl : List vw_C) (meth : Method) (own : String) (idx ci k : Nat) (args : Array Value) (s : State) : Prop := ∀ (C : String) (T : u_T) (N : Nat), cl[ci]? = some (C, T, N) →
  (∃ ty0 : Nat → FieldType, ∀ j, j < N → parseFieldDescriptor (T j).2.2.1 = some (ty0 j)) ∧ (∀ a, a < N → ∀ b, b < N → a ≠ b → (T a).2.1 ≠ (T b).2.1) ∧
  ((T k).2.2.2 = false ∨ ((T k).2.2.2 = true ∧ meth.name = "<init>" ∧ (T k).1 = own ∧ (Cond.fieldLink own idx (T k).1 (T k).2.1 (T k).2.2.1).before args s = true))
theorem jS_get (hx : p.tables.exec = Jvm.exec) (hW : jWo cl G s) {own : String} (hown : s.vm.findClass own = some m.cls) {a idx ci k : Nat} {ty : FieldType} {fs : List jV} {v : jV} {r : List jV} (hF : jFl cl args s own idx ci k ty) (hd : decode c.code pc = .ok (.getfield idx, 3)) (hw : w.1 a = some (.inr (.inl (ci, fs)))) (hv : fs[k]? = some v) (h : jPt cl G p l e R s m args below meth c Q c0 s0 z (pc + 3) ls (v :: r) w) : jPt cl G p l e R s m args below meth c Q c0 s0 z pc ls (jr a :: r) w := by
  refine ⟨h.1, fun arr H locs cells slots e0 e1 e2 e3 e4 e5 e6 => ?_⟩
  obtain ⟨b1, b2, b3⟩ := e3.2.1 _ _ hw
  obtain ⟨C, T, N, f1, f2, f3, f4, f5⟩ := hF
  have hP : va_P (jDD G) cl [(a, .inr (ci, fs.map jtv))] H := fun j q hq => by
    cases j with
    | zero => cases hq; exact b3
    | succ j => cases hq
  have hk := h.2 arr H locs cells slots e0 e1 (jSo.cons (b2 v (List.mem_of_getElem? hv)) e2.tl) e3 e4 e5 e6
  have hv' : (fs.map jtv)[k]? = some (jtv v) := by rw [List.getElem?_map, hv]; rfl
  rcases f5 with f5 | ⟨host, f5⟩
  · exact va_get hx rfl f4 (fun _ hw => hw) hown hW.1 hP 0 rfl f1 k f2 f5 (fun _ hh => hh) hv' hd hk
  · exact va_getN hx rfl f4 (fun _ hw => hw) hown hW.1 hP 0 rfl f1 k f2 f5 (fun _ hh => hh) hv' hd hk
theorem jsv_fits {ty : FieldType} {v : jV} (h : jsv ty v = true) (hv : jok v) : fits ty (jtv v) = true := by
  rcases v with x | x | v
  · have h' : jfits ty x = true := h
    refine jfp_fits (jfits_fp h' hv) ?_
    rintro rfl
    exact absurd h' (by simp [jfits])
  · exact absurd h (by simp [jsv])
  · cases v with
    | ref a => cases ty <;> first | rfl | exact absurd h (by simp [jsv])
    | _ => exact absurd h (by simp [jsv])
theorem jS_putf (hx : p.tables.exec = Jvm.exec) (hW : jWo cl G s) {own : String} (hown : s.vm.findClass own = some m.cls) {a idx ci k : Nat} {ty : FieldType} {fs : List jV} {v : jV} {r : List jV} (hF : jFl cl args s own idx ci k ty) (hFp : jFp cl meth own idx ci k args s) (hd : decode c.code pc = .ok (.putfield idx, 3)) (hw : w.1 a = some (.inr (.inl (ci, fs)))) (hl : k < fs.length) (hv : jsv ty v = true) (h : jPt cl G p l e R s m args below meth c Q c0 s0 z (pc + 3) ls r (jset w a (.inr (.inl (ci, fs.set k v))))) : jPt cl G p l e R s m args below meth c Q c0 s0 z pc ls (v :: jr a :: r) w := by
  refine ⟨h.1, fun arr H locs cells slots e0 e1 e2 e3 e4 e5 e6 => ?_⟩
  obtain ⟨b1, b2, b3⟩ := e3.2.1 _ _ hw
  obtain ⟨C, T, N, f1, f2, f3, f4, f5⟩ := hF
  obtain ⟨⟨ty0, g1⟩, g2, g3⟩ := hFp C T N f1
  have hap := va_apart (own := own) f4 (fun _ hw => hw) ty0 g1 g2 hW.1 f1
  obtain ⟨q, h1, cell, q1, q2, q3, q4⟩ := b3
  have hr : q = (C, T, N) := Option.some.inj (h1.symm.trans f1)
  subst hr
  obtain ⟨hS, hfc, kC, hkC, hkind⟩ := hW.1.1 ci _ f1
  obtain ⟨cf, kf, fi, f, hi, hsl⟩ := hS k f2
  have hfit := jsv_fits hv e2.hd
  have hn := narrow_of_fits hfit
  have hst := (u_facts hfc hkC (u_lays f4 (fun _ hw => hw) f2) hi).1
  have fin : ∀ (H' : Heap) (sl : Nat), H'[a]? = some (cell.setSlot ((jDD G).2 ci k) (jtv v)) → H'.size = H.size → (∀ q : Nat, q ≠ a → H'[q]? = H[q]?) → W p l e R s m args below meth c H' (locs ++ [⟨a, sl⟩]) cells slots Q (F0 m (pc + 3) arr (r.map jtv)) := fun H' sl k1 k2 k3 => by
    refine h.2 arr H' _ cells slots e0 e1 e2.tl.tl (e3.put ⟨b1, ?_, ?_⟩ k2 k3) (jS_put e4 b1 k2 k3 _) e5 e6
    · intro u hu
      rcases List.mem_or_eq_of_mem_set hu with hu | rfl
      · exact b2 u hu
      · exact e2.hd
    · refine ⟨_, f1, t_OB.to (V := updV (vp_V (fs.map jtv)) k (jtv v)) ⟨_, k1, q2, q3, t_set q4 hap f2 (jtv v)⟩ (fun j _ => ?_)⟩
      rw [vp_updV_set (by rw [List.length_map]; exact hl), List.map_set]
  have hlay := f4 _ (u_in_lay f2)
  unfold u_lay at hlay
  rcases g3 with g3 | ⟨g3, g4, g5, g6⟩
  · rw [if_neg (by rw [g3]; decide)] at hlay
    have h6 := u_store hfc hkC hkind hlay hi f3 hn hfit
    rcases f5 with f5 | ⟨host, f5⟩
    · refine W.putK hx rfl (f := f) ⟨hown, f5, ⟨_, _, _, hi⟩, hst⟩ (by rw [q2]; exact h6) q1 q3 (by rw [hsl]; exact k2_hasslot (q4 k f2)) rfl rfl hd fun H' k1 k2 k3 => ?_
      rw [hsl] at k1
      exact fin H' _ k1 k2 k3
    · refine va_WputK hx rfl (f := f) hown f5 hi hst (by rw [q2]; exact h6) q1 q3 (by rw [hsl]; exact k2_hasslot (q4 k f2)) rfl rfl hd fun H' k1 k2 k3 => ?_
      rw [hsl] at k1
      exact fin H' _ k1 k2 k3
  · rw [if_pos g3] at hlay
    have hcf : m.cls = cf := by
      obtain ⟨_, _, c', _, _, _, -, -, hf', -, -, -, hown2, -⟩ := Cond.laysFinal_spec hlay
      have e1 : c' = cf := by have := hi.symm.trans hf'; simp at this; exact this.1.symm
      rw [g5] at hown2
      rw [← e1]; exact Option.some.inj (hown.symm.trans hown2)
    have h6 := u_fits hfc hkC hkind (Or.inr hlay) hi f3 hn hfit
    refine W.putFinK hx rfl hown g6 hi hst hcf g4 (by rw [q2]; exact h6) q1 q3 (by rw [hsl]; exact k2_hasslot (q4 k f2)) rfl rfl hd fun H' k1 k2 k3 => ?_
    rw [hsl] at k1
    exact fin H' _ k1 k2 k3
end JStep2

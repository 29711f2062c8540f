/-! ===== one step of the interpreter is one step of the machine's: what stays off the heap ===== -/
/-- from this point the machine reaches Q, and the counters only grow -/
def jPt (cl : List vw_C) (G : jGc) (p : Program) (l : Launch) (e : Env) (R : Room) (s : State) (m : MethodId) (args : Array Value) (below : List Frame) (meth : Method) (c : Code) (Q : State → Prop) (c0 s0 : Nat) (z : jO × jH) (pc : Nat) (ls : jL) (st : List jV) (w : jH) : Prop :=
  (w.2.2.1 ≤ z.2.2.2.1 ∧ w.2.2.2 ≤ z.2.2.2.2) ∧ ∀ (arr : Array Slot) (H : Heap) (locs : List Loc) (cells slots : Nat), ls.length = c.maxLocals → jLo arr ls → jSo st → jHR cl G w H → va_S (jA G) s.heap H locs → w.2.2.1 = c0 + cells → w.2.2.2 = s0 + slots →
    W p l e R s m args below meth c H locs cells slots Q (F0 m pc arr (st.map jtv))
def jtk (pc : Nat) (i : Instr) : Bool := match i with
  | .goto off => decide (0 ≤ (pc : Int) + off)
  | .ifCond _ off => decide (0 ≤ (pc : Int) + off)
  | .if_icmp _ off => decide (0 ≤ (pc : Int) + off)
  | .ifnonnull off => decide (0 ≤ (pc : Int) + off)
  | .tableswitch d _ _ offs => decide (0 ≤ (pc : Int) + d) && offs.toList.all fun o => decide (0 ≤ (pc : Int) + o)
  | .lookupswitch d ps => (decide (0 ≤ (pc : Int) + d) && ps.toList.all fun q => decide (0 ≤ (pc : Int) + q.2)) && (ps.toList.zip (ps.toList.drop 1)).all (fun (a, next) => a.1 < next.1)
  | .newarray aty => (match aty with | .int => true | .char => true | .boolean => true | .long => true | .double => true | _ => false)
  | _ => true
theorem jtgt_eq {pc : Nat} {off : Int} (h : 0 ≤ (pc : Int) + off) : (pc : Int) + off = (jtgt pc off : Int) := by
  unfold jtgt
  omega
theorem jr0 : jr32 0 := ⟨by decide, by decide⟩
section JStep1
variable {cl : List vw_C} {G : jGc} {p : Program} {l : Launch} {e : Env} {R : Room} {s : State} {m : MethodId} {args : Array Value} {below : List Frame} {meth : Method} {c : Code} {Q : State → Prop} {c0 s0 : Nat} {z : jO × jH} {pc : Nat} {ls : jL} {st : List jV} {w : jH}
theorem jPt.step {pc' : Nat} {st' : List jV} (h : jPt cl G p l e R s m args below meth c Q c0 s0 z pc' ls st' w) (hs : jSo st → jSo st')
    (k : ∀ (arr : Array Slot) (H : Heap) (locs : List Loc) (cells slots : Nat), jLo arr ls → jSo st → W p l e R s m args below meth c H locs cells slots Q (F0 m pc' arr (st'.map jtv)) → W p l e R s m args below meth c H locs cells slots Q (F0 m pc arr (st.map jtv))) : jPt cl G p l e R s m args below meth c Q c0 s0 z pc ls st w :=
  ⟨h.1, fun arr H locs cells slots h0 h1 h2 h3 h4 h5 h6 => k arr H locs cells slots h1 h2 (h.2 arr H locs cells slots h0 h1 (hs h2) h3 h4 h5 h6)⟩
theorem jPt.set1 {pc' i : Nat} {v : jV} {r : List jV} (h : jPt cl G p l e R s m args below meth c Q c0 s0 z pc' (ls.set i (some v)) r w) (hi : i < ls.length) (h8 : i ≠ 8) (hc : jcat v ≠ 2)
    (k : ∀ (arr : Array Slot) (H : Heap) (locs : List Loc) (cells slots : Nat), lv_has arr ls.length (jlv ls) → (∀ ls' : Array Slot, lv_has ls' ls.length ((i, jtv v) :: (jlv ls).filter (fun q => !(q.1 == i) && !(q.1 + 1 == i && q.2.category == 2))) → W p l e R s m args below meth c H locs cells slots Q (F0 m pc' ls' (r.map jtv))) → W p l e R s m args below meth c H locs cells slots Q (F0 m pc arr ((v :: r).map jtv))) : jPt cl G p l e R s m args below meth c Q c0 s0 z pc ls (v :: r) w :=
  ⟨h.1, fun arr H locs cells slots h0 h1 h2 h3 h4 h5 h6 => k arr H locs cells slots h1.has fun ls' h' => h.2 ls' H locs cells slots (by rw [List.length_set]; exact h0) (h1.set1 hi h8 h2.hd hc h') h2.tl h3 h4 h5 h6⟩
theorem jPt.set2 {pc' i : Nat} {v : jV} {r : List jV} (h : jPt cl G p l e R s m args below meth c Q c0 s0 z pc' ((ls.set 7 (some v)).set 8 none) r w) (hi : i = 7) (h8 : 8 < ls.length)
    (k : ∀ (arr : Array Slot) (H : Heap) (locs : List Loc) (cells slots : Nat), lv_has arr ls.length (jlv ls) → (∀ ls' : Array Slot, lv_has ls' ls.length ((i, jtv v) :: (jlv ls).filter (fun q => !(q.1 == i) && (!(q.1 == i + 1) && !(q.1 + 1 == i && q.2.category == 2)))) → W p l e R s m args below meth c H locs cells slots Q (F0 m pc' ls' (r.map jtv))) → W p l e R s m args below meth c H locs cells slots Q (F0 m pc arr ((v :: r).map jtv))) : jPt cl G p l e R s m args below meth c Q c0 s0 z pc ls (v :: r) w :=
  ⟨h.1, fun arr H locs cells slots h0 h1 h2 h3 h4 h5 h6 => k arr H locs cells slots h1.has fun ls' h' => h.2 ls' H locs cells slots (by rw [List.length_set, List.length_set]; exact h0) (h1.set2 hi h8 h2.hd h') h2.tl h3 h4 h5 h6⟩
theorem jS_aload_n (hx : p.tables.exec = Jvm.exec) {k : Fin 4} {x : Nat} (hd : decode c.code pc = .ok (.aload_n k, 1)) (hl : ls[k.val]? = some (some (jr x))) (h : jPt cl G p l e R s m args below meth c Q c0 s0 z (pc + 1) ls (jr x :: st) w) : jPt cl G p l e R s m args below meth c Q c0 s0 z pc ls st w := by
  skip
  refine ⟨h.1, fun arr H locs cells slots h0 h1 h2 h3 h4 h5 h6 => ?_⟩
  exact lv_aload_n hx rfl hd rfl (h1.get hl) (h.2 arr H locs cells slots h0 h1 (h2.cons (h1.ok hl)) h3 h4 h5 h6)
theorem jS_aload (hx : p.tables.exec = Jvm.exec) {k : Nat} {x : Nat} (hd : decode c.code pc = .ok (.aload k, 2)) (hl : ls[k]? = some (some (jr x))) (h : jPt cl G p l e R s m args below meth c Q c0 s0 z (pc + 2) ls (jr x :: st) w) : jPt cl G p l e R s m args below meth c Q c0 s0 z pc ls st w := by
  skip
  refine ⟨h.1, fun arr H locs cells slots h0 h1 h2 h3 h4 h5 h6 => ?_⟩
  exact lv_aload hx rfl hd (h1.get hl) (h.2 arr H locs cells slots h0 h1 (h2.cons (h1.ok hl)) h3 h4 h5 h6)
theorem jS_iload_n (hx : p.tables.exec = Jvm.exec) {k : Fin 4} {x : Int} (hd : decode c.code pc = .ok (.iload_n k, 1)) (hl : ls[k.val]? = some (some (.inl x))) (h : jPt cl G p l e R s m args below meth c Q c0 s0 z (pc + 1) ls (.inl x :: st) w) : jPt cl G p l e R s m args below meth c Q c0 s0 z pc ls st w := by
  skip
  refine ⟨h.1, fun arr H locs cells slots h0 h1 h2 h3 h4 h5 h6 => ?_⟩
  exact lv_iload_n hx rfl hd rfl (h1.get hl) (h.2 arr H locs cells slots h0 h1 (h2.cons (h1.ok hl)) h3 h4 h5 h6)
theorem jS_iload (hx : p.tables.exec = Jvm.exec) {k : Nat} {x : Int} (hd : decode c.code pc = .ok (.iload k, 2)) (hl : ls[k]? = some (some (.inl x))) (h : jPt cl G p l e R s m args below meth c Q c0 s0 z (pc + 2) ls (.inl x :: st) w) : jPt cl G p l e R s m args below meth c Q c0 s0 z pc ls st w := by
  skip
  refine ⟨h.1, fun arr H locs cells slots h0 h1 h2 h3 h4 h5 h6 => ?_⟩
  exact lv_iload hx rfl hd (h1.get hl) (h.2 arr H locs cells slots h0 h1 (h2.cons (h1.ok hl)) h3 h4 h5 h6)
theorem jS_fload (hx : p.tables.exec = Jvm.exec) {k : Nat} {x : UInt32} (hd : decode c.code pc = .ok (.fload k, 2)) (hl : ls[k]? = some (some (.inr (.inr (.float x))))) (h : jPt cl G p l e R s m args below meth c Q c0 s0 z (pc + 2) ls (.inr (.inr (.float x)) :: st) w) : jPt cl G p l e R s m args below meth c Q c0 s0 z pc ls st w := by
  skip
  refine ⟨h.1, fun arr H locs cells slots h0 h1 h2 h3 h4 h5 h6 => ?_⟩
  exact lv_fload hx rfl hd (h1.get hl) (h.2 arr H locs cells slots h0 h1 (h2.cons (h1.ok hl)) h3 h4 h5 h6)
theorem jS_dload (hx : p.tables.exec = Jvm.exec) {k : Nat} {x : UInt64} (hd : decode c.code pc = .ok (.dload k, 2)) (hl : ls[k]? = some (some (.inr (.inr (.double x))))) (h : jPt cl G p l e R s m args below meth c Q c0 s0 z (pc + 2) ls (.inr (.inr (.double x)) :: st) w) : jPt cl G p l e R s m args below meth c Q c0 s0 z pc ls st w := by
  skip
  refine ⟨h.1, fun arr H locs cells slots h0 h1 h2 h3 h4 h5 h6 => ?_⟩
  exact lv_dload hx rfl hd (h1.get hl) (h.2 arr H locs cells slots h0 h1 (h2.cons (h1.ok hl)) h3 h4 h5 h6)
theorem jS_istore_n (hx : p.tables.exec = Jvm.exec) {k : Fin 4} {x : Int} {r : List jV} (hd : decode c.code pc = .ok (.istore_n k, 1)) (hi : k.val < ls.length) (h8 : k.val ≠ 8) (h : jPt cl G p l e R s m args below meth c Q c0 s0 z (pc + 1) (ls.set k.val (some (.inl x))) r w) : jPt cl G p l e R s m args below meth c Q c0 s0 z pc ls (.inl x :: r) w :=
  h.set1 hi h8 (by simp [jcat]) fun arr H locs cells slots ha kk => lv_istore_n hx rfl hd rfl ha hi rfl kk
theorem jS_istore (hx : p.tables.exec = Jvm.exec) {k : Nat} {x : Int} {r : List jV} (hd : decode c.code pc = .ok (.istore k, 2)) (hi : k < ls.length) (h8 : k ≠ 8) (h : jPt cl G p l e R s m args below meth c Q c0 s0 z (pc + 2) (ls.set k (some (.inl x))) r w) : jPt cl G p l e R s m args below meth c Q c0 s0 z pc ls (.inl x :: r) w :=
  h.set1 hi h8 (by simp [jcat]) fun arr H locs cells slots ha kk => lv_istore hx rfl hd ha hi rfl kk
theorem jS_astore_n (hx : p.tables.exec = Jvm.exec) {k : Fin 4} {x : Nat} {r : List jV} (hd : decode c.code pc = .ok (.astore_n k, 1)) (hi : k.val < ls.length) (h8 : k.val ≠ 8) (h : jPt cl G p l e R s m args below meth c Q c0 s0 z (pc + 1) (ls.set k.val (some (jr x))) r w) : jPt cl G p l e R s m args below meth c Q c0 s0 z pc ls (jr x :: r) w :=
  h.set1 hi h8 (by simp [jcat]) fun arr H locs cells slots ha kk => lv_astore_n hx rfl hd rfl ha hi rfl kk
theorem jS_astore (hx : p.tables.exec = Jvm.exec) {k : Nat} {x : Nat} {r : List jV} (hd : decode c.code pc = .ok (.astore k, 2)) (hi : k < ls.length) (h8 : k ≠ 8) (h : jPt cl G p l e R s m args below meth c Q c0 s0 z (pc + 2) (ls.set k (some (jr x))) r w) : jPt cl G p l e R s m args below meth c Q c0 s0 z pc ls (jr x :: r) w :=
  h.set1 hi h8 (by simp [jcat]) fun arr H locs cells slots ha kk => lv_astore hx rfl hd ha hi rfl kk
theorem jS_fstore (hx : p.tables.exec = Jvm.exec) {k : Nat} {x : UInt32} {r : List jV} (hd : decode c.code pc = .ok (.fstore k, 2)) (hi : k < ls.length) (h8 : k ≠ 8) (h : jPt cl G p l e R s m args below meth c Q c0 s0 z (pc + 2) (ls.set k (some (.inr (.inr (.float x))))) r w) : jPt cl G p l e R s m args below meth c Q c0 s0 z pc ls (.inr (.inr (.float x)) :: r) w :=
  h.set1 hi h8 (by simp [jcat]) fun arr H locs cells slots ha kk => lv_fstore hx rfl hd ha hi rfl kk
theorem jS_dstore (hx : p.tables.exec = Jvm.exec) {k : Nat} {x : UInt64} {r : List jV} (hd : decode c.code pc = .ok (.dstore k, 2)) (h8 : 8 < ls.length) (hi : k = 7) (h : jPt cl G p l e R s m args below meth c Q c0 s0 z (pc + 2) ((ls.set 7 (some (.inr (.inr (.double x))))).set 8 none) r w) : jPt cl G p l e R s m args below meth c Q c0 s0 z pc ls (.inr (.inr (.double x)) :: r) w :=
  h.set2 hi h8 fun arr H locs cells slots ha kk => lv_dstore hx rfl hd ha (by omega) rfl kk
theorem jS_iinc (hx : p.tables.exec = Jvm.exec) {k : Nat} {n : Int} {x : Int} (hd : decode c.code pc = .ok (.iinc k n, 3)) (hk : ls[k]? = some (some (.inl x))) (h8 : k ≠ 8) (h : jPt cl G p l e R s m args below meth c Q c0 s0 z (pc + 3) (ls.set k (some (.inl (jw (x + n))))) st w) : jPt cl G p l e R s m args below meth c Q c0 s0 z pc ls st w := by
  have hi : k < ls.length := (List.getElem?_eq_some_iff.mp hk).1
  refine ⟨h.1, fun arr H locs cells slots h0 h1 h2 h3 h4 h5 h6 => ?_⟩
  obtain ⟨q, hq⟩ := List.mem_iff_getElem?.mp (jlv_mem hk)
  refine lv_iinc hx rfl hd h1.has hq (ji_addw (h1.ok hk) n) hi rfl fun ls' h' => ?_
  exact h.2 ls' H locs cells slots (by rw [List.length_set]; exact h0) (h1.set1 hi h8 (v := .inl (jw (x + n))) (jw_r _) (by simp [jcat]) h') h2 h3 h4 h5 h6
theorem jS_iconst (hx : p.tables.exec = Jvm.exec) {n : Int} (hd : decode c.code pc = .ok (.iconst n, 1)) (hv : jb8 n = true) (h : jPt cl G p l e R s m args below meth c Q c0 s0 z (pc + 1) ls (.inl n :: st) w) : jPt cl G p l e R s m args below meth c Q c0 s0 z pc ls st w :=
  h.step (fun hs => hs.cons (v := .inl n) (by have := jb8_r hv; exact ⟨by omega, by omega⟩)) fun arr H locs cells slots _ _ k => lv_iconst hx rfl hd rfl k
theorem jS_bipush (hx : p.tables.exec = Jvm.exec) {n : Int} (hd : decode c.code pc = .ok (.bipush n, 2)) (hv : jb8 n = true) (h : jPt cl G p l e R s m args below meth c Q c0 s0 z (pc + 2) ls (.inl n :: st) w) : jPt cl G p l e R s m args below meth c Q c0 s0 z pc ls st w :=
  h.step (fun hs => hs.cons (v := .inl n) (by have := jb8_r hv; exact ⟨by omega, by omega⟩)) fun arr H locs cells slots _ _ k => lv_bipush hx rfl hd (ji_b8 hv) k
theorem jS_sipush (hx : p.tables.exec = Jvm.exec) {n : Int} (hd : decode c.code pc = .ok (.sipush n, 3)) (hv : jb16 n = true) (h : jPt cl G p l e R s m args below meth c Q c0 s0 z (pc + 3) ls (.inl n :: st) w) : jPt cl G p l e R s m args below meth c Q c0 s0 z pc ls st w :=
  h.step (fun hs => hs.cons (v := .inl n) (by have := jb16_r hv; exact ⟨by omega, by omega⟩)) fun arr H locs cells slots _ _ k => lv_sipush hx rfl hd (ji_b16 hv) k
theorem jS_lconst (hx : p.tables.exec = Jvm.exec) {n : Fin 2} (hd : decode c.code pc = .ok (.lconst n, 1)) (h : jPt cl G p l e R s m args below meth c Q c0 s0 z (pc + 1) ls (.inr (.inl (n.val : Int)) :: st) w) : jPt cl G p l e R s m args below meth c Q c0 s0 z pc ls st w :=
  h.step (fun hs => hs.cons (v := .inr (.inl (n.val : Int))) (by have := n.isLt; exact ⟨by omega, by omega⟩)) fun arr H locs cells slots _ _ k => lv_lconst hx rfl hd Int64.ofInt_eq_ofNat.symm k
theorem jS_fconst0 (hx : p.tables.exec = Jvm.exec) (hd : decode c.code pc = .ok (.fconst 0, 1)) (h : jPt cl G p l e R s m args below meth c Q c0 s0 z (pc + 1) ls (.inr (.inr (.float 0)) :: st) w) : jPt cl G p l e R s m args below meth c Q c0 s0 z pc ls st w :=
  h.step (fun hs => hs.cons (v := .inr (.inr (.float 0))) trivial) fun arr H locs cells slots _ _ k => lv_fconst0 hx rfl hd k
theorem jS_dconst0 (hx : p.tables.exec = Jvm.exec) (hd : decode c.code pc = .ok (.dconst 0, 1)) (h : jPt cl G p l e R s m args below meth c Q c0 s0 z (pc + 1) ls (.inr (.inr (.double 0)) :: st) w) : jPt cl G p l e R s m args below meth c Q c0 s0 z pc ls st w :=
  h.step (fun hs => hs.cons (v := .inr (.inr (.double 0))) trivial) fun arr H locs cells slots _ _ k => lv_dconst0 hx rfl hd k
theorem ji_rem {x y : Int} (hx : jr32 x) (hy : jr32 y) (h0 : 0 ≤ x) (hy0 : 0 < y) : Int32.ofInt x - Int32.ofInt x / Int32.ofInt y * Int32.ofInt y = Int32.ofInt (x % y) := by
  have h1 : 0 ≤ x / y * y := Int.mul_nonneg (Int.ediv_nonneg h0 (by omega)) (by omega)
  have h2 := Int.emod_add_mul_ediv x y
  have h3 : x / y * y = y * (x / y) := Int.mul_comm _ _
  have h4 : 0 ≤ x % y := Int.emod_nonneg x (by omega)
  have hr : jr32 (x / y * y) := ⟨by omega, by have := hx.2; omega⟩
  rw [ji_div hx hy h0 hy0, ji_mul (ji_divr hx h0 hy0) hy, jw_id hr, ji_sub hx hr, jw_id ⟨by have := hx.1; omega, by have := hx.2; omega⟩]
  congr 1
  omega
theorem jS_iadd (hx : p.tables.exec = Jvm.exec) {x y : Int} {r : List jV} (hd : decode c.code pc = .ok (.iadd, 1)) (h : jPt cl G p l e R s m args below meth c Q c0 s0 z (pc + 1) ls (.inl (jw (x + y)) :: r) w) : jPt cl G p l e R s m args below meth c Q c0 s0 z pc ls (.inl y :: .inl x :: r) w :=
  h.step (fun hs => hs.tl.tl.cons (v := .inl (jw (x + y))) (jw_r _)) fun arr H locs cells slots _ hS k => lv_iadd hx rfl hd (by rw [ji_add hS.tl.hd hS.hd]; exact k)
theorem jS_isub (hx : p.tables.exec = Jvm.exec) {x y : Int} {r : List jV} (hd : decode c.code pc = .ok (.isub, 1)) (h : jPt cl G p l e R s m args below meth c Q c0 s0 z (pc + 1) ls (.inl (jw (x - y)) :: r) w) : jPt cl G p l e R s m args below meth c Q c0 s0 z pc ls (.inl y :: .inl x :: r) w :=
  h.step (fun hs => hs.tl.tl.cons (v := .inl (jw (x - y))) (jw_r _)) fun arr H locs cells slots _ hS k => lv_isub hx rfl hd (by rw [ji_sub hS.tl.hd hS.hd]; exact k)
theorem jS_imul (hx : p.tables.exec = Jvm.exec) {x y : Int} {r : List jV} (hd : decode c.code pc = .ok (.imul, 1)) (h : jPt cl G p l e R s m args below meth c Q c0 s0 z (pc + 1) ls (.inl (jw (x * y)) :: r) w) : jPt cl G p l e R s m args below meth c Q c0 s0 z pc ls (.inl y :: .inl x :: r) w :=
  h.step (fun hs => hs.tl.tl.cons (v := .inl (jw (x * y))) (jw_r _)) fun arr H locs cells slots _ hS k => lv_imul hx rfl hd (by rw [ji_mul hS.tl.hd hS.hd]; exact k)
theorem jS_idiv (hx : p.tables.exec = Jvm.exec) {x y : Int} {r : List jV} (hd : decode c.code pc = .ok (.idiv, 1)) (hy : 0 < y ∧ 0 ≤ x) (h : jPt cl G p l e R s m args below meth c Q c0 s0 z (pc + 1) ls (.inl (x / y) :: r) w) : jPt cl G p l e R s m args below meth c Q c0 s0 z pc ls (.inl y :: .inl x :: r) w :=
  h.step (fun hs => hs.tl.tl.cons (v := .inl (x / y)) (ji_divr hs.tl.hd hy.2 hy.1)) fun arr H locs cells slots _ hS k => lv_idiv hx rfl hd (ji_nz hS.hd hy.1) (by rw [ji_div hS.tl.hd hS.hd hy.2 hy.1]; exact k)
theorem jS_irem (hx : p.tables.exec = Jvm.exec) {x y : Int} {r : List jV} (hd : decode c.code pc = .ok (.irem, 1)) (hy : 0 < y ∧ 0 ≤ x) (h : jPt cl G p l e R s m args below meth c Q c0 s0 z (pc + 1) ls (.inl (x % y) :: r) w) : jPt cl G p l e R s m args below meth c Q c0 s0 z pc ls (.inl y :: .inl x :: r) w :=
  h.step (fun hs => hs.tl.tl.cons (v := .inl (x % y)) (ji_modr hs.hd hy.1)) fun arr H locs cells slots _ hS k => lv_irem hx rfl hd (ji_nz hS.hd hy.1) (by rw [ji_rem hS.tl.hd hS.hd hy.2 hy.1]; exact k)
theorem jS_iand (hx : p.tables.exec = Jvm.exec) {x : Int} {r : List jV} (hd : decode c.code pc = .ok (.iand, 1)) (h : jPt cl G p l e R s m args below meth c Q c0 s0 z (pc + 1) ls (.inl (x % 64) :: r) w) : jPt cl G p l e R s m args below meth c Q c0 s0 z pc ls (.inl 63 :: .inl x :: r) w :=
  h.step (fun hs => hs.tl.tl.cons (v := .inl (x % 64)) ⟨by omega, by omega⟩) fun arr H locs cells slots _ hS k => lv_iand hx rfl hd (by rw [show (Int32.ofInt 63 : Int32) = 63 from rfl, ji_63]; exact k)
theorem jS_i2c (hx : p.tables.exec = Jvm.exec) {x : Int} {r : List jV} (hd : decode c.code pc = .ok (.i2c, 1)) (h : jPt cl G p l e R s m args below meth c Q c0 s0 z (pc + 1) ls (.inl (x % 65536) :: r) w) : jPt cl G p l e R s m args below meth c Q c0 s0 z pc ls (.inl x :: r) w :=
  h.step (fun hs => hs.tl.cons (v := .inl (x % 65536)) ⟨by omega, by omega⟩) fun arr H locs cells slots _ hS k => lv_i2c hx rfl hd (ji_c x) k
theorem jS_i2l (hx : p.tables.exec = Jvm.exec) {x : Int} {r : List jV} (hd : decode c.code pc = .ok (.i2l, 1)) (h : jPt cl G p l e R s m args below meth c Q c0 s0 z (pc + 1) ls (.inr (.inl x) :: r) w) : jPt cl G p l e R s m args below meth c Q c0 s0 z pc ls (.inl x :: r) w :=
  h.step (fun hs => hs.tl.cons (v := .inr (.inl x)) (by have : jr32 x := hs.hd; exact ⟨by have := this.1; omega, by have := this.2; omega⟩)) fun arr H locs cells slots _ hS k => lv_i2l hx rfl hd (ji_long hS.hd) k
theorem jS_i2d (hx : p.tables.exec = Jvm.exec) {x : Int} {r : List jV} (hd : decode c.code pc = .ok (.i2d, 1)) (h : jPt cl G p l e R s m args below meth c Q c0 s0 z (pc + 1) ls (.inr (.inr (.double (FP.i2d (Int32.ofInt x)))) :: r) w) : jPt cl G p l e R s m args below meth c Q c0 s0 z pc ls (.inl x :: r) w :=
  h.step (fun hs => hs.tl.cons (v := .inr (.inr (.double (FP.i2d (Int32.ofInt x))))) trivial) fun arr H locs cells slots _ hS k => lv_i2d hx rfl hd k
theorem jS_i2f (hx : p.tables.exec = Jvm.exec) {x : Int} {r : List jV} (hd : decode c.code pc = .ok (.i2f, 1)) (h : jPt cl G p l e R s m args below meth c Q c0 s0 z (pc + 1) ls (.inr (.inr (.float (FP.i2f (Int32.ofInt x)))) :: r) w) : jPt cl G p l e R s m args below meth c Q c0 s0 z pc ls (.inl x :: r) w :=
  h.step (fun hs => hs.tl.cons (v := .inr (.inr (.float (FP.i2f (Int32.ofInt x))))) trivial) fun arr H locs cells slots _ hS k => lv_i2f hx rfl hd k
theorem jS_lcmp (hx : p.tables.exec = Jvm.exec) {x y : Int} {r : List jV} (hd : decode c.code pc = .ok (.lcmp, 1)) (h : jPt cl G p l e R s m args below meth c Q c0 s0 z (pc + 1) ls (.inl (jsgn x y) :: r) w) : jPt cl G p l e R s m args below meth c Q c0 s0 z pc ls (.inr (.inl y) :: .inr (.inl x) :: r) w :=
  h.step (fun hs => hs.tl.tl.cons (v := .inl (jsgn x y)) (jsgn_r x y)) fun arr H locs cells slots _ hS k => W.lcmp hx rfl hd (by rw [jl_cmp hS.tl.hd hS.hd]; exact k)
theorem jS_dupI (hx : p.tables.exec = Jvm.exec) {x : Int} {r : List jV} (hd : decode c.code pc = .ok (.dup, 1)) (h : jPt cl G p l e R s m args below meth c Q c0 s0 z (pc + 1) ls (.inl x :: .inl x :: r) w) : jPt cl G p l e R s m args below meth c Q c0 s0 z pc ls (.inl x :: r) w :=
  h.step (fun hs => hs.cons (v := .inl x) hs.hd) fun arr H locs cells slots _ hS k => lv_dup hx rfl hd rfl k
theorem jS_dupR (hx : p.tables.exec = Jvm.exec) {x : Nat} {r : List jV} (hd : decode c.code pc = .ok (.dup, 1)) (h : jPt cl G p l e R s m args below meth c Q c0 s0 z (pc + 1) ls (jr x :: jr x :: r) w) : jPt cl G p l e R s m args below meth c Q c0 s0 z pc ls (jr x :: r) w :=
  h.step (fun hs => hs.cons (v := jr x) hs.hd) fun arr H locs cells slots _ hS k => lv_dup hx rfl hd rfl k
theorem jS_dup2 (hx : p.tables.exec = Jvm.exec) {x : Int} {a : Nat} {r : List jV} (hd : decode c.code pc = .ok (.dup2, 1)) (h : jPt cl G p l e R s m args below meth c Q c0 s0 z (pc + 1) ls (.inl x :: jr a :: .inl x :: jr a :: r) w) : jPt cl G p l e R s m args below meth c Q c0 s0 z pc ls (.inl x :: jr a :: r) w :=
  h.step (fun hs => (hs.cons (v := jr a) hs.tl.hd).cons (v := .inl x) hs.hd) fun arr H locs cells slots _ hS k => lv_dup2_11 hx rfl hd rfl rfl k
theorem jS_pop (hx : p.tables.exec = Jvm.exec) {x : Int} {r : List jV} (hd : decode c.code pc = .ok (.pop, 1)) (h : jPt cl G p l e R s m args below meth c Q c0 s0 z (pc + 1) ls r w) : jPt cl G p l e R s m args below meth c Q c0 s0 z pc ls (.inl x :: r) w :=
  h.step (fun hs => hs.tl) fun arr H locs cells slots _ hS k => lv_pop hx rfl hd rfl k
theorem jS_ddiv (hx : p.tables.exec = Jvm.exec) {x y : UInt64} {r : List jV} (hd : decode c.code pc = .ok (.ddiv, 1)) (hn : FP.ddiv x y &&& 0x7fffffffffffffff ≤ 0x7ff0000000000000) (h : jPt cl G p l e R s m args below meth c Q c0 s0 z (pc + 1) ls (.inr (.inr (.double (FP.ddiv x y))) :: r) w) : jPt cl G p l e R s m args below meth c Q c0 s0 z pc ls (.inr (.inr (.double y)) :: .inr (.inr (.double x)) :: r) w :=
  h.step (fun hs => hs.tl.tl.cons (v := .inr (.inr (.double (FP.ddiv x y)))) trivial) fun arr H locs cells slots _ hS k => lv_ddiv hx rfl hd hn k
theorem jS_fdiv (hx : p.tables.exec = Jvm.exec) {x y : UInt32} {r : List jV} (hd : decode c.code pc = .ok (.fdiv, 1)) (hn : FP.fdiv x y &&& 0x7fffffff ≤ 0x7f800000) (h : jPt cl G p l e R s m args below meth c Q c0 s0 z (pc + 1) ls (.inr (.inr (.float (FP.fdiv x y))) :: r) w) : jPt cl G p l e R s m args below meth c Q c0 s0 z pc ls (.inr (.inr (.float y)) :: .inr (.inr (.float x)) :: r) w :=
  h.step (fun hs => hs.tl.tl.cons (v := .inr (.inr (.float (FP.fdiv x y)))) trivial) fun arr H locs cells slots _ hS k => lv_fdiv hx rfl hd hn k
theorem jS_f2d (hx : p.tables.exec = Jvm.exec) {x : UInt32} {r : List jV} (hd : decode c.code pc = .ok (.f2d, 1)) (hn : FP.f2d x &&& 0x7fffffffffffffff ≤ 0x7ff0000000000000) (h : jPt cl G p l e R s m args below meth c Q c0 s0 z (pc + 1) ls (.inr (.inr (.double (FP.f2d x))) :: r) w) : jPt cl G p l e R s m args below meth c Q c0 s0 z pc ls (.inr (.inr (.float x)) :: r) w :=
  h.step (fun hs => hs.tl.cons (v := .inr (.inr (.double (FP.f2d x)))) trivial) fun arr H locs cells slots _ hS k => lv_f2d hx rfl hd hn k
theorem jS_dcmp (hx : p.tables.exec = Jvm.exec) {op : CmpOp} {x y : UInt64} {r : List jV} (hd : decode c.code pc = .ok (.dcmp op, 1)) (h : jPt cl G p l e R s m args below meth c Q c0 s0 z (pc + 1) ls (.inl (Op.cmpValue (FP.dcmp x y) op).toInt :: r) w) : jPt cl G p l e R s m args below meth c Q c0 s0 z pc ls (.inr (.inr (.double y)) :: .inr (.inr (.double x)) :: r) w :=
  h.step (fun hs => hs.tl.tl.cons (v := .inl (Op.cmpValue (FP.dcmp x y) op).toInt) (ji_r _)) fun arr H locs cells slots _ hS k => lv_dcmp hx rfl hd (by rw [← ji_of (Op.cmpValue (FP.dcmp x y) op)]; exact k)
theorem jS_fcmp (hx : p.tables.exec = Jvm.exec) {op : CmpOp} {x y : UInt32} {r : List jV} (hd : decode c.code pc = .ok (.fcmp op, 1)) (h : jPt cl G p l e R s m args below meth c Q c0 s0 z (pc + 1) ls (.inl (Op.cmpValue (FP.fcmp x y) op).toInt :: r) w) : jPt cl G p l e R s m args below meth c Q c0 s0 z pc ls (.inr (.inr (.float y)) :: .inr (.inr (.float x)) :: r) w :=
  h.step (fun hs => hs.tl.tl.cons (v := .inl (Op.cmpValue (FP.fcmp x y) op).toInt) (ji_r _)) fun arr H locs cells slots _ hS k => lv_fcmp hx rfl hd (by rw [← ji_of (Op.cmpValue (FP.fcmp x y) op)]; exact k)
theorem jS_goto (hx : p.tables.exec = Jvm.exec) {off : Int} (hd : decode c.code pc = .ok (.goto off, 3)) (ht : jtk pc (.goto off) = true) (h : jPt cl G p l e R s m args below meth c Q c0 s0 z (jtgt pc off) ls st w) : jPt cl G p l e R s m args below meth c Q c0 s0 z pc ls st w :=
  h.step id fun arr H locs cells slots _ _ k => lv_goto hx rfl hd (jtgt_eq (by simpa [jtk] using ht)) k
theorem jS_ifnull (hx : p.tables.exec = Jvm.exec) {off : Int} {a : Nat} {r : List jV} (hd : decode c.code pc = .ok (.ifnull off, 3)) (h : jPt cl G p l e R s m args below meth c Q c0 s0 z (pc + 3) ls r w) : jPt cl G p l e R s m args below meth c Q c0 s0 z pc ls (jr a :: r) w :=
  h.step (fun h => h.tl) fun arr H locs cells slots _ _ k => lv_ifnull hx rfl hd k
theorem jS_ifnonnull (hx : p.tables.exec = Jvm.exec) {off : Int} {a : Nat} {r : List jV} (hd : decode c.code pc = .ok (.ifnonnull off, 3)) (ht : jtk pc (.ifnonnull off) = true) (h : jPt cl G p l e R s m args below meth c Q c0 s0 z (jtgt pc off) ls r w) : jPt cl G p l e R s m args below meth c Q c0 s0 z pc ls (jr a :: r) w :=
  h.step (fun h => h.tl) fun arr H locs cells slots _ _ k => lv_ifnonnull hx rfl hd (jtgt_eq (by simpa [jtk] using ht)) k
theorem jS_icmp_eq_t (hx : p.tables.exec = Jvm.exec) {x y off : Int} {r : List jV} (hd : decode c.code pc = .ok (.if_icmp .eq off, 3)) (ht : jtk pc (.if_icmp .eq off) = true) (hc : x = y) (h : jPt cl G p l e R s m args below meth c Q c0 s0 z (jtgt pc off) ls r w) : jPt cl G p l e R s m args below meth c Q c0 s0 z pc ls (.inl y :: .inl x :: r) w :=
  h.step (fun hs => hs.tl.tl) fun arr H locs cells slots _ hS k => by
    have hI := ji_eq hS.tl.hd hS.hd
    exact lv_icmp_eq hx rfl hd (jtgt_eq (by simpa [jtk] using ht)) (fun _ => k) (fun hf => absurd (hI.mpr (by omega)) hf)
theorem jS_icmp_eq_f (hx : p.tables.exec = Jvm.exec) {x y off : Int} {r : List jV} (hd : decode c.code pc = .ok (.if_icmp .eq off, 3)) (ht : jtk pc (.if_icmp .eq off) = true) (hc : ¬ (x = y)) (h : jPt cl G p l e R s m args below meth c Q c0 s0 z (pc + 3) ls r w) : jPt cl G p l e R s m args below meth c Q c0 s0 z pc ls (.inl y :: .inl x :: r) w :=
  h.step (fun hs => hs.tl.tl) fun arr H locs cells slots _ hS k => by
    have hI := ji_eq hS.tl.hd hS.hd
    exact lv_icmp_eq hx rfl hd (jtgt_eq (by simpa [jtk] using ht)) (fun hf => absurd (hI.mp hf) (by omega)) (fun _ => k)
theorem jS_icmp_ne_t (hx : p.tables.exec = Jvm.exec) {x y off : Int} {r : List jV} (hd : decode c.code pc = .ok (.if_icmp .ne off, 3)) (ht : jtk pc (.if_icmp .ne off) = true) (hc : x = y) (h : jPt cl G p l e R s m args below meth c Q c0 s0 z (pc + 3) ls r w) : jPt cl G p l e R s m args below meth c Q c0 s0 z pc ls (.inl y :: .inl x :: r) w :=
  h.step (fun hs => hs.tl.tl) fun arr H locs cells slots _ hS k => by
    have hI := not_congr (ji_eq hS.tl.hd hS.hd)
    exact lv_icmp_ne hx rfl hd (jtgt_eq (by simpa [jtk] using ht)) (fun hf => absurd (hI.mp hf) (by omega)) (fun _ => k)
theorem jS_icmp_ne_f (hx : p.tables.exec = Jvm.exec) {x y off : Int} {r : List jV} (hd : decode c.code pc = .ok (.if_icmp .ne off, 3)) (ht : jtk pc (.if_icmp .ne off) = true) (hc : ¬ (x = y)) (h : jPt cl G p l e R s m args below meth c Q c0 s0 z (jtgt pc off) ls r w) : jPt cl G p l e R s m args below meth c Q c0 s0 z pc ls (.inl y :: .inl x :: r) w :=
  h.step (fun hs => hs.tl.tl) fun arr H locs cells slots _ hS k => by
    have hI := not_congr (ji_eq hS.tl.hd hS.hd)
    exact lv_icmp_ne hx rfl hd (jtgt_eq (by simpa [jtk] using ht)) (fun _ => k) (fun hf => absurd (hI.mpr (by omega)) (fun hh => hh hf))
theorem jS_icmp_lt_t (hx : p.tables.exec = Jvm.exec) {x y off : Int} {r : List jV} (hd : decode c.code pc = .ok (.if_icmp .lt off, 3)) (ht : jtk pc (.if_icmp .lt off) = true) (hc : x < y) (h : jPt cl G p l e R s m args below meth c Q c0 s0 z (jtgt pc off) ls r w) : jPt cl G p l e R s m args below meth c Q c0 s0 z pc ls (.inl y :: .inl x :: r) w :=
  h.step (fun hs => hs.tl.tl) fun arr H locs cells slots _ hS k => by
    have hI := ji_lt hS.tl.hd hS.hd
    exact lv_icmp_lt hx rfl hd (jtgt_eq (by simpa [jtk] using ht)) (fun _ => k) (fun hf => absurd (hI.mpr (by omega)) hf)
theorem jS_icmp_lt_f (hx : p.tables.exec = Jvm.exec) {x y off : Int} {r : List jV} (hd : decode c.code pc = .ok (.if_icmp .lt off, 3)) (ht : jtk pc (.if_icmp .lt off) = true) (hc : ¬ (x < y)) (h : jPt cl G p l e R s m args below meth c Q c0 s0 z (pc + 3) ls r w) : jPt cl G p l e R s m args below meth c Q c0 s0 z pc ls (.inl y :: .inl x :: r) w :=
  h.step (fun hs => hs.tl.tl) fun arr H locs cells slots _ hS k => by
    have hI := ji_lt hS.tl.hd hS.hd
    exact lv_icmp_lt hx rfl hd (jtgt_eq (by simpa [jtk] using ht)) (fun hf => absurd (hI.mp hf) (by omega)) (fun _ => k)
theorem jS_icmp_ge_t (hx : p.tables.exec = Jvm.exec) {x y off : Int} {r : List jV} (hd : decode c.code pc = .ok (.if_icmp .ge off, 3)) (ht : jtk pc (.if_icmp .ge off) = true) (hc : x < y) (h : jPt cl G p l e R s m args below meth c Q c0 s0 z (pc + 3) ls r w) : jPt cl G p l e R s m args below meth c Q c0 s0 z pc ls (.inl y :: .inl x :: r) w :=
  h.step (fun hs => hs.tl.tl) fun arr H locs cells slots _ hS k => by
    have hI := ji_le hS.hd hS.tl.hd
    exact lv_icmp_ge hx rfl hd (jtgt_eq (by simpa [jtk] using ht)) (fun hf => absurd (hI.mp hf) (by omega)) (fun _ => k)
theorem jS_icmp_ge_f (hx : p.tables.exec = Jvm.exec) {x y off : Int} {r : List jV} (hd : decode c.code pc = .ok (.if_icmp .ge off, 3)) (ht : jtk pc (.if_icmp .ge off) = true) (hc : ¬ (x < y)) (h : jPt cl G p l e R s m args below meth c Q c0 s0 z (jtgt pc off) ls r w) : jPt cl G p l e R s m args below meth c Q c0 s0 z pc ls (.inl y :: .inl x :: r) w :=
  h.step (fun hs => hs.tl.tl) fun arr H locs cells slots _ hS k => by
    have hI := ji_le hS.hd hS.tl.hd
    exact lv_icmp_ge hx rfl hd (jtgt_eq (by simpa [jtk] using ht)) (fun _ => k) (fun hf => absurd (hI.mpr (by omega)) hf)
theorem jS_icmp_gt_t (hx : p.tables.exec = Jvm.exec) {x y off : Int} {r : List jV} (hd : decode c.code pc = .ok (.if_icmp .gt off, 3)) (ht : jtk pc (.if_icmp .gt off) = true) (hc : y < x) (h : jPt cl G p l e R s m args below meth c Q c0 s0 z (jtgt pc off) ls r w) : jPt cl G p l e R s m args below meth c Q c0 s0 z pc ls (.inl y :: .inl x :: r) w :=
  h.step (fun hs => hs.tl.tl) fun arr H locs cells slots _ hS k => by
    have hI := ji_lt hS.hd hS.tl.hd
    exact lv_icmp_gt hx rfl hd (jtgt_eq (by simpa [jtk] using ht)) (fun _ => k) (fun hf => absurd (hI.mpr (by omega)) hf)
theorem jS_icmp_gt_f (hx : p.tables.exec = Jvm.exec) {x y off : Int} {r : List jV} (hd : decode c.code pc = .ok (.if_icmp .gt off, 3)) (ht : jtk pc (.if_icmp .gt off) = true) (hc : ¬ (y < x)) (h : jPt cl G p l e R s m args below meth c Q c0 s0 z (pc + 3) ls r w) : jPt cl G p l e R s m args below meth c Q c0 s0 z pc ls (.inl y :: .inl x :: r) w :=
  h.step (fun hs => hs.tl.tl) fun arr H locs cells slots _ hS k => by
    have hI := ji_lt hS.hd hS.tl.hd
    exact lv_icmp_gt hx rfl hd (jtgt_eq (by simpa [jtk] using ht)) (fun hf => absurd (hI.mp hf) (by omega)) (fun _ => k)
theorem jS_icmp_le_t (hx : p.tables.exec = Jvm.exec) {x y off : Int} {r : List jV} (hd : decode c.code pc = .ok (.if_icmp .le off, 3)) (ht : jtk pc (.if_icmp .le off) = true) (hc : y < x) (h : jPt cl G p l e R s m args below meth c Q c0 s0 z (pc + 3) ls r w) : jPt cl G p l e R s m args below meth c Q c0 s0 z pc ls (.inl y :: .inl x :: r) w :=
  h.step (fun hs => hs.tl.tl) fun arr H locs cells slots _ hS k => by
    have hI := ji_le hS.tl.hd hS.hd
    exact lv_icmp_le hx rfl hd (jtgt_eq (by simpa [jtk] using ht)) (fun hf => absurd (hI.mp hf) (by omega)) (fun _ => k)
theorem jS_icmp_le_f (hx : p.tables.exec = Jvm.exec) {x y off : Int} {r : List jV} (hd : decode c.code pc = .ok (.if_icmp .le off, 3)) (ht : jtk pc (.if_icmp .le off) = true) (hc : ¬ (y < x)) (h : jPt cl G p l e R s m args below meth c Q c0 s0 z (jtgt pc off) ls r w) : jPt cl G p l e R s m args below meth c Q c0 s0 z pc ls (.inl y :: .inl x :: r) w :=
  h.step (fun hs => hs.tl.tl) fun arr H locs cells slots _ hS k => by
    have hI := ji_le hS.tl.hd hS.hd
    exact lv_icmp_le hx rfl hd (jtgt_eq (by simpa [jtk] using ht)) (fun _ => k) (fun hf => absurd (hI.mpr (by omega)) hf)
theorem jS_if_eq_t (hx : p.tables.exec = Jvm.exec) {x off : Int} {r : List jV} (hd : decode c.code pc = .ok (.ifCond .eq off, 3)) (ht : jtk pc (.ifCond .eq off) = true) (hc : x = 0) (h : jPt cl G p l e R s m args below meth c Q c0 s0 z (jtgt pc off) ls r w) : jPt cl G p l e R s m args below meth c Q c0 s0 z pc ls (.inl x :: r) w :=
  h.step (fun hs => hs.tl) fun arr H locs cells slots _ hS k => by
    have hI := ji_eq hS.hd jr0
    rw [← ji_0] at hI
    exact lv_if_eq hx rfl hd (jtgt_eq (by simpa [jtk] using ht)) (fun _ => k) (fun hf => absurd (hI.mpr (by omega)) hf)
theorem jS_if_eq_f (hx : p.tables.exec = Jvm.exec) {x off : Int} {r : List jV} (hd : decode c.code pc = .ok (.ifCond .eq off, 3)) (ht : jtk pc (.ifCond .eq off) = true) (hc : ¬ (x = 0)) (h : jPt cl G p l e R s m args below meth c Q c0 s0 z (pc + 3) ls r w) : jPt cl G p l e R s m args below meth c Q c0 s0 z pc ls (.inl x :: r) w :=
  h.step (fun hs => hs.tl) fun arr H locs cells slots _ hS k => by
    have hI := ji_eq hS.hd jr0
    rw [← ji_0] at hI
    exact lv_if_eq hx rfl hd (jtgt_eq (by simpa [jtk] using ht)) (fun hf => absurd (hI.mp hf) (by omega)) (fun _ => k)
theorem jS_if_ne_t (hx : p.tables.exec = Jvm.exec) {x off : Int} {r : List jV} (hd : decode c.code pc = .ok (.ifCond .ne off, 3)) (ht : jtk pc (.ifCond .ne off) = true) (hc : x = 0) (h : jPt cl G p l e R s m args below meth c Q c0 s0 z (pc + 3) ls r w) : jPt cl G p l e R s m args below meth c Q c0 s0 z pc ls (.inl x :: r) w :=
  h.step (fun hs => hs.tl) fun arr H locs cells slots _ hS k => by
    have hI := not_congr (ji_eq hS.hd jr0)
    rw [← ji_0] at hI
    exact lv_if_ne hx rfl hd (jtgt_eq (by simpa [jtk] using ht)) (fun hf => absurd (hI.mp hf) (by omega)) (fun _ => k)
theorem jS_if_ne_f (hx : p.tables.exec = Jvm.exec) {x off : Int} {r : List jV} (hd : decode c.code pc = .ok (.ifCond .ne off, 3)) (ht : jtk pc (.ifCond .ne off) = true) (hc : ¬ (x = 0)) (h : jPt cl G p l e R s m args below meth c Q c0 s0 z (jtgt pc off) ls r w) : jPt cl G p l e R s m args below meth c Q c0 s0 z pc ls (.inl x :: r) w :=
  h.step (fun hs => hs.tl) fun arr H locs cells slots _ hS k => by
    have hI := not_congr (ji_eq hS.hd jr0)
    rw [← ji_0] at hI
    exact lv_if_ne hx rfl hd (jtgt_eq (by simpa [jtk] using ht)) (fun _ => k) (fun hf => absurd (hI.mpr (by omega)) (fun hh => hh hf))
theorem jS_if_lt_t (hx : p.tables.exec = Jvm.exec) {x off : Int} {r : List jV} (hd : decode c.code pc = .ok (.ifCond .lt off, 3)) (ht : jtk pc (.ifCond .lt off) = true) (hc : x < 0) (h : jPt cl G p l e R s m args below meth c Q c0 s0 z (jtgt pc off) ls r w) : jPt cl G p l e R s m args below meth c Q c0 s0 z pc ls (.inl x :: r) w :=
  h.step (fun hs => hs.tl) fun arr H locs cells slots _ hS k => by
    have hI := ji_lt hS.hd jr0
    rw [← ji_0] at hI
    exact lv_if_lt hx rfl hd (jtgt_eq (by simpa [jtk] using ht)) (fun _ => k) (fun hf => absurd (hI.mpr (by omega)) hf)
theorem jS_if_lt_f (hx : p.tables.exec = Jvm.exec) {x off : Int} {r : List jV} (hd : decode c.code pc = .ok (.ifCond .lt off, 3)) (ht : jtk pc (.ifCond .lt off) = true) (hc : ¬ (x < 0)) (h : jPt cl G p l e R s m args below meth c Q c0 s0 z (pc + 3) ls r w) : jPt cl G p l e R s m args below meth c Q c0 s0 z pc ls (.inl x :: r) w :=
  h.step (fun hs => hs.tl) fun arr H locs cells slots _ hS k => by
    have hI := ji_lt hS.hd jr0
    rw [← ji_0] at hI
    exact lv_if_lt hx rfl hd (jtgt_eq (by simpa [jtk] using ht)) (fun hf => absurd (hI.mp hf) (by omega)) (fun _ => k)
theorem jS_if_ge_t (hx : p.tables.exec = Jvm.exec) {x off : Int} {r : List jV} (hd : decode c.code pc = .ok (.ifCond .ge off, 3)) (ht : jtk pc (.ifCond .ge off) = true) (hc : x < 0) (h : jPt cl G p l e R s m args below meth c Q c0 s0 z (pc + 3) ls r w) : jPt cl G p l e R s m args below meth c Q c0 s0 z pc ls (.inl x :: r) w :=
  h.step (fun hs => hs.tl) fun arr H locs cells slots _ hS k => by
    have hI := ji_le jr0 hS.hd
    rw [← ji_0] at hI
    exact lv_if_ge hx rfl hd (jtgt_eq (by simpa [jtk] using ht)) (fun hf => absurd (hI.mp hf) (by omega)) (fun _ => k)
theorem jS_if_ge_f (hx : p.tables.exec = Jvm.exec) {x off : Int} {r : List jV} (hd : decode c.code pc = .ok (.ifCond .ge off, 3)) (ht : jtk pc (.ifCond .ge off) = true) (hc : ¬ (x < 0)) (h : jPt cl G p l e R s m args below meth c Q c0 s0 z (jtgt pc off) ls r w) : jPt cl G p l e R s m args below meth c Q c0 s0 z pc ls (.inl x :: r) w :=
  h.step (fun hs => hs.tl) fun arr H locs cells slots _ hS k => by
    have hI := ji_le jr0 hS.hd
    rw [← ji_0] at hI
    exact lv_if_ge hx rfl hd (jtgt_eq (by simpa [jtk] using ht)) (fun _ => k) (fun hf => absurd (hI.mpr (by omega)) hf)
theorem jS_if_gt_t (hx : p.tables.exec = Jvm.exec) {x off : Int} {r : List jV} (hd : decode c.code pc = .ok (.ifCond .gt off, 3)) (ht : jtk pc (.ifCond .gt off) = true) (hc : 0 < x) (h : jPt cl G p l e R s m args below meth c Q c0 s0 z (jtgt pc off) ls r w) : jPt cl G p l e R s m args below meth c Q c0 s0 z pc ls (.inl x :: r) w :=
  h.step (fun hs => hs.tl) fun arr H locs cells slots _ hS k => by
    have hI := ji_lt jr0 hS.hd
    rw [← ji_0] at hI
    exact lv_if_gt hx rfl hd (jtgt_eq (by simpa [jtk] using ht)) (fun _ => k) (fun hf => absurd (hI.mpr (by omega)) hf)
theorem jS_if_gt_f (hx : p.tables.exec = Jvm.exec) {x off : Int} {r : List jV} (hd : decode c.code pc = .ok (.ifCond .gt off, 3)) (ht : jtk pc (.ifCond .gt off) = true) (hc : ¬ (0 < x)) (h : jPt cl G p l e R s m args below meth c Q c0 s0 z (pc + 3) ls r w) : jPt cl G p l e R s m args below meth c Q c0 s0 z pc ls (.inl x :: r) w :=
  h.step (fun hs => hs.tl) fun arr H locs cells slots _ hS k => by
    have hI := ji_lt jr0 hS.hd
    rw [← ji_0] at hI
    exact lv_if_gt hx rfl hd (jtgt_eq (by simpa [jtk] using ht)) (fun hf => absurd (hI.mp hf) (by omega)) (fun _ => k)
theorem jS_if_le_t (hx : p.tables.exec = Jvm.exec) {x off : Int} {r : List jV} (hd : decode c.code pc = .ok (.ifCond .le off, 3)) (ht : jtk pc (.ifCond .le off) = true) (hc : 0 < x) (h : jPt cl G p l e R s m args below meth c Q c0 s0 z (pc + 3) ls r w) : jPt cl G p l e R s m args below meth c Q c0 s0 z pc ls (.inl x :: r) w :=
  h.step (fun hs => hs.tl) fun arr H locs cells slots _ hS k => by
    have hI := ji_le hS.hd jr0
    rw [← ji_0] at hI
    exact lv_if_le hx rfl hd (jtgt_eq (by simpa [jtk] using ht)) (fun hf => absurd (hI.mp hf) (by omega)) (fun _ => k)
theorem jS_if_le_f (hx : p.tables.exec = Jvm.exec) {x off : Int} {r : List jV} (hd : decode c.code pc = .ok (.ifCond .le off, 3)) (ht : jtk pc (.ifCond .le off) = true) (hc : ¬ (0 < x)) (h : jPt cl G p l e R s m args below meth c Q c0 s0 z (jtgt pc off) ls r w) : jPt cl G p l e R s m args below meth c Q c0 s0 z pc ls (.inl x :: r) w :=
  h.step (fun hs => hs.tl) fun arr H locs cells slots _ hS k => by
    have hI := ji_le hS.hd jr0
    rw [← ji_0] at hI
    exact lv_if_le hx rfl hd (jtgt_eq (by simpa [jtk] using ht)) (fun _ => k) (fun hf => absurd (hI.mpr (by omega)) hf)
theorem jS_tableOut (hx : p.tables.exec = Jvm.exec) {d lo hi x : Int} {offs : Array Int} {len : Nat} {r : List jV} (hd : decode c.code pc = .ok (.tableswitch d lo hi offs, len)) (ht : jtk pc (.tableswitch d lo hi offs) = true) (hc : x < lo ∨ hi < x) (h : jPt cl G p l e R s m args below meth c Q c0 s0 z (jtgt pc d) ls r w) : jPt cl G p l e R s m args below meth c Q c0 s0 z pc ls (.inl x :: r) w :=
  h.step (fun h => h.tl) fun arr H locs cells slots _ hS k => lv_tableOut hx rfl hd (by rw [ji_to hS.hd]; exact hc) (jtgt_eq (by simp only [jtk, Bool.and_eq_true, decide_eq_true_eq] at ht; exact ht.1)) k
theorem jS_tableIn (hx : p.tables.exec = Jvm.exec) {d lo hi x off : Int} {offs : Array Int} {len : Nat} {r : List jV} (hd : decode c.code pc = .ok (.tableswitch d lo hi offs, len)) (ht : jtk pc (.tableswitch d lo hi offs) = true) (hc : ¬ (x < lo ∨ hi < x)) (ho : offs[(x - lo).toNat]? = some off) (h : jPt cl G p l e R s m args below meth c Q c0 s0 z (jtgt pc off) ls r w) : jPt cl G p l e R s m args below meth c Q c0 s0 z pc ls (.inl x :: r) w :=
  h.step (fun h => h.tl) fun arr H locs cells slots _ hS k => lv_tableIn hx rfl hd (by rw [ji_to hS.hd]; exact fun h => hc (Or.inl h)) (by rw [ji_to hS.hd]; exact fun h => hc (Or.inr h)) (by rw [ji_to hS.hd]; exact ho) (jtgt_eq (by
    simp only [jtk, Bool.and_eq_true, List.all_eq_true, decide_eq_true_eq] at ht
    exact ht.2 off (by rw [← Array.getElem?_toList] at ho; exact List.mem_of_getElem? ho))) k
theorem jlko {pc : Nat} {d x : Int} : ∀ (ps : List (Int × Int)), 0 ≤ (pc : Int) + d → (∀ q ∈ ps, 0 ≤ (pc : Int) + q.2) → 0 ≤ (pc : Int) + Op.lookupswitch.offset ps d x
  | [], h, _ => h
  | (a, o) :: r, h, hr => by
    rw [Op.lookupswitch.offset_cons]
    split
    · exact hr (a, o) List.mem_cons_self
    · exact jlko r h fun q hq => hr q (List.mem_cons_of_mem _ hq)
theorem jS_lookup (hx : p.tables.exec = Jvm.exec) {d x : Int} {ps : Array (Int × Int)} {len : Nat} {r : List jV} (hd : decode c.code pc = .ok (.lookupswitch d ps, len)) (ht : jtk pc (.lookupswitch d ps) = true) (h : jPt cl G p l e R s m args below meth c Q c0 s0 z (jtgt pc (Op.lookupswitch.offset ps.toList d x)) ls r w) : jPt cl G p l e R s m args below meth c Q c0 s0 z pc ls (.inl x :: r) w :=
  h.step (fun h => h.tl) fun arr H locs cells slots _ hS k => by
    have ht' : ((decide (0 ≤ (pc : Int) + d) && ps.toList.all fun q => decide (0 ≤ (pc : Int) + q.2)) && (ps.toList.zip (ps.toList.drop 1)).all (fun (a, next) => a.1 < next.1)) = true := ht
    rw [Bool.and_eq_true, Bool.and_eq_true, decide_eq_true_eq, List.all_eq_true] at ht'
    exact lv_lookup hx rfl hd ht'.2 (by rw [ji_to hS.hd]) (jtgt_eq (jlko _ ht'.1.1 fun q hq => of_decide_eq_true (ht'.1.2 q hq))) k
end JStep1

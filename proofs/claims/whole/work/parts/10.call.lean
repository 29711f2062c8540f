/-! ===== contracts of the interpreter's methods; calls, ends, throws ===== -/
def jQc (cl : List vw_C) (G : jGc) (z : jO × jH) : Array Value → State → Outcome → State → Prop := fun _ st o t => ∃ v : Option jV, z.1 = .inl v ∧ o = .returned (v.map jtv) ∧ (∀ u, v = some u → jok u) ∧ jHR cl G z.2 t.heap ∧ va_F (jA G) st t
def jXC (cl : List vw_C) (G : jGc) (z : jO × jH) : String → State → State → Prop := fun E st t => z.1 = .inr E ∧ jHR cl G z.2 t.heap ∧ va_F (jA G) st t
section JCall
variable {cl : List vw_C} {G : jGc} {p : Program} {l : Launch} {e : Env} {R : Room} {s : State} {m : MethodId} {args : Array Value} {below : List Frame} {meth : Method} {c : Code} {Q : State → Prop} {c0 s0 : Nat} {z : jO × jH} {pc : Nat} {ls : jL} {st : List jV} {w : jH}
theorem jS_run {H : Heap} {locs : List Loc} {cells slots mc ms : Nat} {arr : Array Slot} {st0 rest : List Value} {z' : jO × jH} {ar : Array Value} (hr : vx_Run p l e R s m args below meth c H locs cells slots mc ms (F0 m pc arr st0) rest (jQc cl G z' ar) (jXC cl G z') (jA G)) (hS : va_S (jA G) s.heap H locs)
    (kx : ∀ (E : String) (ce : Cell) (q9 : Addr) (H1 : Heap) (locs1 : List Loc), z'.1 = .inr E → jHR cl G z'.2 H1 → va_S (jA G) s.heap H1 locs1 → H1[q9]? = some ce → ce.vm = .none → s.vm.findClass E = some ce.cls → vx_W p l e R s m args below meth c H1 locs1 (cells + mc) (slots + ms) Q (F0 m pc arr rest) q9)
    (kk : ∀ (v : Option jV) (H1 : Heap) (locs1 : List Loc), z'.1 = .inl v → (∀ u, v = some u → jok u) → jHR cl G z'.2 H1 → va_S (jA G) s.heap H1 locs1 → W p l e R s m args below meth c H1 locs1 (cells + mc) (slots + ms) Q (F0 m (pc + 3) arr ((v.map jtv).toList ++ rest))) : W p l e R s m args below meth c H locs cells slots Q (F0 m pc arr st0) := by
  intro T hT X
  rcases hr T hT X with ⟨v, st₀, t, T', L, h0, X', hL, e1, e2, ⟨r, hz, hv, hp, hb, hF⟩, st⟩ | ⟨q, st₀, t, T', L, E, ce, h0, X', hL, e1, e2, ⟨hz, hb, hF⟩, hce, hcv, hcl, st⟩
  · cases hv
    obtain ⟨k1, k2, k3⟩ := vx_keep h0 e1 hS (fun _ _ h => h) (fun _ h => h) hL hF
    obtain ⟨t2, a1, b1⟩ := kk r T'.heap (locs ++ L) hz hp (by rw [e1]; exact hb) k3 T' rfl X'
    exact ⟨t2, st t2 a1, b1⟩
  · obtain ⟨k1, k2, k3⟩ := vx_keep h0 e1 hS (fun _ _ h => h) (fun _ h => h) hL hF
    obtain ⟨t2, a1, b1⟩ := kx E ce q T'.heap (locs ++ L) hz (by rw [e1]; exact hb) k3 (by rw [e1]; exact hce) hcv hcl T' rfl X'
    exact ⟨t2, st.trans a1, b1⟩
/-- from this point, with an exception of the class E on its way, the machine reaches Q -/
def jPx (cl : List vw_C) (G : jGc) (p : Program) (l : Launch) (e : Env) (R : Room) (s : State) (m : MethodId) (args : Array Value) (below : List Frame) (meth : Method) (c : Code) (Q : State → Prop) (c0 s0 : Nat) (z : jO × jH) (E : String) (pc : Nat) (ls : jL) (st : List jV) (w : jH) : Prop :=
  (w.2.2.1 ≤ z.2.2.2.1 ∧ w.2.2.2 ≤ z.2.2.2.2) ∧ ∀ (arr : Array Slot) (H : Heap) (locs : List Loc) (cells slots : Nat) (q9 : Addr) (ce : Cell), ls.length = c.maxLocals → jLo arr ls → jSo st → jHR cl G w H → va_S (jA G) s.heap H locs → w.2.2.1 = c0 + cells → w.2.2.2 = s0 + slots → H[q9]? = some ce → ce.vm = .none → s.vm.findClass E = some ce.cls →
    vx_W p l e R s m args below meth c H locs cells slots Q (F0 m pc arr (st.map jtv)) q9
theorem jS_call {z' : jO × jH} {r : List jV} {ar : Array Value} (hm : w.2.2.1 ≤ z'.2.2.2.1 ∧ w.2.2.2 ≤ z'.2.2.2.2) (hRc : z.2.2.2.1 ≤ c0 + R.cells) (hRs : z.2.2.2.2 ≤ s0 + R.slots) (hsr : jSo st → jSo r)
    (hrun : ∀ (arr : Array Slot) (H : Heap) (locs : List Loc) (cells slots : Nat), ls.length = c.maxLocals → jLo arr ls → jSo st → jHR cl G w H → va_S (jA G) s.heap H locs → cells + (z'.2.2.2.1 - w.2.2.1) ≤ R.cells ∧ slots + (z'.2.2.2.2 - w.2.2.2) ≤ R.slots →
      vx_Run p l e R s m args below meth c H locs cells slots (z'.2.2.2.1 - w.2.2.1) (z'.2.2.2.2 - w.2.2.2) (F0 m pc arr (st.map jtv)) (r.map jtv) (jQc cl G z' ar) (jXC cl G z') (jA G))
    (hret : ∀ v, z'.1 = .inl v → jPt cl G p l e R s m args below meth c Q c0 s0 z (pc + 3) ls (jpush v r) z'.2) (hexc : ∀ E, z'.1 = .inr E → jPx cl G p l e R s m args below meth c Q c0 s0 z E pc ls r z'.2) : jPt cl G p l e R s m args below meth c Q c0 s0 z pc ls st w := by
  have hz : z'.2.2.2.1 ≤ z.2.2.2.1 ∧ z'.2.2.2.2 ≤ z.2.2.2.2 := by
    rcases hz : z'.1 with v | E
    · exact (hret v hz).1
    · exact (hexc E hz).1
  refine ⟨⟨by omega, by omega⟩, fun arr H locs cells slots e0 e1 e2 e3 e4 e5 e6 => ?_⟩
  refine jS_run (hrun arr H locs cells slots e0 e1 e2 e3 e4 ⟨by omega, by omega⟩) e4 (fun E ce q9 H1 locs1 f1 f2 f3 f4 f5 f6 => ?_) (fun v H1 locs1 f1 f2 f3 f4 => ?_)
  · exact (hexc E f1).2 arr H1 locs1 _ _ q9 ce e0 e1 (hsr e2) f2 f3 (by omega) (by omega) f4 f5 f6
  · have hk := (hret v f1).2 arr H1 locs1 (cells + (z'.2.2.2.1 - w.2.2.1)) (slots + (z'.2.2.2.2 - w.2.2.2)) e0 e1 (by
      cases v with
      | none => exact hsr e2
      | some u => exact (hsr e2).cons (f2 u rfl)) f3 f4 (by omega) (by omega)
    cases v with
    | none => exact hk
    | some u => exact hk
theorem jPx_out {E : String} {mc ms : Nat} (hz : z = (.inr E, w)) (hc : z.2.2.2.1 = c0 + mc) (hs : z.2.2.2.2 = s0 + ms) (ht : ∀ x ∈ c.exceptionTable.toList, False) (hlocks : meth.locks = false) :
    jPx cl G p l e R s m args below meth c (vx_MQ below (jQc cl G z) (jXC cl G z) args s mc ms (jA G)) c0 s0 z E pc ls st w := by
  subst hz
  refine ⟨⟨Nat.le_refl _, Nat.le_refl _⟩, fun arr H locs cells slots q9 ce e0 e1 e2 e3 e4 e5 e6 e7 e8 e9 => ?_⟩
  have hc' : w.2.2.1 = c0 + mc := hc
  have hs' : w.2.2.2 = s0 + ms := hs
  exact vx_out (fun x hx => (ht x hx).elim) hlocks e7 e8 e9 (fun t ht' hv => ⟨rfl, by rw [ht']; exact e3, e4.F ht'⟩) (fun x hx => e4.2.2 x hx) (by omega) (by omega)
theorem jPx_catch {E name own : String} {h k n : Nat} {pre suf : List ExceptionTableEntry} {x : ExceptionTableEntry} (hx : p.tables.exec = Jvm.exec) (hown : s.vm.findClass own = some m.cls) (hsplit : c.exceptionTable.toList = pre ++ x :: suf)
    (hpass : ∀ y ∈ pre, covers y pc = false ∨ (y.catchType ≠ 0 ∧ ∃ nm : String, (Cond.classLink own y.catchType nm).before args s = true ∧ va_Nc E nm s)) (hcov : covers x pc = true) (h0 : x.catchType ≠ 0)
    (hlink : (Cond.classLink own x.catchType name).before args s = true) (hcast : (Cond.castable E name).before args s = true) (hd : (∃ f : Fin 4, f.val = k ∧ decode c.code x.handlerPc = .ok (.astore_n f, 1) ∧ h = x.handlerPc + 1) ∨ (decode c.code x.handlerPc = .ok (.astore k, 2) ∧ h = x.handlerPc + 2)) (hk : k < ls.length) (hk8 : k ≠ 8)
    (kk : jPt cl G p l e R s m args below meth c Q c0 s0 z h (ls.set k none) ([]) w) : jPx cl G p l e R s m args below meth c Q c0 s0 z E pc ls st w := by
  refine ⟨kk.1, fun arr H locs cells slots q9 ce e0 e1 e2 e3 e4 e5 e6 e7 e8 e9 => ?_⟩
  refine vx_catch hown pre x suf hsplit hpass hcov h0 hlink hcast e7 e8 e9 ?_
  have hfin : ∀ ls' : Array Slot, lv_has ls' ls.length ((k, jtv (jr q9)) :: (jlv ls).filter (fun q => !(q.1 == k) && !(q.1 + 1 == k && q.2.category == 2))) → W p l e R s m args below meth c H locs cells slots Q (F0 m h ls' []) := fun ls' h' => by
    have h1 := (e1.set1 (v := jr q9) hk hk8 (jok_ref q9) (by simp [jcat]) h').unset k
    rw [List.set_set] at h1
    exact kk.2 ls' H locs cells slots (by rw [List.length_set]; exact e0) h1 jSo.nil e3 e4 e5 e6
  rcases hd with ⟨f, hf, hd, rfl⟩ | ⟨hd, rfl⟩
  · subst hf
    exact lv_astore_n hx rfl hd rfl e1.has hk rfl hfin
  · exact lv_astore hx rfl hd e1.has hk rfl hfin
/-! ends -/
theorem jE_i {ty : FieldType} {x : Int} {mc ms : Nat} (hx : p.tables.exec = Jvm.exec) (hz : z = (.inl (some (.inl x)), w)) (hc : z.2.2.2.1 = c0 + mc) (hs : z.2.2.2.2 = s0 + ms) (hlocks : meth.locks = false) (hr : meth.sig.returnType = some ty) (hf : jfits ty x = true) (hd : decode c.code pc = .ok (.ireturn, 1)) :
    jPt cl G p l e R s m args below meth c (vx_MQ below (jQc cl G z) (jXC cl G z) args s mc ms (jA G)) c0 s0 z pc ls [.inl x] w := by
  subst hz
  have hc' : w.2.2.1 = c0 + mc := hc
  have hs' : w.2.2.2 = s0 + ms := hs
  refine ⟨⟨Nat.le_refl _, Nat.le_refl _⟩, fun arr H locs cells slots e0 e1 e2 e3 e4 e5 e6 => ?_⟩
  have h1 : cells = mc := by omega
  have h2 : slots = ms := by omega
  subst h1
  subst h2
  have hv : jr32 x := e2.hd
  refine vx_ret (W.zret hx rfl hr (narrow_of_fits (jfp_fits (jfits_fp hf hv) (by rintro rfl; simp [jfits] at hf))) (fun t ht hW => ⟨_, rfl, rfl, fun u hu => by cases hu; exact hv, by rw [ht]; exact e3, e4.F ht⟩) (fun q hq => e4.2.2 q hq) hd hlocks)
theorem jE_a {ty : FieldType} {x : Nat} {mc ms : Nat} (hx : p.tables.exec = Jvm.exec) (hz : z = (.inl (some (jr x)), w)) (hc : z.2.2.2.1 = c0 + mc) (hs : z.2.2.2.2 = s0 + ms) (hlocks : meth.locks = false) (hr : meth.sig.returnType = some ty) (hty : (∃ n, ty = .object n) ∨ ∃ t, ty = .array t) (hd : decode c.code pc = .ok (.areturn, 1)) :
    jPt cl G p l e R s m args below meth c (vx_MQ below (jQc cl G z) (jXC cl G z) args s mc ms (jA G)) c0 s0 z pc ls [jr x] w := by
  subst hz
  have hc' : w.2.2.1 = c0 + mc := hc
  have hs' : w.2.2.2 = s0 + ms := hs
  refine ⟨⟨Nat.le_refl _, Nat.le_refl _⟩, fun arr H locs cells slots e0 e1 e2 e3 e4 e5 e6 => ?_⟩
  have h1 : cells = mc := by omega
  have h2 : slots = ms := by omega
  subst h1
  subst h2
  exact vx_ret (W.aret hx rfl hr hty (Or.inr ⟨x, rfl⟩) (fun t ht hW => ⟨_, rfl, rfl, fun u hu => by cases hu; trivial, by rw [ht]; exact e3, e4.F ht⟩) (fun q hq => e4.2.2 q hq) hd hlocks)
theorem jE_f {x : UInt32} {mc ms : Nat} (hx : p.tables.exec = Jvm.exec) (hz : z = (.inl (some (.inr (.inr (.float x)))), w)) (hc : z.2.2.2.1 = c0 + mc) (hs : z.2.2.2.2 = s0 + ms) (hlocks : meth.locks = false) (hr : meth.sig.returnType = some .float) (hd : decode c.code pc = .ok (.freturn, 1)) :
    jPt cl G p l e R s m args below meth c (vx_MQ below (jQc cl G z) (jXC cl G z) args s mc ms (jA G)) c0 s0 z pc ls [.inr (.inr (.float x))] w := by
  subst hz
  have hc' : w.2.2.1 = c0 + mc := hc
  have hs' : w.2.2.2 = s0 + ms := hs
  refine ⟨⟨Nat.le_refl _, Nat.le_refl _⟩, fun arr H locs cells slots e0 e1 e2 e3 e4 e5 e6 => ?_⟩
  have h1 : cells = mc := by omega
  have h2 : slots = ms := by omega
  subst h1
  subst h2
  exact vx_ret (W.fret hx rfl hr (fun t ht hW => ⟨_, rfl, rfl, fun u hu => by cases hu; trivial, by rw [ht]; exact e3, e4.F ht⟩) (fun q hq => e4.2.2 q hq) hd hlocks)
theorem jE_d {x : UInt64} {mc ms : Nat} (hx : p.tables.exec = Jvm.exec) (hz : z = (.inl (some (.inr (.inr (.double x)))), w)) (hc : z.2.2.2.1 = c0 + mc) (hs : z.2.2.2.2 = s0 + ms) (hlocks : meth.locks = false) (hr : meth.sig.returnType = some .double) (hd : decode c.code pc = .ok (.dreturn, 1)) :
    jPt cl G p l e R s m args below meth c (vx_MQ below (jQc cl G z) (jXC cl G z) args s mc ms (jA G)) c0 s0 z pc ls [.inr (.inr (.double x))] w := by
  subst hz
  have hc' : w.2.2.1 = c0 + mc := hc
  have hs' : w.2.2.2 = s0 + ms := hs
  refine ⟨⟨Nat.le_refl _, Nat.le_refl _⟩, fun arr H locs cells slots e0 e1 e2 e3 e4 e5 e6 => ?_⟩
  have h1 : cells = mc := by omega
  have h2 : slots = ms := by omega
  subst h1
  subst h2
  exact vx_ret (W.dret hx rfl hr (fun t ht hW => ⟨_, rfl, rfl, fun u hu => by cases hu; trivial, by rw [ht]; exact e3, e4.F ht⟩) (fun q hq => e4.2.2 q hq) hd hlocks)
theorem jE_v {mc ms : Nat} (hx : p.tables.exec = Jvm.exec) (hz : z = (.inl none, w)) (hc : z.2.2.2.1 = c0 + mc) (hs : z.2.2.2.2 = s0 + ms) (hlocks : meth.locks = false) (hr : meth.sig.returnType = none) (hd : decode c.code pc = .ok (.return_, 1)) :
    jPt cl G p l e R s m args below meth c (vx_MQ below (jQc cl G z) (jXC cl G z) args s mc ms (jA G)) c0 s0 z pc ls [] w := by
  subst hz
  have hc' : w.2.2.1 = c0 + mc := hc
  have hs' : w.2.2.2 = s0 + ms := hs
  refine ⟨⟨Nat.le_refl _, Nat.le_refl _⟩, fun arr H locs cells slots e0 e1 e2 e3 e4 e5 e6 => ?_⟩
  have h1 : cells = mc := by omega
  have h2 : slots = ms := by omega
  subst h1
  subst h2
  exact vx_ret (W.vret hx rfl hr (fun t ht hW => ⟨_, rfl, rfl, (fun u hu => nomatch hu), by rw [ht]; exact e3, e4.F ht⟩) (fun q hq => e4.2.2 q hq) hd hlocks)
theorem jS_objInit (hx : p.tables.exec = Jvm.exec) {own : String} {idx a : Nat} {r : List jV} (hown : s.vm.findClass own = some m.cls) (hlink : (Cond.methodLink own idx Lib.objectInit).before args s = true) (hinst : (Cond.instanceMethod Lib.objectInit).before args s = true) (hcode : (Cond.code Lib.objectInit ⟨#[0xb1]⟩ 1 none).before args s = true)
    (hR : 1 ≤ R.frames ∧ 20 ≤ R.locals) (hcat : Nat.ble (jcats r) 8 = true) (hd : decode c.code pc = .ok (.invokespecial idx, 3)) (h : jPt cl G p l e R s m args below meth c Q c0 s0 z (pc + 3) ls r w) : jPt cl G p l e R s m args below meth c Q c0 s0 z pc ls (jr a :: r) w := by
  refine ⟨h.1, fun arr H locs cells slots e0 e1 e2 e3 e4 e5 e6 => ?_⟩
  refine W.objInit hx rfl hown hlink hinst hcode rfl (e1.1.trans e0) (a := a) (rest := r.map jtv) rfl hd hR.1 ?_ (h.2 arr H locs cells slots e0 e1 e2.tl e3 e4 e5 e6)
  rw [jcats_sum e2.tl]
  have := Nat.le_of_ble_eq_true hcat
  show 2 * 0 + _ + 12 ≤ _
  omega
end JCall

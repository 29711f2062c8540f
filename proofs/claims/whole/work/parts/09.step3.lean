/-! ===== one step of the interpreter is one step of the machine's: what is made ===== -/
theorem jHR.size {cl : List vw_C} {G : jGc} {w : jH} {H : Heap} (h : jHR cl G w H) {a : Nat} (ha : w.2.1 = some a) : H.size = a := h.2.2 a ha
theorem jdef0 : jtv (.inl 0) = .int 0 := rfl
section JStep3
variable {cl : List vw_C} {G : jGc} {p : Program} {l : Launch} {e : Env} {R : Room} {s : State} {m : MethodId} {args : Array Value} {below : List Frame} {meth : Method} {c : Code} {Q : State → Prop} {c0 s0 : Nat} {z : jO × jH} {pc : Nat} {ls : jL} {st : List jV} {w : jH}
theorem jS_newo (hx : p.tables.exec = Jvm.exec) (hW : jWo cl G s) {own C : String} {T : u_T} {N ci idx a : Nat} (hown : s.vm.findClass own = some m.cls) (hc : cl[ci]? = some (C, T, N)) (hin : ∀ w ∈ u_ws C T N, w.before args s = true) {ty : Nat → FieldType} (hty : ∀ k, k < N → parseFieldDescriptor (T k).2.2.1 = some (ty k)) (hcl : (Cond.classLink own idx C).before args s = true) (hinst : (Cond.instantiable C N).before args s = true) (hini : (Cond.initialized C).before args s = true)
    {fs : List jV} (hfs : ∀ j, j < N → defaultValue (ty j) = vp_V (fs.map jtv) j) (hok : ∀ v ∈ fs, jok v) (hN : fs.length = N) (hRc : z.2.2.2.1 ≤ c0 + R.cells) (hRs : z.2.2.2.2 ≤ s0 + R.slots) (hd : decode c.code pc = .ok (.new idx, 3)) (ha : w.2.1 = some a)
    (h : jPt cl G p l e R s m args below meth c Q c0 s0 z (pc + 3) ls (jr a :: st) ((fun q => if q = a then some (.inr (.inl (ci, fs))) else w.1 q, (some (a + 1), (w.2.2.1 + 1, w.2.2.2 + fs.length))))) : jPt cl G p l e R s m args below meth c Q c0 s0 z pc ls st w := by
  subst hN
  have h1 : w.2.2.1 + 1 ≤ z.2.2.2.1 := h.1.1
  have h2 : w.2.2.2 + fs.length ≤ z.2.2.2.2 := h.1.2
  refine ⟨⟨by omega, by omega⟩, fun arr H locs cells slots e0 e1 e2 e3 e4 e5 e6 => ?_⟩
  have hKn := hW.1.1 ci _ hc
  refine W.newcK hx rfl hown hcl hinst hini rfl hd (by omega) (by omega) hKn.2.1 rfl fun H1 kC hkC f1 f2 f3 => ?_
  have hs := e3.size ha
  rw [hs] at f1 f2 f3 ⊢
  have hb : jcr cl G a (.inr (.inl (ci, fs))) H1 := ⟨by have := e3.1; omega, hok, _, hc, (u_born (ws := u_ws C T fs.length) ty hin (fun _ h => h) hKn hkC f1 hty).to hfs⟩
  have e3' := e3.new (n := fs.length) ha hb f2 f3
  exact h.2 arr H1 locs (cells + 1) (slots + fs.length) e0 e1 (e2.cons (jok_ref a)) e3' (jS_new e4 (by omega) (fun q hq => f3 q (by omega))) (by show w.2.2.1 + 1 = _; omega) (by show w.2.2.2 + fs.length = _; omega)
theorem jS_newarr (hx : p.tables.exec = Jvm.exec) (hW : jWo cl G s) {aty : ArrayType} {ty : FieldType} {a : Nat} {x : Int} {r : List jV} (hty : newarray.typeOf aty = ty) (hmem : (jar G ty, ty) ∈ jtys G) (hra : va_RA s (jar G ty) ty → s.vm.findClass ("[" ++ ty.toString) = some (jar G ty)) (hcb : componentBytes ty ≤ 8) (harr : (Cond.arrayClass ty).before args s = true) {en : jE} (hen : ∀ H1 : Heap, jn0 G ≤ a → x.toNat < 2000 → H1[a]? = some (arrV (jar G ty) x.toNat (fun _ => defaultValue ty)) → jcr cl G a en H1)
    (hRc : z.2.2.2.1 ≤ c0 + R.cells) (hRs : z.2.2.2.2 ≤ s0 + R.slots) (hd : decode c.code pc = .ok (.newarray aty, 2)) (h0 : 0 ≤ x) (h9 : x < 2000) (ha : w.2.1 = some a)
    (h : jPt cl G p l e R s m args below meth c Q c0 s0 z (pc + 2) ls (jr a :: r) ((fun q => if q = a then some en else w.1 q, (some (a + 1), (w.2.2.1 + 1, w.2.2.2 + x.toNat))))) : jPt cl G p l e R s m args below meth c Q c0 s0 z pc ls (.inl x :: r) w := by
  have h1 : w.2.2.1 + 1 ≤ z.2.2.2.1 := h.1.1
  have h2 : w.2.2.2 + x.toNat ≤ z.2.2.2.2 := h.1.2
  refine ⟨⟨by omega, by omega⟩, fun arr H locs cells slots e0 e1 e2 e3 e4 e5 e6 => ?_⟩
  subst hty
  have hxr : jr32 x := e2.hd
  have hs := e3.size ha
  refine va_newaK hx rfl harr rfl hd rfl (n := Int32.ofInt x) (N := x.toNat) (rest := r.map jtv) (by rw [ji_0, ji_lt hxr jr0]; omega) (ji_toN hxr) (Nat.le_trans (Nat.mul_le_mul (by omega : x.toNat ≤ 2000) hcb) (by decide)) (by omega) (by omega) hs fun H1 cA f1 f2 f3 f4 f5 => ?_
  have hcA : cA = jar G (newarray.typeOf aty) := Option.some.inj (f5.symm.trans (hra (hW.ra hmem)))
  subst hcA
  have e3' := e3.new (n := x.toNat) ha (hen H1 (by have := e3.1; omega) (by omega) f1) f2 f3
  exact h.2 arr H1 locs (cells + 1) (slots + x.toNat) e0 e1 (e2.tl.cons (jok_ref a)) e3' (jS_new e4 (by omega) (fun q hq => f3 q (by omega))) (by show w.2.2.1 + 1 = _; omega) (by show w.2.2.2 + x.toNat = _; omega)
theorem jS_anew (hx : p.tables.exec = Jvm.exec) (hW : jWo cl G s) {own : String} {a idx : Nat} {r : List jV} (hown : s.vm.findClass own = some m.cls) (hcl : (Cond.classLink own idx "HabitRegistry$State").before args s = true) (hover : (Cond.arrayOver (.object "HabitRegistry$State")).before args s = true)
    (hRc : z.2.2.2.1 ≤ c0 + R.cells) (hRs : z.2.2.2.2 ≤ s0 + R.slots) (hd : decode c.code pc = .ok (.anewarray idx, 3)) (ha : w.2.1 = some a)
    (h : jPt cl G p l e R s m args below meth c Q c0 s0 z (pc + 3) ls (jr a :: r) ((fun q => if q = a then some (.inr (.inr (.object "HabitRegistry$State", (9, fun _ => .null)))) else w.1 q, (some (a + 1), (w.2.2.1 + 1, w.2.2.2 + 9))))) : jPt cl G p l e R s m args below meth c Q c0 s0 z pc ls (.inl 9 :: r) w := by
  have h1 : w.2.2.1 + 1 ≤ z.2.2.2.1 := h.1.1
  have h2 : w.2.2.2 + 9 ≤ z.2.2.2.2 := h.1.2
  refine ⟨⟨by omega, by omega⟩, fun arr H locs cells slots e0 e1 e2 e3 e4 e5 e6 => ?_⟩
  have hs := e3.size ha
  have h9 : (Int32.ofInt 9).toNatClampNeg = 9 := by decide
  refine W.anew hx rfl hown hcl hover rfl hd (n := Int32.ofInt 9) (rest := r.map jtv) rfl (by decide) (by rw [h9]; decide) (by omega) (by rw [h9]; omega) fun cA kA comp g1 g2 g3 g4 => ?_
  rw [h9]
  obtain ⟨kA', comp', i1, i2, i3, i4⟩ := hW.ra (jty_state G)
  have hcA : cA = jar G (.object "HabitRegistry$State") := Option.some.inj (g1.symm.trans i4)
  subst hcA
  generalize hH1 : H.push ({ cls := jar G (.object "HabitRegistry$State"), slots := Array.replicate 9 .null, vm := .none } : Cell) = H1
  have z1 : H1.size = a + 1 := by rw [← hH1, Array.size_push, hs]
  have f1 : H1[a]? = some (arrV (jar G (.object "HabitRegistry$State")) 9 (fun _ => .null)) := by rw [← hH1, ← hs, Array.getElem?_push_size, ← arrV_new]
  have f3 : ∀ q : Nat, q < a → H1[q]? = H[q]? := fun q hq => by rw [← hH1, Array.getElem?_push, if_neg (by omega)]
  rw [hs]
  have e3' := e3.new (n := 9) ha (e := .inr (.inr (.object "HabitRegistry$State", (9, fun _ => .null)))) ⟨by decide, Or.inr ⟨Or.inr rfl, by have := e3.1; omega, f1⟩⟩ z1 f3
  exact h.2 arr H1 locs (cells + 1) (slots + 9) e0 e1 (e2.tl.cons (jok_ref a)) e3' (jS_new e4 (by omega) (fun q hq => f3 q (by omega))) (by show w.2.2.1 + 1 = _; omega) (by show w.2.2.2 + 9 = _; omega)
theorem jS_aast (hx : p.tables.exec = Jvm.exec) (hW : jWo cl G s) {a n x ci N : Nat} {T : u_T} {i : Int} {g : Nat → Value} {fs : List jV} {r : List jV} (hc : cl[ci]? = some ("HabitRegistry$State", T, N)) (hd : decode c.code pc = .ok (.aastore, 1)) (hw : w.1 a = some (.inr (.inr (.object "HabitRegistry$State", (n, g))))) (h0 : 0 ≤ i) (hn : i < (n : Int)) (hv : w.1 x = some (.inr (.inl (ci, fs))))
    (h : jPt cl G p l e R s m args below meth c Q c0 s0 z (pc + 1) ls r (jset w a (.inr (.inr (.object "HabitRegistry$State", (n, juv g i.toNat (.ref x))))))) : jPt cl G p l e R s m args below meth c Q c0 s0 z pc ls (jr x :: .inl i :: jr a :: r) w := by
  refine ⟨h.1, fun arr H locs cells slots e0 e1 e2 e3 e4 e5 e6 => ?_⟩
  obtain ⟨b1, b2⟩ := e3.2.1 _ _ hw
  obtain ⟨v1, v2, rr, v3, cv, v4, v5, v6, v7⟩ := e3.2.1 _ _ hv
  have hrr : rr = ("HabitRegistry$State", T, N) := Option.some.inj (v3.symm.trans hc)
  subst hrr
  have hi : jr32 i := e2.tl.hd
  rcases b2 with ⟨hb, -⟩ | ⟨b0, b2, b3⟩
  · cases hb
  · have hcls := (hW.1.1 ci _ hc).2
    obtain ⟨kA, comp, k1, k2, k3, -⟩ := hW.ra (jty_state G)
    have hcomp : comp = (jDD G).1 ci := Option.some.inj (k3.symm.trans hcls.1)
    subst hcomp
    obtain ⟨kC, hkC, -⟩ := hcls.2
    refine W.aast hx rfl b3 (fun q h => by cases h) (fun h => by cases h) k1 k2 rfl hkC ⟨by rw [ji_0, ji_lt hi jr0]; omega, by rw [arrV_size, ji_toN hi]; omega⟩ v4 (fun q h => by rw [v6] at h; cases h) (by rw [v5]; exact hkC) (by rw [v5]; exact va_assign hcls) rfl rfl hd fun H' q1 q2 q3 => ?_
    rw [ji_toN hi, arrV_store, jupv] at q1
    exact h.2 arr H' _ cells slots e0 e1 e2.tl.tl.tl (e3.put ⟨b1, Or.inr ⟨b0, b2, q1⟩⟩ q2 q3) (jS_put e4 b2 q2 q3 _) e5 e6
end JStep3

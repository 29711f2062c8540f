/-! ===== the world of a run ===== -/
def jWld (G : jGc) (s : State) : Prop :=
  (jWo jClasses G s ∧ vx_Zq Bundle.tN "UNASSIGNED_STACK" Bundle.steD (jA G) s s.heap ∧ vx_Zq Bundle.tN "SUPPRESSED_SENTINEL" Bundle.listD (jA G) s s.heap) ∧
  (∀ q ∈ jstl, ∃ sa, vk_R "HabitRegistry" q.1 q.2 sa s) ∧ (∀ a ∈ jexc, ∀ b ∈ jexc, a ≠ b → va_Nc a b s) ∧
  ∃ (sa d : Nat) (arr : Cell), vk_R "HabitRegistry$Script" 50 "fcbapnekgy" sa s ∧ ¬ jA G sa ∧ ¬ jA G d ∧ jSg sa d arr s ∧ va_Z "java/lang/String" "COMPACT_STRINGS" "Z" (.int 1) (jA G) s s.heap
theorem jWld.go {G : jGc} {s U : State} (hW : s.WarmedH U.vm) (hq : ∀ q : Nat, q < s.heap.size → ¬ jA G q → U.heap[q]? = s.heap[q]?) (h : jWld G s) : jWld G U := by
  obtain ⟨⟨h1, h2, h3⟩, h4, h5, sa, d, arr, k1, k2, k3, k4, k5⟩ := h
  have hA : s.vm.Alike U.vm := hW.alike
  have l1 : sa < s.heap.size := by
    obtain ⟨-, -, ⟨cl, k, q1, -⟩, -⟩ := id k4
    exact (Array.getElem?_eq_some_iff.mp q1).1
  have l2 : d < s.heap.size := (Array.getElem?_eq_some_iff.mp k4.2.2.2.1).1
  refine ⟨⟨h1.moved hA, vx_Zq.moved hA (h2.kept hq), vx_Zq.moved hA (h3.kept hq)⟩, fun q hq' => ?_, fun a ha b hb hab => va_Nc.moved hA (h5 a ha b hb hab), sa, d, arr, vk_R.warm hW k1, k2, k3, k4.go hA (hq sa l1 k2) (hq d l2 k3), va_Z.moved hA (k5.kept hq)⟩
  obtain ⟨a, ha⟩ := h4 q hq'
  exact ⟨a, vk_R.warm hW ha⟩
def jPc (G : jGc) (as : List jV) (w : jH) : Array Value → State → Prop := fun args U => args = (as.map jtv).toArray ∧ (∀ v ∈ as, jok v) ∧ jHR jClasses G w U.heap ∧ jWld G U
theorem jcalling (U : State) (g : JFrame) (mk : MethodId) (a : Array Value) : (U.calling g mk a).vm = U.vm ∧ (U.calling g mk a).heap = U.heap := by
  unfold State.calling State.pushFrame
  constructor <;> rfl
theorem jPc_blind {G : jGc} {as : List jV} {w : jH} : FrameBlind (jPc G as w) := fun a U g mk h => by
  obtain ⟨e1, e2⟩ := jcalling U g mk a
  refine ⟨h.1, h.2.1, by rw [e2]; exact h.2.2.1, jWld.go (s := U) (by rw [e1]; exact State.WarmedH.refl U) (fun q _ _ => by rw [e2]) h.2.2.2⟩
theorem jPI_blind {sa d : Nat} {arr : Cell} {x : Int} {A : Nat → Prop} : FrameBlind (jPI sa d arr x A) := fun a U g mk h => by
  obtain ⟨e1, e2⟩ := jcalling U g mk a
  have hA : U.vm.Alike (U.calling g mk a).vm := by rw [e1]; exact (State.WarmedH.refl U).alike
  exact ⟨h.1, h.2.1.go hA (by rw [e2]) (by rw [e2]), by rw [e2]; exact va_Z.moved hA h.2.2⟩
/-- the room of a body of depth d -/
def jRm (d : Nat) (w : jH) (z : jO × jH) : Room := { frames := d + 8, cells := z.2.2.2.1 - w.2.2.1, slots := z.2.2.2.2 - w.2.2.2, locals := 200 + 60 * d }
/-- every method's contract, to the depth d -/
def jSp (l : Launch) (G : jGc) (d : Nat) : Prop := ∀ (mu : Nat) (as : List jV) (w : jH) (z : jO × jH), jX d mu as w = some z →
  vx_Met l (jy mu) (jcw0 mu :: jTw) (jRm d w z) (jPc G as w) (jQc jClasses G z) (jXC jClasses G z) (z.2.2.2.1 - w.2.2.1) (z.2.2.2.2 - w.2.2.2) (jA G)
/-! facts of the code and of the tables -/
def jpc1 (mu : Nat) (e : Nat × (Instr × Nat)) : Bool := Nat.blt e.1 60000 && (match e.2.1 with
  | .newarray .int => true
  | .newarray .char => true
  | .newarray .boolean => true
  | .newarray .long => true
  | .newarray .double => true
  | .newarray _ => false
  | .ldc idx => (match jCr mu idx with
    | some k => Nat.beq mu 89 && (Nat.beq idx 50 && (decide (k = 2) && (decide (jcode jT0 mu (e.1 + 2) = some (.iload_n 2)) && decide (jcode jT0 mu (e.1 + 3) = some (.invokevirtual 52)))))
    | none => true)
  | _ => true)
theorem jpc_ok : ((List.range 338).all fun mu => (jpages mu).all fun g => g.all (jpc1 mu)) = true := by decide +kernel
theorem jpc_lt {mu pc : Nat} (h : (jcode jT0 mu pc).isSome = true) : pc < 60000 ∧ mu < 338 := by
  obtain ⟨i, hi⟩ := Option.isSome_iff_exists.mp h
  obtain ⟨len, h1⟩ := jins jpc_ok hi
  unfold jpc1 at h1
  rw [Bool.and_eq_true] at h1
  obtain ⟨len, h2, -⟩ := jCode_dec mu pc i hi
  obtain ⟨g, hg, hm⟩ := List.mem_flatten.mp h2
  refine ⟨?_, jpages_lt hg⟩
  have h3 : Nat.blt pc 60000 = true := h1.1
  exact Nat.le_of_ble_eq_true h3
theorem jna_at {mu pc : Nat} {aty : ArrayType} (h : jcode jT0 mu pc = some (.newarray aty)) : aty = .int ∨ aty = .char ∨ aty = .boolean ∨ aty = .long ∨ aty = .double := by
  obtain ⟨len, h1⟩ := jins jpc_ok h
  unfold jpc1 at h1
  rw [Bool.and_eq_true] at h1
  have h2 := h1.2
  cases aty <;> first | (cases h2; done) | simp
theorem jix_at {mu pc idx : Nat} {k : Int} (h : jcode jT0 mu pc = some (.ldc idx)) (hk : jcres jT0 mu idx = some k) : mu = 89 ∧ idx = 50 ∧ k = 2 ∧ jcode jT0 mu (pc + 2) = some (.iload_n 2) ∧ jcode jT0 mu (pc + 3) = some (.invokevirtual 52) := by
  obtain ⟨len, h1⟩ := jins jpc_ok h
  unfold jpc1 at h1
  rw [Bool.and_eq_true] at h1
  have h2 := h1.2
  dsimp only at h2
  rw [show jCr mu idx = some k from hk] at h2
  dsimp only at h2
  rw [Bool.and_eq_true, Bool.and_eq_true, Bool.and_eq_true, Bool.and_eq_true, decide_eq_true_eq, decide_eq_true_eq, decide_eq_true_eq] at h2
  exact ⟨Nat.eq_of_beq_eq_true h2.1, Nat.eq_of_beq_eq_true h2.2.1, h2.2.2.1, h2.2.2.2.1, h2.2.2.2.2⟩
theorem jnm_ok : ((List.range 338).all fun mu => plainName (jy mu).cls && (decide ((jy mu).cls = jcn mu) && Nat.ble (jMx mu) 41)) = true := by decide +kernel
theorem jnm_at {mu : Nat} (h : mu < 338) : plainName (jy mu).cls = true ∧ (jy mu).cls = jcn mu ∧ jMx mu ≤ 41 := by
  have h1 := List.all_eq_true.mp jnm_ok mu (List.mem_range.mpr h)
  rw [Bool.and_eq_true, Bool.and_eq_true, decide_eq_true_eq] at h1
  exact ⟨h1.1, h1.2.1, Nat.le_of_ble_eq_true h1.2.2⟩
theorem jcl_ok : ((List.range 10).all fun k => decide ((jClasses[k]?).map (fun r => r.1) = some (jcn0 k))) = true := by decide +kernel
theorem jcl_nm {k : Nat} {r : vw_C} (hk : k < 10) (h : jClasses[k]? = some r) : r.1 = jcn0 k := by
  have h1 := List.all_eq_true.mp jcl_ok k (List.mem_range.mpr hk)
  rw [decide_eq_true_eq, h] at h1
  exact Option.some.inj h1
theorem jidx_link : Cond.methodLink "HabitRegistry$Script" 52 Jvm.Free.StrIndexOf.indexOf1N ∈ jTw ∧ Cond.instanceMethod Jvm.Free.StrIndexOf.indexOf1N ∈ jTw ∧ Cond.selects "java/lang/String" Jvm.Free.StrIndexOf.indexOf1N Jvm.Free.StrIndexOf.indexOf1N ∈ jTw := ⟨jmem_mem (by decide +kernel), jmem_mem (by decide +kernel), jmem_mem (by decide +kernel)⟩
theorem jxr_dec (E : String) : decode (jxrx E) 0 = .ok (.aload_n 0, 1) ∧ decode (jxrx E) 1 = .ok (.aload_n 1, 1) ∧ decode (jxrx E) 2 = .ok (.invokespecial (jxix E), 3) ∧ decode (jxrx E) 5 = .ok (.return_, 1) := by
  unfold jxrx jxix
  split
  · exact ⟨by decide +kernel, by decide +kernel, by decide +kernel, by decide +kernel⟩
  · exact ⟨by decide +kernel, by decide +kernel, by decide +kernel, by decide +kernel⟩
def jqd (h : ExceptionTableEntry) : Nat × Nat × Nat × Nat := (h.startPc, h.endPc, h.handlerPc, h.catchType)
/-- the table of a body -/
def jTb (mu : Nat) (c : Code) : Prop := c.exceptionTable.toList.map jqd = (jhof mu).getD []
theorem jhd_two (mu : Nat) : ∀ (l : List (Nat × List (String × (Nat × Nat)))) (r : List (Nat × jHH)), jall2 jhd2 l r = true → (jas l mu = none ∧ jas r mu = none) ∨ ∃ a b, jas l mu = some a ∧ jas r mu = some b ∧ jall2 (jhd1 mu) b a = true
  | [], [], _ => Or.inl ⟨rfl, rfl⟩
  | [], _ :: _, h => by cases h
  | _ :: _, [], h => by cases h
  | (q, a) :: l, (q', b) :: r, h => by
    have h' : ((Nat.beq q q' && jall2 (jhd1 q) b a) && jall2 jhd2 l r) = true := h
    rw [Bool.and_eq_true, Bool.and_eq_true] at h'
    obtain ⟨⟨h1, h2⟩, h3⟩ := h'
    have e := Nat.eq_of_beq_eq_true h1
    subst e
    unfold jas
    cases hq : Nat.beq q mu
    · exact jhd_two mu l r h3
    · have e := Nat.eq_of_beq_eq_true hq
      subst e
      exact Or.inr ⟨a, b, rfl, rfl, h2⟩
theorem jhd_at (mu : Nat) : (jas jhl mu = none ∧ jhof mu = none) ∨ ∃ a b, jas jhl mu = some a ∧ jhof mu = some b ∧ jall2 (jhd1 mu) b a = true := jhd_two mu jhl jhh jhd_ok
theorem jhd1_at {mu : Nat} {q : Nat × Nat × Nat × Nat} {r : String × (Nat × Nat)} (h : jhd1 mu q r = true) : Cond.classLink (jcn mu) q.2.2.2 r.1 ∈ jTw ∧ Cond.castable r.1 r.1 ∈ jTw ∧ q.2.2.2 ≠ 0 ∧ r.2.2 ≠ 8 ∧ r.2.2 < jMx mu ∧
    ((∃ f : Fin 4, f.val = r.2.2 ∧ jcode jT0 mu q.2.2.1 = some (.astore_n f) ∧ r.2.1 = q.2.2.1 + 1) ∨ (jcode jT0 mu q.2.2.1 = some (.astore r.2.2) ∧ r.2.1 = q.2.2.1 + 2)) := by
  unfold jhd1 at h
  rw [Bool.and_eq_true, Bool.and_eq_true, Bool.and_eq_true, Bool.and_eq_true, Bool.and_eq_true, decide_eq_true_eq, decide_eq_true_eq, decide_eq_true_eq] at h
  obtain ⟨h1, h2, h3, h4, h5, h6⟩ := h
  refine ⟨jmem_mem h1, jmem_mem h2, h3, h4, h5, ?_⟩
  split at h6
  · rename_i f hf
    rw [Bool.and_eq_true] at h6
    exact Or.inl ⟨f, Nat.eq_of_beq_eq_true h6.1, hf, Nat.eq_of_beq_eq_true h6.2⟩
  · rename_i k hf
    rw [Bool.and_eq_true] at h6
    have e := Nat.eq_of_beq_eq_true h6.1
    subst e
    exact Or.inr ⟨hf, Nat.eq_of_beq_eq_true h6.2⟩
  · cases h6
/-- the row that catches, past rows that name other classes -/
theorem jsplit {mu : Nat} {E : String} {h k : Nat} (hh : h < 60000) : ∀ (l : List (String × (Nat × Nat))) (b : List (Nat × Nat × Nat × Nat)) (tb : List ExceptionTableEntry), jall2 (jhd1 mu) b l = true → tb.map jqd = b → jhx l E = some (h, k) →
    ∃ (pre suf : List ExceptionTableEntry) (x : ExceptionTableEntry), tb = pre ++ x :: suf ∧ (∀ y ∈ pre, ∃ r ∈ l, r.1 ≠ E ∧ jhd1 mu (jqd y) r = true) ∧ jhd1 mu (jqd x) (E, (h, k)) = true
  | [], [], _, _, _, hx => by
    have e : (some (60000, 0) : Option (Nat × Nat)) = some (h, k) := hx
    cases e
    exact absurd hh (by omega)
  | [], _ :: _, _, h1, _, _ => by cases h1
  | _ :: _, [], _, h1, _, _ => by cases h1
  | (n, q) :: l, b0 :: b, [], _, ht, _ => by cases ht
  | (n, q) :: l, b0 :: b, x :: tb, h1, ht, hx => by
    have h1' : (jhd1 mu b0 (n, q) && jall2 (jhd1 mu) b l) = true := h1
    rw [Bool.and_eq_true] at h1'
    have ht' : jqd x = b0 ∧ tb.map jqd = b := List.cons.inj ht
    have hx' : (if E = n then some q else jhx l E) = some (h, k) := hx
    by_cases e : E = n
    · rw [if_pos e] at hx'
      cases hx'
      subst e
      exact ⟨[], tb, x, rfl, fun y hy => absurd hy List.not_mem_nil, by rw [ht'.1]; exact h1'.1⟩
    · rw [if_neg e] at hx'
      obtain ⟨pre, suf, y, q1, q2, q3⟩ := jsplit hh l b tb h1'.2 ht'.2 hx'
      refine ⟨x :: pre, suf, y, by rw [q1]; rfl, fun u hu => ?_, q3⟩
      rcases List.mem_cons.mp hu with rfl | hu
      · exact ⟨(n, q), List.mem_cons_self, fun e9 => e e9.symm, by rw [ht'.1]; exact h1'.1⟩
      · obtain ⟨r, r1, r2⟩ := q2 u hu
        exact ⟨r, List.mem_cons_of_mem _ r1, r2⟩
theorem jhl_names {mu : Nat} {l : List (String × (Nat × Nat))} (h : jas jhl mu = some l) : ∀ r ∈ l, r.1 ∈ jexc := fun r hr => by
  have h1 := List.all_eq_true.mp (List.all_eq_true.mp jhx_mem _ (jas_mem _ _ _ h)) r hr
  obtain ⟨X, h2, h3⟩ := List.any_eq_true.mp h1
  rw [decide_eq_true_eq] at h3
  exact h3 ▸ h2
theorem jhx_ne : ∀ (a : List (String × (Nat × Nat))) (E : String), jhx a E = none → False
  | [], _, h => by cases h
  | (n, q) :: r, E, h => by
    have h' : (if E = n then some q else jhx r E) = none := h
    by_cases e : E = n
    · rw [if_pos e] at h'
      cases h'
    · rw [if_neg e] at h'
      exact jhx_ne r E h'
theorem jcv_virt {mu pc idx : Nat} (h : jcode jT0 mu pc = some (.invokevirtual idx)) : ∀ hh, jhof mu = some hh → ∀ q ∈ hh, q.1 ≤ pc ∧ pc < q.2.1 := fun hh hj q hq => by
  obtain ⟨len, h1⟩ := jins jcv_ok h
  have h2 : (match jhof mu with | some hh => hh.all fun q => decide (q.1 ≤ pc) && decide (pc < q.2.1) | none => true) = true := h1
  rw [hj] at h2
  have h3 := List.all_eq_true.mp h2 q hq
  rw [Bool.and_eq_true, decide_eq_true_eq, decide_eq_true_eq] at h3
  exact h3
theorem jcv_spec {mu pc idx : Nat} (h : jcode jT0 mu pc = some (.invokespecial idx)) : jhof mu = none := by
  obtain ⟨len, h1⟩ := jins jcv_ok h
  have h2 : (jhof mu).isNone = true := h1
  exact Option.isNone_iff_eq_none.mp h2
section JFin
variable {G : jGc} {p : Program} {l : Launch} {e : Env} {R : Room} {s : State} {m : MethodId} {args : Array Value} {below : List Frame} {meth : Method} {c : Code} {Q : State → Prop} {c0 s0 : Nat} {z : jO × jH} {mu d : Nat} {w0 : jH}
/-- what a frame of the method mu stands on -/
def jFr (l : Launch) (G : jGc) (d mu : Nat) (p : Program) (R : Room) (s : State) (m : MethodId) (args : Array Value) (meth : Method) (c : Code) (w0 : jH) (z : jO × jH) : Prop :=
  (p.tables.exec = Jvm.exec ∧ l.stackTraces = false) ∧ s.vm.findClass (jcn mu) = some m.cls ∧ (∀ w ∈ jTw, w.before args s = true) ∧ jWld G s ∧ (c.code = jbytes mu ∧ c.maxLocals = jMx mu ∧ (mu = 337 ∨ jTb mu c)) ∧
  (meth.sig.returnType = jrt mu ∧ meth.locks = false) ∧ (d + 9 ≤ R.frames ∧ 260 + 60 * d ≤ R.locals ∧ z.2.2.2.1 ≤ w0.2.2.1 + R.cells ∧ z.2.2.2.2 ≤ w0.2.2.2 + R.slots) ∧ Mn w0 z ∧ mu < 338
theorem jFr.fr (F : jFr l G d mu p R s m args meth c w0 z) : d + 9 ≤ R.frames ∧ 260 + 60 * d ≤ R.locals ∧ z.2.2.2.1 ≤ w0.2.2.1 + R.cells ∧ z.2.2.2.2 ≤ w0.2.2.2 + R.slots := F.2.2.2.2.2.2.1
theorem jFr.dec (F : jFr l G d mu p R s m args meth c w0 z) : jDec jT0 mu c := jDec_all mu F.2.2.2.2.1.1
theorem jf1 (F : jFr l G d mu p R s m args meth c w0 z) (hc0 : z.2.2.2.1 ≤ c0 + R.cells) (hs0 : z.2.2.2.2 ≤ s0 + R.slots) : ∀ pc idx ci fs a ls st w, jcode jT0 mu pc = some (.new idx) → jkres jT0 mu idx = some (.inl (ci, fs)) → w.2.1 = some a → jPt jClasses G p l e R s m args below meth c Q c0 s0 z (pc + 3) ls (jr a :: st) ((fun q => if q = a then some (.inr (.inl (ci, fs))) else w.1 q, (some (a + 1), (w.2.2.1 + 1, w.2.2.2 + fs.length)))) → jPt jClasses G p l e R s m args below meth c Q c0 s0 z pc ls st w := by
  intro pc idx ci fs a ls st w hc hk ha h
  have hD := F.dec
  obtain ⟨⟨hx, hl⟩, hown, hts, hWd, -⟩ := F
  obtain ⟨C, T, N, ty, hC, hty, hcl, hN, hok, hdv⟩ := jnw_at hk
  obtain ⟨⟨hi, hini⟩, hin, -, -⟩ := jcls_at hC
  exact jS_newo hx hWd.1.1 hown hC (fun w hw => hts w (hin w hw)) hty (hts _ hcl) (hts _ hi) (hts _ hini) hdv hok hN hc0 hs0 (hD.at hc (by simp [jlen])).1 ha h
theorem jf3 (F : jFr l G d mu p R s m args meth c w0 z) (hc0 : z.2.2.2.1 ≤ c0 + R.cells) (hs0 : z.2.2.2.2 ≤ s0 + R.slots) : ∀ pc aty x a ls r w, jcode jT0 mu pc = some (.newarray aty) → 0 ≤ x → x < 2000 → w.2.1 = some a → jPt jClasses G p l e R s m args below meth c Q c0 s0 z (pc + 2) ls (jr a :: r) ((fun q => if q = a then some (jlen0 (jzero aty) x.toNat) else w.1 q, (some (a + 1), (w.2.2.1 + 1, w.2.2.2 + x.toNat)))) → jPt jClasses G p l e R s m args below meth c Q c0 s0 z pc ls (.inl x :: r) w := by
  intro pc aty x a ls r w hc h0 h9 ha h
  have hD := F.dec
  obtain ⟨⟨hx, hl⟩, hown, hts, hWd, -⟩ := F
  have hd := (hD.at hc (by simp [jlen])).1
  rcases jna_at hc with rfl | rfl | rfl | rfl | rfl
  · exact jS_newarr hx hWd.1.1 (ty := .int) rfl (jty_int G) (fun h => h) (by decide) (hts _ (jarr_at (by simp))) (en := jlen0 (jzero .int) x.toNat) (fun H1 g1 g2 g3 => ⟨g1, by omega, fun j hj => (jr0 : jr32 0), g3⟩) hc0 hs0 hd h0 h9 ha h
  · exact jS_newarr hx hWd.1.1 (ty := .char) rfl (jty_char G) (fun h => h) (by decide) (hts _ (jarr_at (by simp))) (en := jlen0 (jzero .char) x.toNat) (fun H1 g1 g2 g3 => ⟨g1, by omega, fun j hj => ⟨Int.le_refl 0, by show (0 : Int) < 65536; decide⟩, g3⟩) hc0 hs0 hd h0 h9 ha h
  · exact jS_newarr hx hWd.1.1 (ty := .boolean) rfl (jty_boolean G) (fun h => h) (by decide) (hts _ (jarr_at (by simp))) (en := jlen0 (jzero .boolean) x.toNat) (fun H1 g1 g2 g3 => ⟨g1, by omega, fun j hj => Or.inl rfl, g3⟩) hc0 hs0 hd h0 h9 ha h
  · exact jS_newarr hx hWd.1.1 (ty := .long) rfl (jty_long G) (fun h => h) (by decide) (hts _ (jarr_at (by simp))) (en := jlen0 (jzero .long) x.toNat) (fun H1 g1 g2 g3 => ⟨g1, by omega, fun j hj => (⟨by decide, by decide⟩ : jr64 0), g3⟩) hc0 hs0 hd h0 h9 ha h
  · exact jS_newarr hx hWd.1.1 (ty := .double) rfl (jty_double G) (fun h => h) (by decide) (hts _ (jarr_at (by simp))) (en := jlen0 (jzero .double) x.toNat) (fun H1 g1 g2 g3 => ⟨by omega, Or.inr ⟨Or.inl rfl, g1, g3⟩⟩) hc0 hs0 hd h0 h9 ha h
theorem jf4 (F : jFr l G d mu p R s m args meth c w0 z) (hc0 : z.2.2.2.1 ≤ c0 + R.cells) (hs0 : z.2.2.2.2 ≤ s0 + R.slots) : ∀ pc idx a ls r w, jcode jT0 mu pc = some (.anewarray idx) → w.2.1 = some a → jPt jClasses G p l e R s m args below meth c Q c0 s0 z (pc + 3) ls (jr a :: r) ((fun q => if q = a then some (.inr (.inr (.object "HabitRegistry$State", (9, fun _ => .null)))) else w.1 q, (some (a + 1), (w.2.2.1 + 1, w.2.2.2 + 9)))) → jPt jClasses G p l e R s m args below meth c Q c0 s0 z pc ls (.inl 9 :: r) w := by
  intro pc idx a ls r w hc ha h
  have hD := F.dec
  obtain ⟨⟨hx, hl⟩, hown, hts, hWd, -⟩ := F
  exact jS_anew hx hWd.1.1 hown (hts _ (jan_at hc)) (hts _ jover_at) hc0 hs0 (hD.at hc (by simp [jlen])).1 ha h
theorem jf6 (F : jFr l G d mu p R s m args meth c w0 z) : ∀ pc idx a ls r w, jcode jT0 mu pc = some (.invokespecial idx) → (∃ q, jmres jT0 mu idx = some (5, q)) → Nat.ble (jcats r) 8 = true → jPt jClasses G p l e R s m args below meth c Q c0 s0 z (pc + 3) ls r w → jPt jClasses G p l e R s m args below meth c Q c0 s0 z pc ls (jr a :: r) w := by
  intro pc idx a ls r w hc ⟨q, hq⟩ h8 h
  have hD := F.dec
  have hfr := F.fr
  obtain ⟨⟨hx, hl⟩, hown, hts, hWd, -⟩ := F
  obtain ⟨k1, k2, k3⟩ := (jmt_math hq).2.2 rfl
  exact jS_objInit hx hown (hts _ k1) (hts _ k2) (hts _ k3) ⟨by omega, by omega⟩ h8 (hD.at hc (by simp [jlen])).1 h
theorem jf9 (F : jFr l G d mu p R s m args meth c w0 z) (hc0 : z.2.2.2.1 ≤ c0 + R.cells) (hs0 : z.2.2.2.2 ≤ s0 + R.slots) : ∀ pc idx kd q x y ls r w, jcode jT0 mu pc = some (.invokestatic idx) → jmres jT0 mu idx = some (kd, q) → Nat.ble (jcats r) 8 = true → (kd = 3 ∧ jPt jClasses G p l e R s m args below meth c Q c0 s0 z (pc + 3) ls (.inl (if x < y then y else x) :: r) w ∨ kd = 4 ∧ jPt jClasses G p l e R s m args below meth c Q c0 s0 z (pc + 3) ls (.inl (if y < x then y else x) :: r) w) → jPt jClasses G p l e R s m args below meth c Q c0 s0 z pc ls (.inl y :: .inl x :: r) w := by
  intro pc idx kd q x y ls r w hc hm h8 hk
  have hD := F.dec
  have hfr := F.fr
  obtain ⟨⟨hx, hl⟩, hown, hts, hWd, -⟩ := F
  have hd := (hD.at hc (by simp [jlen])).1
  have h8' := Nat.le_of_ble_eq_true h8
  rcases hk with ⟨rfl, h⟩ | ⟨rfl, h⟩
  · obtain ⟨k1, k2, k3, k4⟩ := (jmt_math hm).1 rfl
    refine ⟨h.1, fun arr H locs cells slots e0 e1 e2 e3 e4 e5 e6 => ?_⟩
    have hm1 := h.1.1
    have hm2 := h.1.2
    have hy : jr32 y := e2.hd
    have hxx : jr32 x := e2.tl.hd
    refine va_mmax hx rfl (e0.symm.trans e1.1.symm) hown (hts _ k1) (hts _ k2) (hts _ k3) (hts _ k4) (x := Int32.ofInt x) (y := Int32.ofInt y) (by omega) (by rw [jcats_sum e2.tl.tl]; omega) (by omega) (by omega) hd ?_
    have h9 := h.2 arr H locs cells slots e0 e1 (e2.tl.tl.cons (v := .inl (if x < y then y else x)) (by show jr32 _; split <;> assumption)) e3 e4 e5 e6
    have e9 : jtv (.inl (if x < y then y else x)) = .int (if Int32.ofInt x < Int32.ofInt y then Int32.ofInt y else Int32.ofInt x) := by
      by_cases hlt : x < y
      · rw [if_pos hlt, if_pos ((ji_lt hxx hy).mpr hlt)]; rfl
      · rw [if_neg hlt, if_neg (fun q => hlt ((ji_lt hxx hy).mp q))]; rfl
    rw [List.map_cons, e9] at h9
    exact h9
  · obtain ⟨k1, k2, k3, k4⟩ := (jmt_math hm).2.1 rfl
    refine ⟨h.1, fun arr H locs cells slots e0 e1 e2 e3 e4 e5 e6 => ?_⟩
    have hm1 := h.1.1
    have hm2 := h.1.2
    have hy : jr32 y := e2.hd
    have hxx : jr32 x := e2.tl.hd
    refine va_mmin hx rfl (e0.symm.trans e1.1.symm) hown (hts _ k1) (hts _ k2) (hts _ k3) (hts _ k4) (x := Int32.ofInt x) (y := Int32.ofInt y) (by omega) (by rw [jcats_sum e2.tl.tl]; omega) (by omega) (by omega) hd ?_
    have h9 := h.2 arr H locs cells slots e0 e1 (e2.tl.tl.cons (v := .inl (if y < x then y else x)) (by show jr32 _; split <;> assumption)) e3 e4 e5 e6
    have e9 : jtv (.inl (if y < x then y else x)) = .int (if Int32.ofInt y < Int32.ofInt x then Int32.ofInt y else Int32.ofInt x) := by
      by_cases hlt : y < x
      · rw [if_pos hlt, if_pos ((ji_lt hy hxx).mpr hlt)]; rfl
      · rw [if_neg hlt, if_neg (fun q => hlt ((ji_lt hy hxx).mp q))]; rfl
    rw [List.map_cons, e9] at h9
    exact h9
/-- the two numbers of cells and slots that a body takes in all -/
theorem jMn {w0 : jH} {z : jO × jH} (h : Mn w0 z) : z.2.2.2.1 = w0.2.2.1 + (z.2.2.2.1 - w0.2.2.1) ∧ z.2.2.2.2 = w0.2.2.2 + (z.2.2.2.2 - w0.2.2.2) := by
  have h1 : w0.2.2.1 ≤ z.2.2.2.1 := h.1
  have h2 : w0.2.2.2 ≤ z.2.2.2.2 := h.2
  exact ⟨by omega, by omega⟩
theorem jf2 (F : jFr l G d mu p R s m args meth c w0 z) : ∀ pc idx E ls st w, jcode jT0 mu pc = some (.new idx) → jkres jT0 mu idx = some (.inr E) → Nat.ble (jcats st) 8 = true → z = (.inr E, jthr w) → jPt jClasses G p l e R s m args below meth c (vx_MQ below (jQc jClasses G z) (jXC jClasses G z) args s (z.2.2.2.1 - w0.2.2.1) (z.2.2.2.2 - w0.2.2.2) (jA G)) w0.2.2.1 w0.2.2.2 z pc ls st w := by
  intro pc idx E ls st w hc hk h8 hz
  have hD := F.dec
  have hfr := F.fr
  obtain ⟨⟨hx, hl⟩, hown, hts, hWd, ⟨hb, hml, htb⟩, ⟨-, hlocks⟩, -, hMn, -⟩ := F
  obtain ⟨ic, is, tx, q1, q2, q3, q4, q5, q6, q7, q8⟩ := jth_at hc hk
  obtain ⟨b1, b2, b3⟩ := jexw_at q2
  obtain ⟨sa, hsa⟩ := hWd.2.1 (is, tx) q3
  obtain ⟨x0, x1, x2, x5⟩ := jxr_dec E
  have hown' : s.vm.findClass "HabitRegistry" = some m.cls := q1 ▸ hown
  have hmm := jMn hMn
  have h8' := Nat.le_of_ble_eq_true h8
  have hnil : c.exceptionTable.toList = [] := by
    have h1 : c.exceptionTable.toList.map jqd = (jhof mu).getD [] := by
      rcases htb with rfl | htb
      · exact absurd q1 (by decide +kernel)
      · exact htb
    rw [q5] at h1
    exact List.map_eq_nil_iff.mp h1
  have hgood : ∀ w ∈ Cond.classLink "HabitRegistry" idx E :: Cond.initialized E :: jatX "HabitRegistry" ic E (jxix E) (jxrx E), vx_ot w = true := List.forall_mem_cons.mpr ⟨q4, List.forall_mem_cons.mpr ⟨rfl, fun w hw => (b3 w hw).2⟩⟩
  have z1 : z.2.2.2.1 = w.2.2.1 + 1 := by rw [hz]; rfl
  have z2 : z.2.2.2.2 = w.2.2.2 + 6 := by rw [hz]; rfl
  refine ⟨⟨by omega, by omega⟩, fun arr H locs cells slots e0 e1 e2 e3 e4 e5 e6 => ?_⟩
  have hxc : ∀ t : State, s.vm.Alike t.vm → H.size ≤ t.heap.size → (∀ q : Nat, q < H.size → t.heap[q]? = H[q]?) → jXC jClasses G z E s t := fun t _ g1 g2 => by
    refine ⟨by rw [hz], by rw [hz]; exact e3.thr g1 g2, Nat.le_trans e4.1 g1, fun q g3 g4 => ?_⟩
    rw [g2 q (Nat.lt_of_lt_of_le g3 e4.1)]
    exact e4.2.1 q g3 g4
  rcases q8 with ⟨d4, d6, d9⟩ | ⟨d4, d6, d9⟩
  · exact jthXW hx rfl hl x0 x1 x2 x5 hown' b1 (hts _ q6) (hts _ b2) hsa (fun w hw => hts _ (b3 w hw).1) hgood hWd.1.2.1 hWd.1.2.2 e4 (e1.1.trans e0) (hD.at hc (by simp [jlen])).1 (hD.at q7 (by simp [jlen])).1 (hD.at d4 (by simp [jlen])).1 (hD.at d6 (by simp [jlen])).1 (hD.at d9 (by simp [jlen])).1
      (by rw [hnil]; exact fun x hx => absurd hx List.not_mem_nil) (by omega) (by rw [jcats_sum e2]; omega) (by omega) (by omega) hlocks hxc e4.2.2 (by omega) (by omega)
  · exact jthX hx rfl hl x0 x1 x2 x5 hown' b1 (hts _ q6) (hts _ b2) hsa (fun w hw => hts _ (b3 w hw).1) hgood hWd.1.2.1 hWd.1.2.2 e4 (e1.1.trans e0) (hD.at hc (by simp [jlen])).1 (hD.at q7 (by simp [jlen])).1 (hD.at d4 (by simp [jlen])).1 (hD.at d6 (by simp [jlen])).1 (hD.at d9 (by simp [jlen])).1
      (by rw [hnil]; exact fun x hx => absurd hx List.not_mem_nil) (by omega) (by rw [jcats_sum e2]; omega) (by omega) (by omega) hlocks hxc e4.2.2 (by omega) (by omega)
theorem jPx_outP {w : jH} {ls : jL} {st : List jV} {pc : Nat} {E own : String} {mc ms : Nat} (hown : s.vm.findClass own = some m.cls) (hz : z = (.inr E, w)) (hc : z.2.2.2.1 = c0 + mc) (hs : z.2.2.2.2 = s0 + ms)
    (hpass : ∀ y ∈ c.exceptionTable.toList, covers y pc = false ∨ (y.catchType ≠ 0 ∧ ∃ nm : String, (Cond.classLink own y.catchType nm).before args s = true ∧ va_Nc E nm s)) (hlocks : meth.locks = false) :
    jPx jClasses G p l e R s m args below meth c (vx_MQ below (jQc jClasses G z) (jXC jClasses G z) args s mc ms (jA G)) c0 s0 z E pc ls st w := by
  subst hz
  refine ⟨⟨Nat.le_refl _, Nat.le_refl _⟩, fun arr H locs cells slots q9 ce e0 e1 e2 e3 e4 e5 e6 e7 e8 e9 => ?_⟩
  have hc' : w.2.2.1 = c0 + mc := hc
  have hs' : w.2.2.2 = s0 + ms := hs
  exact vx_outP hown hlocks hpass e7 e8 e9 (fun t ht' hv => ⟨rfl, by rw [ht']; exact e3, e4.F ht'⟩) (fun x hx => e4.2.2 x hx) (by omega) (by omega)
/-- an exception that no row here names -/
theorem jPx_none (F : jFr l G d mu p R s m args meth c w0 z) (htb : jTb mu c) {pc : Nat} {ls : jL} {st : List jV} {w : jH} {E : String} (hE : E ∈ jexc) (hn : jhres jT0 mu E = none) (hz : z = (.inr E, w)) :
    jPx jClasses G p l e R s m args below meth c (vx_MQ below (jQc jClasses G z) (jXC jClasses G z) args s (z.2.2.2.1 - w0.2.2.1) (z.2.2.2.2 - w0.2.2.2) (jA G)) w0.2.2.1 w0.2.2.2 z E pc ls st w := by
  obtain ⟨⟨hx, hl⟩, hown, hts, hWd, ⟨hb, hml, -⟩, ⟨-, hlocks⟩, -, hMn, -⟩ := F
  have hmm := jMn hMn
  refine jPx_outP hown hz hmm.1 hmm.2 (fun y hy => ?_) hlocks
  exfalso
  rcases jhd_at mu with ⟨h1, h2⟩ | ⟨a, b, h1, h2, h3⟩
  · have h4 : c.exceptionTable.toList.map jqd = (jhof mu).getD [] := htb
    rw [h2] at h4
    rw [List.map_eq_nil_iff.mp h4] at hy
    exact absurd hy List.not_mem_nil
  · have h5 : (match jas jhl mu with | some l => jhx l E | none => none) = none := hn
    rw [h1] at h5
    dsimp only at h5
    exact absurd h5 (jhx_ne a E)
/-- a call that throws: caught here, or past every row -/
theorem jPx_any (F : jFr l G d mu p R s m args meth c w0 z) (hout : ∀ (E : String) (pc : Nat) (ls : jL) (st : List jV) (w : jH), E ∈ jexc → jhres jT0 mu E = none → z = (.inr E, w) → jPx jClasses G p l e R s m args below meth c Q c0 s0 z E pc ls st w) {pc : Nat} {ls : jL} {st : List jV} {w : jH} {E : String} (hE : E ∈ jexc) {i : Instr} (hc : jcode jT0 mu pc = some i) (hi : ∀ hh, jhof mu = some hh → ∀ q ∈ hh, q.1 ≤ pc ∧ pc < q.2.1)
    (h : (∃ h k, jhres jT0 mu E = some (h, k) ∧ (jcode jT0 mu h).isSome = true ∧ jPt jClasses G p l e R s m args below meth c Q c0 s0 z h (ls.set k none) ([]) w) ∨ jhres jT0 mu E = none ∧ z = (.inr E, w)) :
    jPx jClasses G p l e R s m args below meth c Q c0 s0 z E pc ls st w := by
  rcases h with ⟨h, k, h1, h2, h3⟩ | ⟨h1, h2⟩
  · have hD := F.dec
    obtain ⟨⟨hx, hl⟩, hown, hts, hWd, ⟨hb, hml, htb⟩, ⟨-, hlocks⟩, -, hMn, -⟩ := F
    have hlt := (jpc_lt h2).1
    have h5 : (match jas jhl mu with | some l => jhx l E | none => none) = some (h, k) := h1
    rcases jhd_at mu with ⟨g1, g2⟩ | ⟨a, b, g1, g2, g3⟩
    · rw [g1] at h5
      cases h5
    · rw [g1] at h5
      dsimp only at h5
      have h4 : c.exceptionTable.toList.map jqd = (jhof mu).getD [] := by
        rcases htb with rfl | htb
        · rw [show jas jhl 337 = none from by decide +kernel] at g1
          cases g1
        · exact htb
      rw [g2] at h4
      obtain ⟨pre, suf, x, k1, k2, k3⟩ := jsplit hlt a b c.exceptionTable.toList g3 h4 h5
      obtain ⟨b1, b2, b3, b4, b5, b6⟩ := jhd1_at k3
      by_cases hln : ls.length = c.maxLocals
      · refine jPx_catch (n := 0) (x := x) (pre := pre) (suf := suf) (name := E) hx hown k1 (fun y hy => Or.inr ?_) ?_ b3 (hts _ b1) (hts _ b2) ?_ (by rw [hln, hml]; exact b5) b4 h3
        · obtain ⟨r, r1, r2, r3⟩ := k2 y hy
          obtain ⟨c1, c2, c3, -⟩ := jhd1_at r3
          exact ⟨c3, r.1, hts _ c1, hWd.2.2.1 E hE r.1 (jhl_names g1 r r1) (fun e9 => r2 e9.symm)⟩
        · have hmem : jqd x ∈ b := by
            have h9 : b = c.exceptionTable.toList.map jqd := h4.symm
            rw [h9]
            exact List.mem_map.mpr ⟨x, by rw [k1]; simp, rfl⟩
          obtain ⟨u1, u2⟩ := hi b g2 _ hmem
          have u1' : x.startPc ≤ pc := u1
          have u2' : pc < x.endPc := u2
          simp [covers, u1', u2']
        · rcases b6 with ⟨f, f1, f2, f3⟩ | ⟨f2, f3⟩
          · exact Or.inl ⟨f, f1, (hD.at f2 (by simp [jlen])).1, f3⟩
          · exact Or.inr ⟨(hD.at f2 (by simp [jlen])).1, f3⟩
      · exact ⟨h3.1, fun arr H locs cells slots q9 ce e0 => absurd e0 hln⟩
  · exact hout E _ _ _ _ hE h1 h2
end JFin

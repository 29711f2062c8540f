/-! THE CLAIM OUT OF ONE WALK OF THE LAW'S BODY. Your part is whole_start (and what it stands on); all else here is the same for every law, but numbers. -/
def R_law : String := "HabitRegistryLaw"
def lw_P (b : Addr) (xs : List Int32) (args : Array Value) (s : State) : Prop := args = #[.ref b] ∧ s.IntsAt b xs ∧ xs.length ≤ 2048 ∧ (Jvm.Cond.and given_1 narrow_1).before args s = true
/-- what a walk over the start with the record d0 says of its end, said of the start itself -/
theorem lw_closed {s t : State} {o : Outcome} {d0 : Drawn} {L : List Loc} {k n : Nat} (hd0 : s.drawn.sameBut d0 lw_cs) (hv : ∃ v, o = .returned v) (hW : (s.setDrawn d0).WarmedH t.vm) (hs : (s.setDrawn d0).sameButNew ({ t with vm := s.vm } : State) L k n) : State.butDraws s t lw_cs (fun t1 => Framed s o t1 L k n) := by
  have h2 : t.drawn = d0 := congrArg State.drawn hs.1
  refine ⟨⟨hv, hW, State.sameButNew.setDrawn hs s.drawn⟩, ?_, by decide⟩
  rw [h2]
  exact hd0
def lw_Q (_ : Array Value) (s : State) (o : Outcome) (t : State) : Prop := o = .returned (some (.int 1)) ∧ State.butDraws s t lw_cs (fun t1 => Framed s o t1 [] 603072 7202921)
def lw_Z (below : List Frame) (a : Array Value) (s : State) : State → Prop := fun t => ∃ o, t.status = .running ∧ Ended t below o ∧ lw_Q a s o t
/-- the law's own end, with 1 on the stack, nothing written that was there before, its room as the claim has it; d0: the record of draws at this point (at the entry s.drawn: begin with 'refine W.base ?_' and 'have hd0 := Drawn.sameBut.refl s.drawn lw_cs') -/
theorem lw_ret {p : Program} {l : Launch} {e : Env} {s : State} {m : MethodId} {below : List Frame} {meth : Method} {c : Code} {b : Nat} {d0 : Drawn} (hd0 : s.drawn.sameBut d0 lw_cs) (hx : p.tables.exec = Jvm.exec) (hb : c.code = code) (hr : meth.sig.returnType = ret) (hlocks : meth.locks = false) {pc : Nat} {H : Heap} {ls : Array Slot} (hdg : decode code pc = .ok (.ireturn, 1)) : W p l e room_1 (s.setDrawn d0) m #[Value.ref b] below meth c H [] 603072 7202921 (lw_Z below #[Value.ref b] s) (F0 m pc ls [.int 1]) := by
  intro T hT X
  obtain ⟨fs, hret, hrun, hended, hW, hframe⟩ := X.leave (v := some (.int 1)) (hlocks := hlocks) (fun h => by rw [hr] at h; cases h)
  have hmeth' : T.vm.method? m = some meth := X.method'
  refine ⟨T.setFrames fs, ?_, .returned (some (.int 1)), hrun, hended, rfl, lw_closed hd0 ⟨_, rfl⟩ hW hframe⟩
  jvm_step X.here [X.here.top, hx, hb, hdg, hmeth', hr, ret, narrow_b1]
  (try refine ⟨rfl, ?_⟩); (try refine ⟨rfl, ?_⟩)
  first | (intro acts; rw [hret _ acts rfl rfl rfl]) | rw [hret _ _ rfl rfl rfl]
  exact Steps.refl _
/-- what holds at the law's entry: the machine, the code, the tables' words (any of lw_tbl by 'hts w (by decide +kernel)'), the script of L ints xs at the cell b, what the Statement gives of the start (any of its parts by flat_of_before) -/
def lw_At (p : Program) (s : State) (m : MethodId) (meth : Method) (c : Code) (b L : Nat) (xs : Nat → Int32) : Prop :=
  p.tables.exec = Jvm.exec ∧ c.code = code ∧ meth.sig.returnType = ret ∧ c.maxLocals = 9 ∧ s.vm.findClass R_law = some m.cls ∧ (∀ w ∈ lw_tbl, w.before #[Value.ref b] s = true) ∧ va_X b L xs s s.heap ∧ b < s.heap.size ∧ meth.locks = false ∧ (Jvm.Cond.and given_1 narrow_1).before #[Value.ref b] s = true
/-! ===== the law's own frame ===== -/
section JLaw
variable {G : jGc} {p : Program} {l : Launch} {e : Env} {s : State} {m : MethodId} {below : List Frame} {meth : Method} {c : Code} {z : jO × jH} {d : Nat} {w0 : jH} {b : Nat}
theorem jlaw_end (hx : p.tables.exec = Jvm.exec) (hr : meth.sig.returnType = ret) (hlocks : meth.locks = false) (hn : ∀ q : Nat, q < s.heap.size → ¬ jA G q) {pc : Nat} {ls : jL} {w : jH} (hz : z = (.inl (some (.inl 1)), w)) (hc : w.2.2.1 ≤ 603072) (hs : w.2.2.2 ≤ 7202921) (hd : decode c.code pc = .ok (.ireturn, 1)) :
    jPt jClasses G p l e room_1 s m #[Value.ref b] below meth c (lw_Z below #[Value.ref b] s) 0 0 z pc ls [.inl 1] w := by
  subst hz
  refine ⟨⟨Nat.le_refl _, Nat.le_refl _⟩, fun arr H locs cells slots e0 e1 e2 e3 e4 e5 e6 => ?_⟩
  intro T hT X
  obtain ⟨fs, hret, hrun, hended, hW, hframe⟩ := X.leave (v := some (.int 1)) (hlocks := hlocks) (fun h => by rw [hr] at h; cases h)
  have hmeth' : T.vm.method? m = some meth := X.method'
  have hframe' := hframe.weaken (l' := []) (c' := 603072) (n' := 7202921) (fun y hy hlt => (hn _ hlt (e4.2.2 y hy)).elim) (by omega) (by omega)
  refine ⟨T.setFrames fs, ?_, .returned (some (.int 1)), hrun, hended, rfl, lw_closed (d0 := s.drawn) (Drawn.sameBut.refl s.drawn lw_cs) ⟨_, rfl⟩ hW hframe'⟩
  show Steps p.tables e below (T.setTop (F0 m pc arr [.int 1])) _
  jvm_step X.here [X.here.top, hx, hd, hmeth', hr, ret, narrow_b1]
  (try refine ⟨rfl, ?_⟩); (try refine ⟨rfl, ?_⟩)
  first | (intro acts; rw [hret _ acts rfl rfl rfl]) | rw [hret _ _ rfl rfl rfl]
  exact Steps.refl _
/-- the interpreter's run of the law, from its entry, is the machine's -/
theorem jlaw_snd (hl : l.stackTraces = false) (hx : p.tables.exec = Jvm.exec) (hb : c.code = code) (hr : meth.sig.returnType = ret) (hml : c.maxLocals = 9) (hown : s.vm.findClass "HabitRegistryLaw" = some m.cls) (hts : ∀ w ∈ jTw, w.before #[Value.ref b] s = true) (hlocks : meth.locks = false)
    (hWd : jWld G s) (hn : ∀ q : Nat, q < s.heap.size → ¬ jA G q) (hR : jHR jClasses G w0 s.heap) (hw0 : w0.2.2 = (0, 0)) (hd : d ≤ 12) {n : Nat} {w : jH} (hz : jlp jT0 337 (jme jT0 jMx d) n 0 (some (jr b) :: List.replicate 8 none) [] w0 = some (.inl (some (.inl 1)), w)) (hc : w.2.2.1 ≤ 603072) (hs : w.2.2.2 ≤ 7202921) :
    W p l e room_1 s m #[Value.ref b] below meth c s.heap [] 0 0 (lw_Z below #[Value.ref b] s) (entryFrame m ([Value.ref b] : List Value).toArray 9) := by
  have IH := jSp_all hl G d
  have h1 : w0.2.2.1 = 0 := by rw [hw0]
  have h2 : w0.2.2.2 = 0 := by rw [hw0]
  have hrt : jtres jT0 337 = some .boolean := by decide +kernel
  obtain ⟨z, hzz⟩ : ∃ z : jO × jH, z = (.inl (some (.inl 1)), w) := ⟨_, rfl⟩
  rw [← hzz] at hz
  have hz1 : z.2.2.2.1 = w.2.2.1 := by rw [hzz]
  have hz2 : z.2.2.2.2 = w.2.2.2 := by rw [hzz]
  have hnx : ∀ (E : String) (w' : jH), z ≠ (.inr E, w') := fun E w' h => by rw [hzz] at h; cases h
  have F : jFr l G d 337 p room_1 s m #[Value.ref b] meth c w0 z := ⟨⟨hx, hl⟩, hown, hts, hWd, ⟨hb, hml, Or.inl rfl⟩, ⟨hr, hlocks⟩, ⟨by show d + 9 ≤ 21; omega, by show 260 + 60 * d ≤ 10894; omega, by show _ ≤ _ + 603072; omega, by show _ ≤ _ + 7202921; omega⟩, ⟨by omega, by omega⟩, by decide⟩
  have hc0 : z.2.2.2.1 ≤ 0 + room_1.cells := by show _ ≤ 0 + 603072; omega
  have hs0 : z.2.2.2.2 ≤ 0 + room_1.slots := by show _ ≤ 0 + 7202921; omega
  have hD := F.dec
  have S : jStpG jClasses G p l e room_1 s m #[Value.ref b] below meth c (lw_Z below #[Value.ref b] s) 0 0 z jT0 337 (jme jT0 jMx d) := by
    refine ⟨jf1 F hc0 hs0, fun pc idx E ls st w' _ _ _ h => absurd h (hnx _ _), jf3 F hc0 hs0, jf4 F hc0 hs0, jf5 F hc0 hs0, jf6 F, jf7 IH F hc0 hs0 (fun E pc ls st w' _ _ h => absurd h (hnx _ _)), jf8 IH F hc0 hs0 (fun E pc ls st w' _ _ h => absurd h (hnx _ _)), jf9 F hc0 hs0, ?_, ?_, ?_, ?_, ?_⟩
    · intro pc x ty ls w' hcd ht hf hz9
      have h9 : x = 1 ∧ w' = w := by
        rw [hzz] at hz9
        cases hz9
        exact ⟨rfl, rfl⟩
      obtain ⟨rfl, rfl⟩ := h9
      exact jlaw_end hx hr hlocks hn hz9 hc hs (hD.at hcd (by simp [jlen])).1
    · intro pc x ty ls w' hcd ht hf hz9
      rw [hzz] at hz9
      cases hz9
    · intro pc x ls w' hcd ht hz9
      rw [hzz] at hz9
      cases hz9
    · intro pc x ls w' hcd ht hz9
      rw [hzz] at hz9
      cases hz9
    · intro pc ls w' hcd ht hz9
      rw [hzz] at hz9
      cases hz9
  have hJ := jlp_sndB (cl := jClasses) (e := e) (below := below) hx hWd.1.1 hown hD (jfFl hts (Or.inl rfl)) ⟨jF7, 3, rfl⟩ S n 0 _ [] w0 hz
  rw [lg_entry_eq]
  exact hJ.2 _ s.heap [] 0 0 (by rw [hml]; rfl) (jentry (as := [jr b]) rfl (by show 1 ≤ 9; decide) (fun v hv => by
    rcases List.mem_singleton.mp hv with rfl
    exact jok_ref b)) jSo.nil hR ⟨Nat.le_refl _, fun _ _ _ => rfl, fun _ h => nomatch h⟩ (by omega) (by omega)
end JLaw

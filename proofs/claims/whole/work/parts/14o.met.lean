/-! ===== calls and ends; every method's contract ===== -/
theorem jcw_none {mu' : Nat} (h : jhof mu' = none) : jcw0 mu' = .code (jy mu') (jbytes mu') (jMx mu') (jrt mu') := by
  unfold jcw0
  rw [h]
theorem jcw_some {mu' : Nat} {hh : jHH} (h : jhof mu' = some hh) : jcw0 mu' = .codeWith (jy mu') (jbytes mu') (jMx mu') (jrt mu') hh := by
  unfold jcw0
  rw [h]
theorem jX_lt {d mu : Nat} {as : List jV} {w : jH} {z : jO × jH} (h : jX d mu as w = some z) : mu < 338 := by
  cases d with
  | zero => cases h
  | succ d =>
    have h' : (match Nat.ble as.length (jMx mu) && jone as with
      | true => jlp jT0 mu (jme jT0 jMx d) 100000 0 (as.map some ++ List.replicate (jMx mu - as.length) none) [] w
      | false => none) = some z := h
    split at h'
    · exact (jpc_lt (jlp_code h')).2
    · cases h'
theorem jidx_r (x : Int) : jr32 (jidx x) := by
  unfold jidx
  repeat (first | (exact ⟨by decide, by decide⟩) | split)
section JFinB
variable {G : jGc} {p : Program} {l : Launch} {e : Env} {R : Room} {s : State} {m : MethodId} {args : Array Value} {below : List Frame} {meth : Method} {c : Code} {Q : State → Prop} {c0 s0 : Nat} {z : jO × jH} {mu d : Nat} {w0 : jH}
theorem jpay (hts : ∀ w ∈ jTw, w.before args s = true) {mu' : Nat} (h : jcw0 mu' ∈ jTw) : ∀ w ∈ jcw0 mu' :: jTw, ∀ (a' : Array Value) (U : State), s.WarmedH U.vm → w.before a' U = true := fun w hw a' U hW => by
  have hw' : w ∈ jTw := by
    rcases List.mem_cons.mp hw with rfl | hw
    · exact h
    · exact hw
  exact jwm_warm (List.mem_filter.mp hw').2 hW (hts w hw')
theorem jpre {as : List jV} {w : jH} {H : Heap} {locs : List Loc} (hok : ∀ v ∈ as, jok v) (e3 : jHR jClasses G w H) (e4 : va_S (jA G) s.heap H locs) (hWd : jWld G s) : ∀ U : State, U.heap = H → s.WarmedH U.vm → jPc G as w (as.map jtv).toArray U := fun U hU hW =>
  ⟨rfl, hok, by rw [hU]; exact e3, jWld.go hW (fun q hq hn => by rw [hU]; exact e4.2.1 q hq hn) hWd⟩
set_option maxHeartbeats 1000000 in
theorem jf7 (IH : jSp l G d) (F : jFr l G d mu p R s m args meth c w0 z) (hc0 : z.2.2.2.1 ≤ c0 + R.cells) (hs0 : z.2.2.2.2 ≤ s0 + R.slots) (hout : ∀ (E : String) (pc : Nat) (ls : jL) (st : List jV) (w : jH), E ∈ jexc → jhres jT0 mu E = none → z = (.inr E, w) → jPx jClasses G p l e R s m args below meth c Q c0 s0 z E pc ls st w) : ∀ pc idx mu' n as a ls st r w z', (jcode jT0 mu pc = some (.invokevirtual idx) ∧ jmres jT0 mu idx = some (0, (mu', n)) ∧ (∃ fs, w.1 a = some (.inr (.inl (jores jT0 mu', fs)))) ∨ jcode jT0 mu pc = some (.invokespecial idx) ∧ jmres jT0 mu idx = some (2, (mu', n))) → jpop n [] st = some (as, jr a :: r) → Nat.ble (jcats r) 8 = true → jX d mu' (jr a :: as) w = some z' →
    (∀ v, z'.1 = .inl v → jPt jClasses G p l e R s m args below meth c Q c0 s0 z (pc + 3) ls (jpush v r) z'.2) → (∀ E, z'.1 = .inr E → (∃ h k, jhres jT0 mu E = some (h, k) ∧ (jcode jT0 mu h).isSome = true ∧ jPt jClasses G p l e R s m args below meth c Q c0 s0 z h (ls.set k none) ([]) z'.2) ∨ jhres jT0 mu E = none ∧ z = (.inr E, z'.2)) → jPt jClasses G p l e R s m args below meth c Q c0 s0 z pc ls st w := by
  intro pc idx mu' n as a ls st r w z' hcase hpop h8 hcx hret hexc
  have F' := F
  have hD := F.dec
  have hfr := F.fr
  obtain ⟨⟨hx, hl⟩, hown, hts, hWd, ⟨hb, hml, htb⟩, ⟨-, hlocks⟩, hR, hMn, -⟩ := F
  obtain ⟨hst, hlen⟩ := jpop_v _ _ _ _ _ hpop
  have hst' : st = as.reverse ++ jr a :: r := by simpa using hst.symm
  have hn : as.length = n := by simpa using hlen
  have hEx := jX_exc hcx
  have hmo := jX_mono hcx
  have hmx := (jnm_at (jX_lt hcx)).2.2
  have hM := IH mu' _ w z' hcx
  have h8' := Nat.le_of_ble_eq_true h8
  have hstk : st.map jtv = (as.map jtv).reverse ++ .ref a :: r.map jtv := by
    rw [hst', List.map_append, List.map_reverse]
    rfl
  have hsr : jSo st → jSo r := fun h v hv => h v (by rw [hst']; simp [hv])
  have hsa : jSo st → ∀ v ∈ jr a :: as, jok v := fun h v hv => by
    rcases List.mem_cons.mp hv with rfl | hv
    · exact jok_ref a
    · exact h v (by rw [hst']; simp [hv])
  rcases hcase with ⟨hc, hm, fs, hfs⟩ | ⟨hc, hm⟩
  · obtain ⟨hlk, hini, hcw, ⟨hy, hlen', hpn⟩, hk0, -, -⟩ := jmt_own hm (Or.inl rfl)
    obtain ⟨hin, hsel, hho, hcn, ho⟩ := hk0 rfl
    have hcb : (Cond.code (jy mu') (jbytes mu') (jMx mu') (jrt mu')).before args s = true := by rw [← jcw_none hho]; exact hts _ hcw
    have hcm : Cond.code (jy mu') (jbytes mu') (jMx mu') (jrt mu') ∈ jcw0 mu' :: jTw := by rw [← jcw_none hho]; exact List.mem_cons_self
    have hd := (hD.at hc (by simp [jlen])).1
    refine jS_call (z' := z') (r := r) (ar := (Value.ref a :: as.map jtv).toArray) hmo hc0 hs0 hsr (fun arr H locs cells slots e0 e1 e2 e3 e4 e5 => ?_) hret (fun E hE => jPx_any F' hout (hEx E hE) hc (jcv_virt hc) (hexc E hE))
    obtain ⟨v1, v2, rr, v3, cv, v4, v5, v6, v7⟩ := e3.2.1 a _ hfs
    have hnm : rr.1 = jcn mu' := jcl_nm ho v3
    have hcls := (hWd.1.1.1.1 (jown mu') _ v3).2.1
    rw [hnm] at hcls
    have hpv : PreV s H (jcn mu') a (jPc G (jr a :: as) w) (as.map jtv) := ⟨jPc_blind, ⟨cv, v4, by rw [v6]; rfl, by rw [v5]; exact hcls⟩, jpre (hsa e2) e3 e4 hWd⟩
    rcases hlk with hlk | ⟨host, hlk⟩
    · exact vx_runV (C := jcn mu') (own := jcn mu) (index := idx) (n := n) (Ts := jTw) (nL := c.maxLocals) (cc := c.code) ⟨hx, rfl, rfl, hown, hts⟩ hM ⟨⟨rfl, rfl, by show d + 8 + 1 ≤ _; omega, by show 8 + (jMx mu' + 11) + (200 + 60 * d) ≤ _; omega, jpay hts hcw, hcm, hcb, hts _ hini, hy, hlen', hts _ hlk⟩, hts _ hin, hts _ hsel⟩ hpv rfl (by rw [List.length_map]; exact hn) (e1.1.trans e0) hstk (by rw [jcats_sum (hsr e2)]; show 2 * 0 + _ ≤ 8; omega) hd e5
    · exact vx_runVN (C := jcn mu') (own := jcn mu) (index := idx) (host := host) (n := n) (Ts := jTw) (nL := c.maxLocals) (cc := c.code) ⟨hx, rfl, rfl, hown, hts⟩ hM ⟨⟨⟨rfl, rfl, by show d + 8 + 1 ≤ _; omega, by show 8 + (jMx mu' + 11) + (200 + 60 * d) ≤ _; omega, jpay hts hcw, hcm⟩, hcb, hts _ hini, hy, hlen', hts _ hlk⟩, hts _ hin, hts _ hsel⟩ hpv rfl (by rw [List.length_map]; exact hn) (e1.1.trans e0) hstk (by rw [jcats_sum (hsr e2)]; show 2 * 0 + _ ≤ 8; omega) hd e5
  · obtain ⟨hlk, hini, hcw, ⟨hy, hlen', hpn⟩, -, -, hk2⟩ := jmt_own hm (Or.inr (Or.inr rfl))
    obtain ⟨hin, hho, hnm, hrt⟩ := hk2 rfl
    have hco := jcw_none hho
    rw [hrt] at hco
    have hcb : (Cond.code (jy mu') (jbytes mu') (jMx mu') none).before args s = true := by rw [← hco]; exact hts _ hcw
    have hcm : Cond.code (jy mu') (jbytes mu') (jMx mu') none ∈ jcw0 mu' :: jTw := by rw [← hco]; exact List.mem_cons_self
    have hd := (hD.at hc (by simp [jlen])).1
    refine jS_call (z' := z') (r := r) (ar := (Value.ref a :: as.map jtv).toArray) hmo hc0 hs0 hsr (fun arr H locs cells slots e0 e1 e2 e3 e4 e5 => ?_) hret (fun E hE => jPx_any F' hout (hEx E hE) hc (fun hh hj => by rw [jcv_spec hc] at hj; cases hj) (hexc E hE))
    have hpv : PreS s H (jPc G (jr a :: as) w) (.ref a :: as.map jtv) := ⟨jPc_blind, jpre (hsa e2) e3 e4 hWd⟩
    rcases hlk with hlk | ⟨host, hlk⟩
    · exact vx_runI (own := jcn mu) (index := idx) (n := n) (Ts := jTw) (nL := c.maxLocals) (cc := c.code) ⟨hx, rfl, rfl, hown, hts⟩ hM ⟨⟨rfl, rfl, by show d + 8 + 1 ≤ _; omega, by show 8 + (jMx mu' + 11) + (200 + 60 * d) ≤ _; omega, jpay hts hcw, hcm, hcb, hts _ hini, hy, hlen', hts _ hlk⟩, hnm, hts _ hin⟩ hpv rfl (by rw [List.length_map]; exact hn) (e1.1.trans e0) hstk (by rw [jcats_sum (hsr e2)]; show 2 * 0 + _ ≤ 8; omega) hd e5
    · exact vx_runIN (own := jcn mu) (index := idx) (host := host) (n := n) (Ts := jTw) (nL := c.maxLocals) (cc := c.code) ⟨hx, rfl, rfl, hown, hts⟩ hM ⟨⟨⟨rfl, rfl, by show d + 8 + 1 ≤ _; omega, by show 8 + (jMx mu' + 11) + (200 + 60 * d) ≤ _; omega, jpay hts hcw, hcm⟩, hcb, hts _ hini, hy, hlen', hts _ hlk⟩, hnm, hts _ hin⟩ hpv rfl (by rw [List.length_map]; exact hn) (e1.1.trans e0) hstk (by rw [jcats_sum (hsr e2)]; show 2 * 0 + _ ≤ 8; omega) hd e5
set_option maxHeartbeats 1000000 in
theorem jf8 (IH : jSp l G d) (F : jFr l G d mu p R s m args meth c w0 z) (hc0 : z.2.2.2.1 ≤ c0 + R.cells) (hs0 : z.2.2.2.2 ≤ s0 + R.slots) (hout : ∀ (E : String) (pc : Nat) (ls : jL) (st : List jV) (w : jH), E ∈ jexc → jhres jT0 mu E = none → z = (.inr E, w) → jPx jClasses G p l e R s m args below meth c Q c0 s0 z E pc ls st w) : ∀ pc idx mu' n as ls st r w z', jcode jT0 mu pc = some (.invokestatic idx) → jmres jT0 mu idx = some (1, (mu', n)) → jpop n [] st = some (as, r) → Nat.ble (jcats r) 8 = true → jX d mu' as w = some z' →
    (∀ v, z'.1 = .inl v → jPt jClasses G p l e R s m args below meth c Q c0 s0 z (pc + 3) ls (jpush v r) z'.2) → (∀ E, z'.1 = .inr E → jhres jT0 mu E = none ∧ z = (.inr E, z'.2)) → jPt jClasses G p l e R s m args below meth c Q c0 s0 z pc ls st w := by
  intro pc idx mu' n as ls st r w z' hc hm hpop h8 hcx hret hexc
  have F' := F
  have hD := F.dec
  have hfr := F.fr
  obtain ⟨⟨hx, hl⟩, hown, hts, hWd, ⟨hb, hml, htb⟩, ⟨-, hlocks⟩, hR, hMn, -⟩ := F
  obtain ⟨hst, hlen⟩ := jpop_v _ _ _ _ _ hpop
  have hst' : st = as.reverse ++ r := by simpa using hst.symm
  have hn : as.length = n := by simpa using hlen
  have hEx := jX_exc hcx
  have hmo := jX_mono hcx
  have hmx := (jnm_at (jX_lt hcx)).2.2
  have hM := IH mu' _ w z' hcx
  have h8' := Nat.le_of_ble_eq_true h8
  have hstk : st.map jtv = (as.map jtv).reverse ++ r.map jtv := by rw [hst', List.map_append, List.map_reverse]
  have hsr : jSo st → jSo r := fun h v hv => h v (by rw [hst']; simp [hv])
  have hsa : jSo st → ∀ v ∈ as, jok v := fun h v hv => h v (by rw [hst']; simp [hv])
  obtain ⟨hlk, hini, hcw, ⟨hy, hlen', hpn⟩, -, hk1, -⟩ := jmt_own hm (Or.inr (Or.inl rfl))
  obtain ⟨hstt, hor⟩ := hk1 rfl
  have hd := (hD.at hc (by simp [jlen])).1
  refine jS_call (z' := z') (r := r) (ar := (as.map jtv).toArray) hmo hc0 hs0 hsr (fun arr H locs cells slots e0 e1 e2 e3 e4 e5 => ?_) hret (fun E hE => hout E _ _ _ _ (hEx E hE) (hexc E hE).1 (hexc E hE).2)
  have hpv : PreS s H (jPc G as w) (as.map jtv) := ⟨jPc_blind, jpre (hsa e2) e3 e4 hWd⟩
  cases hho : jhof mu' with
  | none =>
    have hcb : (Cond.code (jy mu') (jbytes mu') (jMx mu') (jrt mu')).before args s = true := by rw [← jcw_none hho]; exact hts _ hcw
    have hcm : Cond.code (jy mu') (jbytes mu') (jMx mu') (jrt mu') ∈ jcw0 mu' :: jTw := by rw [← jcw_none hho]; exact List.mem_cons_self
    rcases hlk with hlk | ⟨host, hlk⟩
    · exact vx_runS (own := jcn mu) (index := idx) (n := n) (Ts := jTw) (nL := c.maxLocals) (cc := c.code) ⟨hx, rfl, rfl, hown, hts⟩ hM ⟨⟨rfl, rfl, by show d + 8 + 1 ≤ _; omega, by show 8 + (jMx mu' + 11) + (200 + 60 * d) ≤ _; omega, jpay hts hcw, hcm, hcb, hts _ hini, hy, hlen', hts _ hlk⟩, hts _ hstt⟩ hpv rfl (by rw [List.length_map]; exact hn) (e1.1.trans e0) hstk (by rw [jcats_sum (hsr e2)]; show 2 * 0 + _ ≤ 8; omega) hd e5
    · exact vx_runSN (own := jcn mu) (index := idx) (host := host) (n := n) (Ts := jTw) (nL := c.maxLocals) (cc := c.code) ⟨hx, rfl, rfl, hown, hts⟩ hM ⟨⟨⟨rfl, rfl, by show d + 8 + 1 ≤ _; omega, by show 8 + (jMx mu' + 11) + (200 + 60 * d) ≤ _; omega, jpay hts hcw, hcm⟩, hcb, hts _ hini, hy, hlen', hts _ hlk⟩, hts _ hstt, trivial⟩ hpv rfl (by rw [List.length_map]; exact hn) (e1.1.trans e0) hstk (by rw [jcats_sum (hsr e2)]; show 2 * 0 + _ ≤ 8; omega) hd e5
  | some hh =>
    have hcb : (Cond.codeWith (jy mu') (jbytes mu') (jMx mu') (jrt mu') hh).before args s = true := by rw [← jcw_some hho]; exact hts _ hcw
    have hcm : Cond.codeWith (jy mu') (jbytes mu') (jMx mu') (jrt mu') hh ∈ jcw0 mu' :: jTw := by rw [← jcw_some hho]; exact List.mem_cons_self
    have hlk' : Cond.methodLink (jcn mu) idx (jy mu') ∈ jTw := by
      rcases hor with h | h
      · rw [hho] at h
        cases h
      · exact h
    exact vx_runSX (own := jcn mu) (index := idx) (n := n) (Ts := jTw) (nL := c.maxLocals) (cc := c.code) (hh := hh) ⟨hx, rfl, rfl, hown, hts⟩ hM ⟨⟨rfl, rfl, by show d + 8 + 1 ≤ _; omega, by show 8 + (jMx mu' + 11) + (200 + 60 * d) ≤ _; omega, jpay hts hcw, hcm⟩, hcb, hts _ hini, hy, hlen', hts _ hlk', hts _ hstt⟩ hpv rfl (by rw [List.length_map]; exact hn) (e1.1.trans e0) hstk (by rw [jcats_sum (hsr e2)]; show 2 * 0 + _ ≤ 8; omega) hd e5
/-- a String constant's object on the stack -/
theorem jS_ldc {own tx : String} {pc idx sa : Nat} {ls : jL} {st : List jV} {w : jH} (hx : p.tables.exec = Jvm.exec) (hown : s.vm.findClass own = some m.cls) (hs : vk_R own idx tx sa s) (hd : decode c.code pc = .ok (.ldc idx, 2)) (h : jPt jClasses G p l e R s m args below meth c Q c0 s0 z (pc + 2) ls (jr sa :: st) w) : jPt jClasses G p l e R s m args below meth c Q c0 s0 z pc ls st w := by
  refine ⟨h.1, fun arr H locs cells slots e0 e1 e2 e3 e4 e5 e6 => ?_⟩
  intro T hT X
  obtain ⟨t, a1, b1⟩ := h.2 arr H locs cells slots e0 e1 (e2.cons (jok_ref sa)) e3 e4 e5 e6 T hT X
  exact ⟨t, X.ldcString hx (own := own) (text := tx) (index := idx) (a := sa) hown hs.1 hs.2 (g := { method := m, pc := pc, locals := arr, stack := st.map jtv, locked := none }) rfl hd _ a1, b1⟩
set_option maxHeartbeats 1000000 in
theorem jS_idx (F : jFr l G d mu p R s m args meth c w0 z) (hc0 : z.2.2.2.1 ≤ c0 + R.cells) (hs0 : z.2.2.2.2 ≤ s0 + R.slots) {pc sa dd : Nat} {arr0 : Cell} {x : Int} {ls : jL} {st : List jV} {w : jH} (hmu : mu = 89) (hc : jcode jT0 mu pc = some (.invokevirtual 52)) (k2 : ¬ jA G sa) (k3 : ¬ jA G dd) (k4 : jSg sa dd arr0 s) (k5 : va_Z "java/lang/String" "COMPACT_STRINGS" "Z" (.int 1) (jA G) s s.heap)
    (h8 : Nat.ble (jcats st) 8 = true) (h : jPt jClasses G p l e R s m args below meth c Q c0 s0 z (pc + 3) ls (.inl (jidx x) :: st) w) : jPt jClasses G p l e R s m args below meth c Q c0 s0 z pc ls (.inl x :: jr sa :: st) w := by
  have hD := F.dec
  have hfr := F.fr
  obtain ⟨⟨hx, hl⟩, hown, hts, hWd, ⟨hb, hml, htb⟩, ⟨-, hlocks⟩, hR, hMn, -⟩ := F
  subst hmu
  have hd := (hD.at hc (by simp [jlen])).1
  have h8' := Nat.le_of_ble_eq_true h8
  refine ⟨h.1, fun arr H locs cells slots e0 e1 e2 e3 e4 e5 e6 => ?_⟩
  have hm1 := h.1.1
  have hm2 := h.1.2
  have hxr : jr32 x := e2.hd
  have l1 : sa < s.heap.size := by
    obtain ⟨-, -, ⟨cl, k, q1, -⟩, -⟩ := id k4
    exact (Array.getElem?_eq_some_iff.mp q1).1
  have l2 : dd < s.heap.size := (Array.getElem?_eq_some_iff.mp k4.2.2.2.1).1
  have hpv : PreV s H "java/lang/String" sa (jPI sa dd arr0 x (jA G)) [.int (Int32.ofInt x)] := by
    refine ⟨jPI_blind, ?_, fun U hU hW => ⟨rfl, k4.go hW.alike (by rw [hU]; exact e4.2.1 _ l1 k2) (by rw [hU]; exact e4.2.1 _ l2 k3), va_Z.moved hW.alike (k5.kept fun q hq hn => by rw [hU]; exact e4.2.1 q hq hn)⟩⟩
    obtain ⟨-, -, ⟨cl, k, q1, q2, q3, q4, q5⟩, -⟩ := id k4
    exact ⟨cl, by rw [e4.2.1 _ l1 k2]; exact q1, q4, q2⟩
  have hown' : s.vm.findClass "HabitRegistry$Script" = some m.cls := hown
  have hr : vx_Run p l e R s m args below meth c H locs cells slots 0 0 (F0 m pc arr ((.inl x :: jr sa :: st : List jV).map jtv)) (st.map jtv) (jQI x (Value.ref sa :: [Value.int (Int32.ofInt x)]).toArray) (fun _ _ _ => False) (jA G) :=
    vx_runV (C := "java/lang/String") (own := "HabitRegistry$Script") (index := 52) (n := 1) (Ts := jTw) (nL := c.maxLocals) (cc := c.code) ⟨hx, rfl, rfl, hown', hts⟩ (jMI l hxr (fun _ _ _ => False))
      ⟨⟨rfl, rfl, by show 4 + 1 ≤ _; omega, by show 8 + (2 + 11) + 160 ≤ _; omega, fun w hw a' U hW => jwm_warm (jWI_wm hw) hW (hts _ (jWI_sub hw)), List.mem_cons_self, hts _ (jWI_sub List.mem_cons_self), hts _ (jWI_sub (List.mem_of_getElem? (i := 4) rfl)), ⟨by decide, by decide⟩,
        fun sig hsig => by rw [show parseMethodDescriptor Jvm.Free.StrIndexOf.indexOf1N.desc = some ⟨[.int], some .int⟩ from by decide +kernel] at hsig; cases hsig; rfl, hts _ jidx_link.1⟩, hts _ jidx_link.2.1, hts _ jidx_link.2.2⟩
      hpv rfl rfl (e1.1.trans e0) rfl (by rw [jcats_sum e2.tl.tl]; show 2 * 0 + _ ≤ 8; omega) hd ⟨by omega, by omega⟩
  intro T hT X
  rcases hr T hT X with ⟨v, st₀, t, T', L, h0, X', hL, e1', e2', ⟨hv, hh⟩, stp⟩ | ⟨q, st₀, t, T', L, E, ce, h0, X', hL, e1', e2', hf, -⟩
  · cases hv
    have hH : T'.heap = H := by rw [e1', hh, h0]
    obtain ⟨t2, a1, b1⟩ := h.2 arr H (locs ++ L) cells slots e0 e1 (e2.tl.tl.cons (v := .inl (jidx x)) (jidx_r x)) e3 ⟨e4.1, e4.2.1, fun q hq => by
      rcases List.mem_append.mp hq with hq | hq
      · exact e4.2.2 q hq
      · exact hL q hq⟩ e5 e6 T' hH X'
    exact ⟨t2, stp t2 a1, b1⟩
  · exact hf.elim
theorem jf5 (F : jFr l G d mu p R s m args meth c w0 z) (hc0 : z.2.2.2.1 ≤ c0 + R.cells) (hs0 : z.2.2.2.2 ≤ s0 + R.slots) : ∀ pc idx k x ls st w, jcode jT0 mu pc = some (.ldc idx) → jcres jT0 mu idx = some k → ls[k.toNat]? = some (some (.inl x)) → Nat.ble (jcats st) 8 = true → jPt jClasses G p l e R s m args below meth c Q c0 s0 z (pc + 6) ls (.inl (jidx x) :: st) w → jPt jClasses G p l e R s m args below meth c Q c0 s0 z pc ls st w := by
  intro pc idx k x ls st w hc hk hls h8 h
  obtain ⟨hmu, rfl, rfl, d2, d3⟩ := jix_at hc hk
  have hD := F.dec
  obtain ⟨sa, dd, arr0, k1, k2, k3, k4, k5⟩ := F.2.2.2.1.2.2.2
  have hown' : s.vm.findClass "HabitRegistry$Script" = some m.cls := by
    have h9 := F.2.1
    rw [hmu] at h9
    exact h9
  refine jS_ldc F.1.1 hown' k1 (hD.at hc (by simp [jlen])).1 ?_
  refine jS_iload_n F.1.1 (k := 2) (hD.at d2 (by simp [jlen])).1 hls ?_
  exact jS_idx F hc0 hs0 hmu d3 k2 k3 k4 k5 h8 h
theorem jfin (IH : jSp l G d) (F : jFr l G d mu p R s m args meth c w0 z) (htb : jTb mu c) : jStpG jClasses G p l e R s m args below meth c (vx_MQ below (jQc jClasses G z) (jXC jClasses G z) args s (z.2.2.2.1 - w0.2.2.1) (z.2.2.2.2 - w0.2.2.2) (jA G)) w0.2.2.1 w0.2.2.2 z jT0 mu (jme jT0 jMx d) := by
  have hfr := F.fr
  have hD := F.dec
  have hx := F.1.1
  have hret := F.2.2.2.2.2.1.1
  have hlocks := F.2.2.2.2.2.1.2
  have hmm := jMn F.2.2.2.2.2.2.2.1
  have hout : ∀ (E : String) (pc : Nat) (ls : jL) (st : List jV) (w : jH), E ∈ jexc → jhres jT0 mu E = none → z = (.inr E, w) → jPx jClasses G p l e R s m args below meth c (vx_MQ below (jQc jClasses G z) (jXC jClasses G z) args s (z.2.2.2.1 - w0.2.2.1) (z.2.2.2.2 - w0.2.2.2) (jA G)) w0.2.2.1 w0.2.2.2 z E pc ls st w := fun E pc ls st w hE hn hz => jPx_none F htb hE hn hz
  refine ⟨jf1 F hfr.2.2.1 hfr.2.2.2, jf2 F, jf3 F hfr.2.2.1 hfr.2.2.2, jf4 F hfr.2.2.1 hfr.2.2.2, jf5 F hfr.2.2.1 hfr.2.2.2, jf6 F, jf7 IH F hfr.2.2.1 hfr.2.2.2 hout, jf8 IH F hfr.2.2.1 hfr.2.2.2 hout, jf9 F hfr.2.2.1 hfr.2.2.2, ?_, ?_, ?_, ?_, ?_⟩
  · intro pc x ty ls w hc ht hf hz
    exact jE_i hx hz hmm.1 hmm.2 hlocks (hret.trans ht) hf (hD.at hc (by simp [jlen])).1
  · intro pc x ty ls w hc ht hf hz
    exact jE_a hx hz hmm.1 hmm.2 hlocks (hret.trans ht) hf (hD.at hc (by simp [jlen])).1
  · intro pc x ls w hc ht hz
    exact jE_f hx hz hmm.1 hmm.2 hlocks (hret.trans ht) (hD.at hc (by simp [jlen])).1
  · intro pc x ls w hc ht hz
    exact jE_d hx hz hmm.1 hmm.2 hlocks (hret.trans ht) (hD.at hc (by simp [jlen])).1
  · intro pc ls w hc ht hz
    exact jE_v hx hz hmm.1 hmm.2 hlocks (hret.trans ht) (hD.at hc (by simp [jlen])).1
theorem jfFl (hts : ∀ w ∈ jTw, w.before args s = true) (hname : mu = 337 ∨ meth.name = (jy mu).name) : jFldF jClasses jT0 mu (jcn mu) args s meth := by
  have hget : ∀ idx ci k ty, jfres jT0 mu idx = some (ci, (k, ty)) → jFl jClasses args s (jcn mu) idx ci k ty := fun idx ci k ty hf => by
    obtain ⟨C, T, N, hC, hk, hp, hl⟩ := jfld_at hf
    obtain ⟨-, hin, -, -⟩ := jcls_at hC
    exact ⟨C, T, N, hC, hk, hp, fun w hw => hts w (hin w hw), hl.imp (hts _) (fun ⟨host, h⟩ => ⟨host, hts _ h⟩)⟩
  refine ⟨fun pc idx ci k ty hc hf => hget idx ci k ty hf, fun pc idx ci k ty hc hf => ⟨hget idx ci k ty hf, fun C T N hC => ?_⟩⟩
  obtain ⟨-, -, hty, hdis⟩ := jcls_at hC
  refine ⟨hty, hdis, ?_⟩
  rcases jput_at hc hf hC with h | ⟨h1, h2, h3, h4⟩
  · exact Or.inl h
  · rcases hname with rfl | hname
    · exact absurd h2 (by decide +kernel)
    · exact Or.inr ⟨h1, hname.trans h2, h3, hts _ h4⟩
theorem jone_sl : ∀ (as : List jV), jone as = true → (∀ v ∈ as, jok v) → lg_sl (as.map jtv) = (as.map jtv).map Slot.val
  | [], _, _ => rfl
  | v :: as, h, hok => by
    have h' : (Nat.beq (jcat v) 1 && jone as) = true := h
    rw [Bool.and_eq_true] at h'
    have h1 := Nat.eq_of_beq_eq_true h'.1
    have h2 := jok_cat (hok v List.mem_cons_self)
    have h3 : ¬ (jtv v).category = 2 := by omega
    have ih := jone_sl as h'.2 (fun u hu => hok u (List.mem_cons_of_mem _ hu))
    show (if (jtv v).category = 2 then [Slot.val (jtv v), Slot.second] else [Slot.val (jtv v)]) ++ lg_sl (as.map jtv) = _
    rw [if_neg h3, ih]
    rfl
theorem jone_cat : ∀ (as : List jV), jone as = true → ∀ v ∈ as, jcat v = 1
  | [], _, _, hv => absurd hv List.not_mem_nil
  | u :: as, h, v, hv => by
    have h' : (Nat.beq (jcat u) 1 && jone as) = true := h
    rw [Bool.and_eq_true] at h'
    rcases List.mem_cons.mp hv with rfl | hv
    · exact Nat.eq_of_beq_eq_true h'.1
    · exact jone_cat as h'.2 v hv
theorem jentry {as : List jV} {n : Nat} (h1 : jone as = true) (hn : as.length ≤ n) (hok : ∀ v ∈ as, jok v) : jLo ((lg_sl (as.map jtv) ++ List.replicate (n - (lg_sl (as.map jtv)).length) Slot.unset).toArray) (as.map some ++ List.replicate (n - as.length) none) := by
  have hs := jone_sl as h1 hok
  have hlen : (lg_sl (as.map jtv)).length = as.length := by rw [hs, List.length_map, List.length_map]
  have hE := lv_entry (as.map jtv) (n := n) (by omega)
  refine ⟨by rw [hE.1, List.length_append, List.length_map, List.length_replicate]; omega, hE.2.1, fun k v hk => ?_⟩
  have hka : as[k]? = some v := by
    rw [List.getElem?_append] at hk
    split at hk
    · rw [List.getElem?_map] at hk
      cases ha : as[k]? with
      | none => rw [ha] at hk; cases hk
      | some u => rw [ha] at hk; cases hk; rfl
    · rw [List.getElem?_replicate] at hk
      split at hk
      · cases hk
      · cases hk
  have hmem : v ∈ as := List.mem_of_getElem? hka
  have hlt : k < as.length := (List.getElem?_eq_some_iff.mp hka).1
  refine ⟨?_, hok v hmem, fun h2 => absurd (jone_cat as h1 v hmem) (by omega)⟩
  rw [List.getElem?_toArray, List.getElem?_append_left (by omega), hs, List.getElem?_map, List.getElem?_map, hka]
  rfl
end JFinB
set_option maxHeartbeats 1000000 in
theorem jbody {l : Launch} (hl : l.stackTraces = false) {G : jGc} {d mu : Nat} (IH : jSp l G d) {as : List jV} {w : jH} {z : jO × jH} (hX : jX (d + 1) mu as w = some z) {p : Program} {e : Env} {s : State} {m : MethodId} {args : Array Value} {below : List Frame} {meth : Method} {c : Code} {s₁ : State}
    (B : BodyLoose p l (jy mu) (headSpec (jcw0 mu :: jTw) (jRm (d + 1) w z)) (jbytes mu) (jMx mu) (jrt mu) e s m args below meth c s₁) (hml : c.maxLocals = jMx mu) (htb : jTb mu c) (hP : jPc G as w args s) :
    W p l e (headSpec (jcw0 mu :: jTw) (jRm (d + 1) w z)).room s m args below meth c s.heap [] 0 0 (vx_MQ below (jQc jClasses G z) (jXC jClasses G z) args s (z.2.2.2.1 - w.2.2.1) (z.2.2.2.2 - w.2.2.2) (jA G)) (entryFrame m args (jMx mu)) := by
  have hmo := jX_mono hX
  have hmu := jX_lt hX
  have h' : (match Nat.ble as.length (jMx mu) && jone as with
    | true => jlp jT0 mu (jme jT0 jMx d) 100000 0 (as.map some ++ List.replicate (jMx mu - as.length) none) [] w
    | false => none) = some z := hX
  split at h'
  · rename_i hb
    rw [Bool.and_eq_true] at hb
    obtain ⟨hb1, hb2⟩ := hb
    have hb1' := Nat.le_of_ble_eq_true hb1
    obtain ⟨rfl, hok, hR, hWd⟩ := hP
    have hts : ∀ w ∈ jTw, w.before (as.map jtv).toArray s = true := fun u hu => atoms_spec (ws := jcw0 mu :: jTw) B.pre u (List.mem_cons_of_mem _ hu)
    have hown : s.vm.findClass (jcn mu) = some m.cls := by
      have h1 := findClass_of_methodNamed B.named
      rw [(jnm_at hmu).2.1] at h1
      exact h1
    have hname := (name_of_methodNamed B.named B.method).1
    have F : jFr l G d mu p (jRm (d + 1) w z) s m (as.map jtv).toArray meth c w z := ⟨⟨B.exec, hl⟩, hown, hts, hWd, ⟨B.bytes, hml, Or.inr htb⟩, ⟨B.returns, B.notSynchronized⟩, ⟨by show d + 9 ≤ d + 1 + 8; omega, by show 260 + 60 * d ≤ 200 + 60 * (d + 1); omega, by show _ ≤ w.2.2.1 + (z.2.2.2.1 - w.2.2.1); omega, by show _ ≤ w.2.2.2 + (z.2.2.2.2 - w.2.2.2); omega⟩, hmo, hmu⟩
    have hJ := jlp_sndB (cl := jClasses) (e := e) (below := below) B.exec hWd.1.1 hown F.dec (jfFl hts (Or.inr hname)) ⟨jF7, 3, rfl⟩ (jfin IH F htb) 100000 0 _ [] w h'
    rw [lg_entry_eq]
    exact hJ.2 _ s.heap [] 0 0 (by rw [List.length_append, List.length_map, List.length_replicate, hml]; omega) (jentry hb2 hb1' hok) jSo.nil hR ⟨Nat.le_refl _, fun _ _ _ => rfl, fun _ h => nomatch h⟩ rfl rfl
  · cases h'
theorem jSp_all {l : Launch} (hl : l.stackTraces = false) (G : jGc) : ∀ d, jSp l G d
  | 0 => fun mu as w z h => nomatch h
  | d + 1 => fun mu as w z h => by
    have hmu := jX_lt h
    cases hho : jhof mu with
    | none =>
      exact vx_ofW (cc := jbytes mu) (maxL := jMx mu) (ret := jrt mu) (ws' := jTw) (jnm_at hmu).1 (by rw [jcw_none hho]) (fun p e s m args below meth c s₁ B hml ht hP => jbody hl (jSp_all hl G d) h B hml (by
        show c.exceptionTable.toList.map jqd = (jhof mu).getD []
        rw [hho]
        cases hc : c.exceptionTable.toList with
        | nil => rfl
        | cons x r => exact (ht x (by rw [hc]; exact List.mem_cons_self)).elim) hP)
    | some hh =>
      exact vx_ofWH (cc := jbytes mu) (maxL := jMx mu) (ret := jrt mu) (ws' := jTw) (hh := hh) (jnm_at hmu).1 (by rw [jcw_some hho]) (fun p e s m args below meth c s₁ B hml hP => jbody hl (jSp_all hl G d) h B hml (by
        show c.exceptionTable.toList.map jqd = (jhof mu).getD []
        rw [hho]
        have h1 := atoms_spec (ws := jcw0 mu :: jTw) B.pre _ List.mem_cons_self
        rw [jcw_some hho] at h1
        obtain ⟨m9, meth9, c9, g1, g2, g3, -, -, g6, -⟩ := Cond.codeWith_spec h1
        cases B.named.symm.trans g1
        cases B.method.symm.trans g2
        cases (Stand.of_body B).code.symm.trans g3
        exact g6) hP)

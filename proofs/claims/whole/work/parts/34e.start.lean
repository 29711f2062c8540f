/-! ===== the statement's start, but for the loop ===== -/
def jlw (N : Nat) (cf : jCf) (i : Int) (z6 z7 z8 : Option jV) (m : jMem) (dv : UInt64) (k : jM) : jR := jlp jT0 337 (jme jT0 jMx 9) N 28 [some (jr cf.2.1), some (jr (jn cf + 0)), some (jr (jn cf + 147)), some (jr (jn cf + 155)), some (jr (jn cf + 156)), some (.inl i), z6, z7, z8] [] (hp cf dv m, k)
/-- what is left: the loop comes to its end, with true, within its room -/
def jGoal (cf : jCf) : Prop := ∃ (N : Nat) (w : jH), jlw N cf 0 none none none jm0 0 (some (cf.1 + 157), (157, 4209)) = some (.inl (some (.inl 1)), w) ∧ w.2.2.1 ≤ 603072 ∧ w.2.2.2 ≤ 7202921
theorem jw0_hz {s : State} {b L : Nat} {xs : Nat → Int32} (hb : b < s.heap.size) : jw0 s b L xs = (hz s.heap.size (fun q => if q = b then some (jscr (s.heap.size, (b, (L, xs)))) else none) [] [], (some (s.heap.size + (([] : List jE).length + 0)), (0, 0))) := by
  unfold jw0
  refine Prod.ext (funext fun q => ?_) rfl
  show (if q = b then some (jscr (s.heap.size, (b, (L, xs)))) else none) = hz s.heap.size (fun q => if q = b then some (jscr (s.heap.size, (b, (L, xs)))) else none) [] [] q
  unfold hz
  cases hq : Nat.blt q s.heap.size with
  | true => rfl
  | false =>
    have h0 : s.heap.size ≤ q := by
      rw [← Bool.not_eq_true, Nat.blt_eq] at hq
      omega
    rw [if_neg (by omega)]
    rfl
theorem jstart_of (HG : ∀ cf : jCf, cf.2.1 < cf.1 → cf.2.2.1 ≤ 2048 → jGoal cf) {p : Program} {e : Env} {s : State} {m : MethodId} {below : List Frame} {meth : Method} {c : Code} (l : Launch) (hflags : l.flags = flags0) {b L : Nat} {xs : Nat → Int32} (hL : L ≤ 2048) (C0 : lw_At p s m meth c b L xs) :
    W p l e room_1 s m #[Value.ref b] below meth c s.heap [] 0 0 (lw_Z below #[Value.ref b] s) (entryFrame m ([Value.ref b] : List Value).toArray 9) := by
  obtain ⟨hx, hb, hr, hml, hown, htl, ⟨scr, h1, h2, h3, h4, h5⟩, hbl, hlocks, hgv⟩ := C0
  have hts : ∀ w ∈ jTw, w.before #[Value.ref b] s = true := fun w hw => htl w (List.mem_filter.mp hw).1
  have hl : l.stackTraces = false := by
    unfold Launch.stackTraces
    rw [hflags]
    decide
  obtain ⟨N, w, hzz, hc, hs⟩ := HG (s.heap.size, (b, (L, xs))) hbl hL
  have hrun : jlp jT0 337 (jme jT0 jMx 9) (N + 1) 0 (some (jr b) :: List.replicate 8 none) [] (jw0 s b L xs) = some (.inl (some (.inl 1)), w) := by
    rw [jw0_hz hbl]
    refine (C337 4 s.heap.size b N _).trans ?_
    rw [show hz s.heap.size (fun q => if q = b then some (jscr (s.heap.size, (b, (L, xs)))) else none) [] (bkL s.heap.size) = hp (s.heap.size, (b, (L, xs))) 0 jm0 from hz_hp (s.heap.size, (b, (L, xs))) hbl]
    exact hzz
  exact jlaw_snd (G := jG0 s b scr) (d := 9) hl hx hb hr hml hown hts hlocks (jWld0 htl hgv h2 h3) (fun q hq hA => absurd hq (Nat.not_lt.mpr hA)) (jHR0 hbl hL h1 h4 h5) rfl (by decide) hrun hc hs

/-! ===== the law's loop, to its end ===== -/
theorem jm0_z {q : Nat} (h0 : q ≠ 0) (h7 : q ≠ 147) (j : Nat) : jm0 q j = 0 := by
  have e0 : Nat.beq q 0 = false := by
    cases hb : Nat.beq q 0 with
    | false => rfl
    | true => exact absurd (Nat.eq_of_beq_eq_true hb) h0
  have e7 : Nat.beq q 147 = false := by
    cases hb : Nat.beq q 147 with
    | false => rfl
    | true => exact absurd (Nat.eq_of_beq_eq_true hb) h7
  unfold jm0
  simp only [e0, e7, cond_false]
theorem TY_jm0 {b : Nat} (h1 : 0 < b) (h2 : b ≤ 127) : TY b jm0 := ⟨fun j _ => Or.inl (jm0_z (by omega) (by omega) j), fun j _ => ⟨by
  rw [jm0_z (by omega) (by omega)]
  omega, Or.inl (jm0_z (by omega) (by omega) j), Or.inl (jm0_z (by omega) (by omega) j)⟩⟩
theorem RS_jm0 : RS 1 jm0 (jm0 148) := by
  have hg : ∀ j, jm0 148 j = 0 := fun j => jm0_z (by omega) (by omega) j
  have en : gn (jm0 148) = 0 := by
    unfold gn
    rw [hg]
    rfl
  have eh : hN (jm0 148) = 0 := by
    unfold hN
    rw [hg]
    rfl
  have hz : ∀ q j, 0 < q → q < 147 → jm0 q j = 0 := fun q j h1 h2 => jm0_z (by omega) (by omega) j
  refine ⟨fun i => i, fun i => i, ⟨?_, ?_, ?_⟩, ⟨⟨?_, ?_, ?_, ?_⟩, ?_⟩, ?_, ⟨?_, ?_, ?_, ?_⟩, ⟨⟨?_, ?_⟩, ?_, ?_, ⟨?_, ?_, ?_, ?_⟩⟩, ?_⟩
  · rw [hg, hz _ _ (by omega) (by omega)]
  · rw [en]
    intro i hi
    omega
  · unfold OD
    rw [en]
    exact ⟨fun q hq => by omega, fun x hx => by omega, fun x hx => by omega, fun x y z hx => by omega, fun x y _ hy => by omega⟩
  · rw [hg, hz _ _ (by omega) (by omega)]
  · rw [hg, hz _ _ (by omega) (by omega)]
  · rw [hg, hz _ _ (by omega) (by omega)]
  · rw [hg, hz _ _ (by omega) (by omega)]
  · rw [eh]
    intro k hk
    omega
  · rw [hg, hz _ _ (by omega) (by omega)]
  · rw [hg]
    omega
  · rw [hg]
    omega
  · unfold fvp
    rw [en]
    intro i hi
    omega
  · rw [en]
    intro i hi
    omega
  · rw [hg]
    omega
  · rw [hg]
    omega
  · rw [eh]
    intro k hk
    omega
  · rw [eh]
    intro k l hk
    omega
  · rw [hg]
    omega
  · rw [hg]
    omega
  · rw [hg]
    omega
  · rw [eh, hg, hg, hg]
    rfl
  · unfold GL
    rw [eh]
    intro k hk
    omega
theorem IV_jm0 : IV jm0 := by
  have e08 : jm0 0 8 = -1 := rfl
  have e09 : jm0 0 9 = 0 := rfl
  have e05 : jm0 0 5 = 0 := rfl
  refine ⟨RS_jm0, ⟨0, 0, ?_, by omega, ?_, rfl, by omega, fun j hj => absurd hj (Nat.not_lt_zero j)⟩, ⟨TY_jm0 (by omega) (by omega), TY_jm0 (by omega) (by omega), fun s hs => TY_jm0 (by omega) (by omega)⟩, ⟨rfl, fun h => absurd e05 h⟩, ⟨rfl, rfl, rfl, ?_, Or.inr ⟨?_, rfl⟩⟩, ⟨0, by omega, ?_, rfl, fun i hi => absurd hi (Nat.not_lt_zero i)⟩, ⟨0, by omega, ?_, rfl, fun i hi => absurd hi (Nat.not_lt_zero i)⟩, rfl⟩
  · exact jm0_z (by omega) (by omega) 1
  · exact jm0_z (by omega) (by omega) 2
  · rw [e08]
    omega
  · rw [e09]
    omega
  · exact jm0_z (by omega) (by omega) 1
  · exact jm0_z (by omega) (by omega) 1
section Loop
variable {cf : jCf}
theorem jlw_z (hs : cf.2.1 < cf.1) (hL : cf.2.2.1 ≤ 2048) : ∀ (N : Nat) (i : Int), 0 ≤ i → i + 4 * (N : Int) < 2000000000 → ∀ (z6 z7 z8 : Option jV) (m : jMem) (dv : UInt64) (k : jM), jlw N cf i z6 z7 z8 m dv k = jlw N cf i none none none m dv k
  | 0, i, _, _ => fun z6 z7 z8 m dv k => Eq.trans (b := none) rfl rfl
  | N + 1, i, h0, h => fun z6 z7 z8 m dv k => by
    have e : jw (i + 4) = i + 4 := jw_id ⟨by omega, by omega⟩
    have IH := jlw_z hs hL N (jw (i + 4)) (by omega) (by omega)
    exact (X337 hs h0 hL (C := fun m dv k => jlw N cf (jw (i + 4)) none none none m dv k) 0 N (fun z6 z7 z8 m dv k => IH z6 z7 z8 m dv k) z6 z7 z8 m dv k).trans (X337 hs h0 hL (C := fun m dv k => jlw N cf (jw (i + 4)) none none none m dv k) 0 N (fun z6 z7 z8 m dv k => IH z6 z7 z8 m dv k) none none none m dv k).symm
theorem jlw_run (hs : cf.2.1 < cf.1) (hL : cf.2.2.1 ≤ 2048) : ∀ (n : Nat) (i : Int) (m : jMem) (dv : UInt64) (k : jM), 0 ≤ i → i + 4 * (n : Int) < 1000000 → (cf.2.2.1 : Int) - i < 4 * (n : Int) + 4 → IV m → ∃ w, jlw (n + 1) cf i none none none m dv k = some (.inl (some (.inl 1)), w) ∧ w.2.2.1 ≤ k.2.1 + n ∧ w.2.2.2 ≤ k.2.2 + 6 * n
  | 0, i, m, dv, k, h0, h1, h2, I => by
    have e : jw (i + 4) = i + 4 := jw_id ⟨by omega, by omega⟩
    have IH := jlw_z hs hL 0 (jw (i + 4)) (by omega) (by omega)
    refine ⟨(hp cf dv m, k), (X337 hs h0 hL (C := fun m dv k => jlw 0 cf (jw (i + 4)) none none none m dv k) 0 0 (fun z6 z7 z8 m dv k => IH z6 z7 z8 m dv k) none none none m dv k).trans (if_pos ?_), ?_, ?_⟩
    · rw [jw_id ⟨by omega, by omega⟩]
      omega
    · show k.2.1 ≤ k.2.1 + 0
      omega
    · show k.2.2 ≤ k.2.2 + 6 * 0
      omega
  | n + 1, i, m, dv, k, h0, h1, h2, I => by
    have e : jw (i + 4) = i + 4 := jw_id ⟨by omega, by omega⟩
    have IH := jlw_z hs hL (n + 1) (jw (i + 4)) (by omega) (by omega)
    have X := X337 hs h0 hL (C := fun m dv k => jlw (n + 1) cf (jw (i + 4)) none none none m dv k) 0 (n + 1) (fun z6 z7 z8 m dv k => IH z6 z7 z8 m dv k) none none none m dv k
    have eL : jw ((cf.2.2.1 : Int) - 4) = (cf.2.2.1 : Int) - 4 := jw_id ⟨by omega, by omega⟩
    rw [eL] at X
    by_cases hc : (cf.2.2.1 : Int) - 4 < i
    · rw [if_pos hc] at X
      refine ⟨(hp cf dv m, k), X, ?_, ?_⟩
      · show k.2.1 ≤ k.2.1 + (n + 1)
        omega
      · show k.2.2 ≤ k.2.2 + 6 * (n + 1)
        omega
    · obtain ⟨m', dv', x, et, I'⟩ := tt_all (dv := dv) I h0 hL (show i + 4 ≤ (cf.2.2.1 : Int) by omega) ((cf.2.2.2 i.toNat).toInt % 64)
      obtain ⟨w, ew, b1, b2⟩ := jlw_run hs hL n (jw (i + 4)) m' dv' (if x = 0 then k else thr k) (by omega) (by omega) (by omega) I'
      rw [if_neg hc, oix_i h0 (by omega), et, lT_t] at X
      refine ⟨w, X.trans ew, ?_, ?_⟩
      · by_cases hx : x = 0
        · rw [if_pos hx] at b1
          omega
        · rw [if_neg hx, show (thr k).2.1 = k.2.1 + 1 from rfl] at b1
          omega
      · by_cases hx : x = 0
        · rw [if_pos hx] at b2
          omega
        · rw [if_neg hx, show (thr k).2.2 = k.2.2 + 6 from rfl] at b2
          omega
theorem jHG (cf : jCf) (hs : cf.2.1 < cf.1) (hL : cf.2.2.1 ≤ 2048) : jGoal cf := by
  obtain ⟨w, e, b1, b2⟩ := jlw_run hs hL 600 0 jm0 0 (some (cf.1 + 157), (157, 4209)) (by omega) (by omega) (by omega) IV_jm0
  have b1' : w.2.2.1 ≤ 157 + 600 := b1
  have b2' : w.2.2.2 ≤ 4209 + 6 * 600 := b2
  exact ⟨601, w, e, by omega, by omega⟩
end Loop
/-- from the entry, for every script, the law comes to its end with true -/
theorem whole_start {p : Program} {e : Env} {s : State} {m : MethodId} {below : List Frame} {meth : Method} {c : Code} (l : Launch) (hflags : l.flags = flags0) {b L : Nat} {xs : Nat → Int32} (hL : L ≤ 2048) (C0 : lw_At p s m meth c b L xs) : W p l e room_1 s m #[Value.ref b] below meth c s.heap [] 0 0 (lw_Z below #[Value.ref b] s) (entryFrame m ([Value.ref b] : List Value).toArray 9) :=
  jstart_of jHG l hflags hL C0

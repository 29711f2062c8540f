/-! ===== the law up to its loop ===== -/
theorem C176j {d n0 : Nat} {B : Nat → Option jE} {p : List jE} {c s j : Nat} (l1 : List jE) (h : l1.length = j) : jme jT0 jMx (d + 1) 176 [jr (n0 + (p.length + j))] (hz n0 B p (l1 ++ [.inr (.inl (9, [.inr (.inr .null), .inr (.inr .null), .inr (.inr .null), .inr (.inr .null), .inl 0, .inl 0, .inl 0, .inl 0, .inl 0, .inl 0, .inl 0, .inl 0, .inr (.inr .null), .inl 0, .inl 0, .inr (.inr .null), .inl 0, .inl 0, .inr (.inr .null), .inl 0]))]), (some (n0 + (p.length + (j + 1))), (c, s))) = some (.inl none, (hz n0 B p (l1 ++ bkM n0 (p.length + j)), (some (n0 + (p.length + (j + 8))), (c + 7, s + 1762)))) := by
  subst h
  exact C176c l1
def bkL (n0 : Nat) : List jE := bkR n0 0 ++ (bkM n0 147 ++ [.inl (.long, (1, fun _ => 0)), .inr (.inr (.double, (1, fun _ => .double 0)))])
set_option maxRecDepth 20000 in
set_option maxHeartbeats 3200000 in
theorem C337 (d n0 b N : Nat) (B : Nat → Option jE) : jlp jT0 337 (jme jT0 jMx (d + 5)) (N + 1) 0 (some (jr b) :: List.replicate 8 none) [] (hz n0 B [] [], (some (n0 + (([] : List jE).length + 0)), (0, 0))) = jlp jT0 337 (jme jT0 jMx (d + 5)) N 28 [some (jr b), some (jr (n0 + 0)), some (jr (n0 + 147)), some (jr (n0 + 155)), some (jr (n0 + 156)), some (.inl 0), none, none, none] [] (hz n0 B [] (bkL n0), (some (n0 + 157), (157, 4209))) := by
  refine jlp_s.trans ?_
  refine (F337_0 ..).trans ?_
  refine (hz_newj (by simp only [List.append_eq, List.nil_append, List.length_append, List.length_cons, List.length_nil, bkR_len, bkM_len] <;> omega)).trans ?_
  refine (F337_3 ..).trans ?_
  refine (F337_4 ..).trans ?_
  refine ((jsh_ok rfl)).trans ?_
  refine (congrArg (fun r => jcl r _ _) (C101c [])).trans ?_
  refine (F337_7 ..).trans ?_
  refine (F337_8 ..).trans ?_
  refine (hz_newj (by simp only [List.append_eq, List.nil_append, List.length_append, List.length_cons, List.length_nil, bkR_len, bkM_len] <;> omega)).trans ?_
  refine (F337_11 ..).trans ?_
  refine (F337_12 ..).trans ?_
  refine ((jsh_ok rfl)).trans ?_
  refine (congrArg (fun r => jcl r _ _) (C176j ([] ++ bkR n0 (([] : List jE).length + ([] : List jE).length)) (by simp only [List.append_eq, List.nil_append, List.length_append, List.length_cons, List.length_nil, bkR_len, bkM_len] <;> omega))).trans ?_
  refine (F337_15 ..).trans ?_
  refine (F337_16 ..).trans ?_
  refine (F337_17 ..).trans ?_
  refine hz_na (by decide) (by decide) ?_
  refine (hz_newj (by simp only [List.append_eq, List.nil_append, List.length_append, List.length_cons, List.length_nil, bkR_len, bkM_len] <;> omega)).trans ?_
  refine (F337_19 ..).trans ?_
  refine (F337_20 ..).trans ?_
  refine (F337_21 ..).trans ?_
  refine hz_na (by decide) (by decide) ?_
  refine (hz_newj (by simp only [List.append_eq, List.nil_append, List.length_append, List.length_cons, List.length_nil, bkR_len, bkM_len] <;> omega)).trans ?_
  refine (F337_23 ..).trans ?_
  refine (F337_25 ..).trans ?_
  refine (F337_26 ..).trans ?_
  unfold bkL
  simp only [List.length_nil, Nat.zero_add, Nat.reduceAdd, List.nil_append, List.append_assoc, List.cons_append]
  rfl
/-- the table at the loop's head -/
def jm0 : jMem := fun q => bif Nat.beq q 0 then (fun j => bif Nat.beq j 8 then -1 else 0) else bif Nat.beq q 147 then (fun j => bif Nat.beq j 14 then -1 else 0) else fun _ => 0
def jmk (cf : jCf) (dv : UInt64) (m : jMem) : Nat → List jSh → List jE
  | _, [] => []
  | q, sh :: r => jcell cf dv m q sh :: jmk cf dv m (q + 1) r
theorem jmk_at (cf : jCf) (dv : UInt64) (m : jMem) : ∀ (l : List jSh) (k i : Nat), (jmk cf dv m k l)[i]? = (l[i]?).map (jcell cf dv m (k + i))
  | [], _, _ => rfl
  | _ :: _, k, 0 => rfl
  | _ :: r, k, i + 1 => by
    show (jmk cf dv m (k + 1) r)[i]? = (r[i]?).map (jcell cf dv m (k + (i + 1)))
    rw [jmk_at cf dv m r (k + 1) i, Nat.add_assoc, Nat.add_comm 1 i]
theorem jmk_app (cf : jCf) (dv : UInt64) (m : jMem) : ∀ (l r : List jSh) (k : Nat), jmk cf dv m k (l ++ r) = jmk cf dv m k l ++ jmk cf dv m (k + l.length) r
  | [], _, _ => rfl
  | _ :: l, r, k => by
    show _ :: jmk cf dv m (k + 1) (l ++ r) = _ :: (jmk cf dv m (k + 1) l ++ jmk cf dv m (k + (l.length + 1)) r)
    rw [jmk_app cf dv m l r (k + 1), Nat.add_assoc, Nat.add_comm 1 l.length]
set_option maxRecDepth 40000 in
set_option maxHeartbeats 3200000 in
theorem bkL_mk (cf : jCf) : bkL (jn cf) = jmk cf 0 jm0 0 jlay := by
  have e : (fun _ : Nat => Value.double 0) = fun j : Nat => if j = 0 then Value.double 0 else .double 0 := funext fun j => (ite_self _).symm
  unfold bkL
  rw [e]
  rfl
theorem hz_hp (cf : jCf) (hs : cf.2.1 < cf.1) : hz (jn cf) (fun q => if q = cf.2.1 then some (jscr cf) else none) [] (bkL (jn cf)) = hp cf 0 jm0 := by
  funext q
  unfold hz hp
  cases hb : Nat.blt q (jn cf) with
  | true =>
    show (if q = cf.2.1 then some (jscr cf) else none) = _
    cases hq : Nat.beq q cf.2.1 with
    | true => rw [if_pos (Nat.eq_of_beq_eq_true hq)]
    | false => rw [if_neg (Nat.ne_of_beq_eq_false hq)]
  | false =>
    show (bkL (jn cf))[q - jn cf]? = _
    rw [bkL_mk, jmk_at, Nat.zero_add]

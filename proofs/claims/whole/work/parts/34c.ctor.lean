/-! ===== the registry, the model; the law up to its loop ===== -/
theorem jfld_get {f : jV → jR} : ∀ (fs : List jV) (k : Nat) (v : jV), fs[k]? = some v → jfld fs k f = f v
  | a :: r, 0, v, h => by
    cases h
    rfl
  | a :: r, k + 1, v, h => jfld_get r k v h
  | [], _, _, h => by cases h
theorem hz_gf0 {n0 : Nat} {B : Nat → Option jE} {p r : List jE} {ci k : Nat} {fs : List jV} {v : jV} {kk : jM} {f : jV → jR} (h : fs[k]? = some v) : jgf (hz n0 B p (.inr (.inl (ci, fs)) :: r), kk) (n0 + (p.length + 0)) ci k f = f v := (hz_gf rfl).trans (jfld_get fs k v h)
theorem hz_pf0 {n0 : Nat} {B : Nat → Option jE} {p r : List jE} {ci k : Nat} {fs : List jV} {ty : FieldType} {v : jV} {kk : jM} {f : jH → jR} (hk : k < fs.length) (hv : jsv ty v = true) :
    jpf (hz n0 B p (.inr (.inl (ci, fs)) :: r), kk) (n0 + (p.length + 0)) ci k ty v f = f (hz n0 B p (.inr (.inl (ci, fs.set k v)) :: r), kk) := hz_pf rfl hk hv
theorem hz_newj {n0 : Nat} {B : Nat → Option jE} {p l : List jE} {c s k j : Nat} {e : jE} {f : Nat → jH → jR} (h : l.length = j) : jnew (hz n0 B p l, (some (n0 + (p.length + j)), (c, s))) e k f = f (n0 + (p.length + j)) (hz n0 B p (l ++ [e]), (some (n0 + (p.length + (j + 1))), (c + 1, s + k))) := by
  subst h
  exact hz_new
theorem bkS_len (n0 b : Nat) : (bkS n0 b).length = 12 := rfl
theorem bkQ_len (n0 b : Nat) : (bkQ n0 b).length = 3 := rfl
theorem bkC_len (n0 b : Nat) : (bkC n0 b).length = 6 := rfl
theorem bkO_len (n0 b : Nat) : (bkO n0 b).length = 2 := rfl
theorem bkM_len (n0 b : Nat) : (bkM n0 b).length = 8 := rfl
theorem bkY_len (n0 b : Nat) : (bkY n0 b).length = 110 := blY_len n0 b 9
def bkR (n0 b : Nat) : List jE := .inr (.inl (6, [jr (n0 + (b + 1)), jr (n0 + (b + 13)), jr (n0 + (b + 14)), jr (n0 + (b + 17)), jr (n0 + (b + 127)), .inl 0, jr (n0 + (b + 139)), jr (n0 + (b + 145)), .inl (-1), .inl 0, .inl 0, .inl 0])) :: ((((((bkS n0 (b + 1) ++ [cA n0 (b + 1)]) ++ bkQ n0 (b + 14)) ++ bkY n0 (b + 17)) ++ bkS n0 (b + 127)) ++ bkC n0 (b + 139)) ++ bkO n0 (b + 145))
set_option maxRecDepth 20000 in
set_option maxHeartbeats 1600000 in
theorem C101 (d n0 : Nat) (B : Nat → Option jE) (p : List jE) (c s : Nat) : jme jT0 jMx (d + 4) 101 [jr (n0 + (p.length + 0))] (hz n0 B p ([.inr (.inl (6, [.inr (.inr .null), .inr (.inr .null), .inr (.inr .null), .inr (.inr .null), .inr (.inr .null), .inl 0, .inr (.inr .null), .inr (.inr .null), .inl 0, .inl 0, .inl 0, .inl 0]))]), (some (n0 + (p.length + 1)), (c, s))) = some (.inl none, (hz n0 B p (bkR n0 p.length), (some (n0 + (p.length + 147)), (c + 146, s + 2413)))) := by
  refine ((show _ = jlp jT0 101 (jme jT0 jMx (d + 3)) 100000 0 [some (jr (n0 + (p.length + 0)))] [] _ from rfl).trans jlp_s).trans ?_
  refine (F101_0 ..).trans ?_
  refine (F101_1 ..).trans ?_
  refine (jsh_n _).trans ?_
  refine (F101_4 ..).trans ?_
  refine (F101_5 ..).trans ?_
  refine (hz_newj (by simp only [List.append_eq, List.length_append, List.length_cons, List.length_nil, bkS_len, bkQ_len, bkC_len, bkO_len, bkM_len, bkY_len] <;> omega)).trans ?_
  refine (F101_8 ..).trans ?_
  refine (F101_9 ..).trans ?_
  refine ((jsh_ok rfl)).trans ?_
  refine (congrArg (fun r => jcl r _ _) (C53c [.inr (.inl (6, [.inr (.inr .null), .inr (.inr .null), .inr (.inr .null), .inr (.inr .null), .inr (.inr .null), .inl 0, .inr (.inr .null), .inr (.inr .null), .inl 0, .inl 0, .inl 0, .inl 0]))])).trans ?_
  refine (F101_12 ..).trans ?_
  refine (hz_pf0 (Nat.le_of_ble_eq_true rfl) rfl).trans ?_
  refine (F101_15 ..).trans ?_
  refine (F101_16 ..).trans ?_
  refine (hz_newj (by simp only [List.append_eq, List.length_append, List.length_cons, List.length_nil, bkS_len, bkQ_len, bkC_len, bkO_len, bkM_len, bkY_len] <;> omega)).trans ?_
  refine (F101_19 ..).trans ?_
  refine (F101_20 ..).trans ?_
  refine (F101_21 ..).trans ?_
  refine (hz_gf0 rfl).trans ?_
  refine (F101_24 ..).trans ?_
  refine ((jsh_ok rfl)).trans ?_
  refine (congrArg (fun r => jcl r _ _) (C62c [.inr (.inl (6, [jr (n0 + (p.length + 1)), .inr (.inr .null), .inr (.inr .null), .inr (.inr .null), .inr (.inr .null), .inl 0, .inr (.inr .null), .inr (.inr .null), .inl 0, .inl 0, .inl 0, .inl 0]))])).trans ?_
  refine (F101_27 ..).trans ?_
  refine (hz_pf0 (Nat.le_of_ble_eq_true rfl) rfl).trans ?_
  refine (F101_30 ..).trans ?_
  refine (F101_31 ..).trans ?_
  refine (hz_newj (by simp only [List.append_eq, List.length_append, List.length_cons, List.length_nil, bkS_len, bkQ_len, bkC_len, bkO_len, bkM_len, bkY_len] <;> omega)).trans ?_
  refine (F101_34 ..).trans ?_
  refine (F101_35 ..).trans ?_
  refine ((jsh_ok rfl)).trans ?_
  refine (congrArg (fun r => jcl r _ _) (C49c (.inr (.inl (6, [jr (n0 + (p.length + 1)), jr (n0 + (p.length + 13)), .inr (.inr .null), .inr (.inr .null), .inr (.inr .null), .inl 0, .inr (.inr .null), .inr (.inr .null), .inl 0, .inl 0, .inl 0, .inl 0])) :: (bkS n0 (p.length + 1) ++ [cA n0 (p.length + 1)])))).trans ?_
  refine (F101_38 ..).trans ?_
  refine (hz_pf0 (Nat.le_of_ble_eq_true rfl) rfl).trans ?_
  refine (F101_41 ..).trans ?_
  refine (F101_42 ..).trans ?_
  refine (hz_newj (by simp only [List.append_eq, List.length_append, List.length_cons, List.length_nil, bkS_len, bkQ_len, bkC_len, bkO_len, bkM_len, bkY_len] <;> omega)).trans ?_
  refine (F101_45 ..).trans ?_
  refine (F101_46 ..).trans ?_
  refine ((jsh_ok rfl)).trans ?_
  refine (congrArg (fun r => jcl r _ _) (C74c (.inr (.inl (6, [jr (n0 + (p.length + 1)), jr (n0 + (p.length + 13)), jr (n0 + (p.length + 14)), .inr (.inr .null), .inr (.inr .null), .inl 0, .inr (.inr .null), .inr (.inr .null), .inl 0, .inl 0, .inl 0, .inl 0])) :: ((bkS n0 (p.length + 1) ++ [cA n0 (p.length + 1)]) ++ bkQ n0 (p.length + 14))))).trans ?_
  refine (F101_49 ..).trans ?_
  refine (hz_pf0 (Nat.le_of_ble_eq_true rfl) rfl).trans ?_
  refine (F101_52 ..).trans ?_
  refine (F101_53 ..).trans ?_
  refine (hz_newj (by simp only [List.append_eq, List.length_append, List.length_cons, List.length_nil, bkS_len, bkQ_len, bkC_len, bkO_len, bkM_len, bkY_len] <;> omega)).trans ?_
  refine (F101_56 ..).trans ?_
  refine (F101_57 ..).trans ?_
  refine ((jsh_ok rfl)).trans ?_
  refine (congrArg (fun r => jcl r _ _) (C53c (.inr (.inl (6, [jr (n0 + (p.length + 1)), jr (n0 + (p.length + 13)), jr (n0 + (p.length + 14)), jr (n0 + (p.length + 17)), .inr (.inr .null), .inl 0, .inr (.inr .null), .inr (.inr .null), .inl 0, .inl 0, .inl 0, .inl 0])) :: (((bkS n0 (p.length + 1) ++ [cA n0 (p.length + 1)]) ++ bkQ n0 (p.length + 14)) ++ bkY n0 (p.length + 17))))).trans ?_
  refine (F101_60 ..).trans ?_
  refine (hz_pf0 (Nat.le_of_ble_eq_true rfl) rfl).trans ?_
  refine (F101_63 ..).trans ?_
  refine (F101_64 ..).trans ?_
  refine (hz_newj (by simp only [List.append_eq, List.length_append, List.length_cons, List.length_nil, bkS_len, bkQ_len, bkC_len, bkO_len, bkM_len, bkY_len] <;> omega)).trans ?_
  refine (F101_67 ..).trans ?_
  refine (F101_68 ..).trans ?_
  refine ((jsh_ok rfl)).trans ?_
  refine (congrArg (fun r => jcl r _ _) (C80c (.inr (.inl (6, [jr (n0 + (p.length + 1)), jr (n0 + (p.length + 13)), jr (n0 + (p.length + 14)), jr (n0 + (p.length + 17)), jr (n0 + (p.length + 127)), .inl 0, .inr (.inr .null), .inr (.inr .null), .inl 0, .inl 0, .inl 0, .inl 0])) :: ((((bkS n0 (p.length + 1) ++ [cA n0 (p.length + 1)]) ++ bkQ n0 (p.length + 14)) ++ bkY n0 (p.length + 17)) ++ bkS n0 (p.length + 127))))).trans ?_
  refine (F101_71 ..).trans ?_
  refine (hz_pf0 (Nat.le_of_ble_eq_true rfl) rfl).trans ?_
  refine (F101_74 ..).trans ?_
  refine (F101_75 ..).trans ?_
  refine (hz_newj (by simp only [List.append_eq, List.length_append, List.length_cons, List.length_nil, bkS_len, bkQ_len, bkC_len, bkO_len, bkM_len, bkY_len] <;> omega)).trans ?_
  refine (F101_78 ..).trans ?_
  refine (F101_79 ..).trans ?_
  refine ((jsh_ok rfl)).trans ?_
  refine (congrArg (fun r => jcl r _ _) (C95c (.inr (.inl (6, [jr (n0 + (p.length + 1)), jr (n0 + (p.length + 13)), jr (n0 + (p.length + 14)), jr (n0 + (p.length + 17)), jr (n0 + (p.length + 127)), .inl 0, jr (n0 + (p.length + 139)), .inr (.inr .null), .inl 0, .inl 0, .inl 0, .inl 0])) :: (((((bkS n0 (p.length + 1) ++ [cA n0 (p.length + 1)]) ++ bkQ n0 (p.length + 14)) ++ bkY n0 (p.length + 17)) ++ bkS n0 (p.length + 127)) ++ bkC n0 (p.length + 139))))).trans ?_
  refine (F101_82 ..).trans ?_
  refine (hz_pf0 (Nat.le_of_ble_eq_true rfl) rfl).trans ?_
  refine (F101_85 ..).trans ?_
  refine (F101_86 ..).trans ?_
  refine (F101_87 ..).trans ?_
  refine (hz_pf0 (Nat.le_of_ble_eq_true rfl) rfl).trans ?_
  refine (F101_90 ..).trans ?_
  rfl
theorem bkR_len (n0 b : Nat) : (bkR n0 b).length = 147 := by
  unfold bkR
  simp only [List.length_append, List.length_cons, List.length_nil, bkS_len, bkQ_len, bkC_len, bkO_len, bkM_len, bkY_len]
theorem C101c {d n0 : Nat} {B : Nat → Option jE} {p : List jE} {c s : Nat} (l1 : List jE) : jme jT0 jMx (d + 4) 101 [jr (n0 + (p.length + l1.length))] (hz n0 B p (l1 ++ [.inr (.inl (6, [.inr (.inr .null), .inr (.inr .null), .inr (.inr .null), .inr (.inr .null), .inr (.inr .null), .inl 0, .inr (.inr .null), .inr (.inr .null), .inl 0, .inl 0, .inl 0, .inl 0]))]), (some (n0 + (p.length + (l1.length + 1))), (c, s))) = some (.inl none, (hz n0 B p (l1 ++ bkR n0 (p.length + l1.length)), (some (n0 + (p.length + (l1.length + 147))), (c + 146, s + 2413)))) := by
  have h := C101 d n0 B (p ++ l1) c s
  simp only [hz_app, List.length_append, Nat.add_assoc, Nat.add_zero] at h
  exact h

/-! ===== the constructors that make others; the law up to its loop ===== -/
theorem jsh_ok {st : List jV} {r : jR} (h : Nat.ble (jcats st) 8 = true) : jsh st r = r := by
  unfold jsh
  rw [h]
theorem hz_gq {n0 : Nat} {B : Nat → Option jE} {p l : List jE} {j n : Nat} {ty : FieldType} {g : Nat → Value} {kk : jM} {f : FieldType → Nat → (Nat → Value) → jR} (h : l[j]? = some (.inr (.inr (ty, (n, g))))) : jgq (hz n0 B p l, kk) (n0 + (p.length + j)) f = f ty n g := by
  unfold jgq
  show (match hz n0 B p l (n0 + (p.length + j)) with | some (.inr (.inr (t, (n, g)))) => f t n g | _ => none) = _
  rw [hz_at, h]
theorem hz_go {n0 : Nat} {B : Nat → Option jE} {p l : List jE} {j ci : Nat} {fs : List jV} {kk : jM} {f : List jV → jR} (h : l[j]? = some (.inr (.inl (ci, fs)))) : jgo (hz n0 B p l, kk) (n0 + (p.length + j)) ci f = f fs := by
  unfold jgo
  show (match hz n0 B p l (n0 + (p.length + j)) with | some (.inr (.inl (c, fs))) => if c = ci then f fs else none | _ => none) = _
  rw [hz_at, h]
  dsimp only
  rw [if_pos rfl]
set_option maxRecDepth 20000 in
set_option maxHeartbeats 1600000 in
theorem C53 (d n0 : Nat) (B : Nat → Option jE) (p : List jE) (c s : Nat) : jme jT0 jMx (d + 2) 53 [jr (n0 + (p.length + 0))] (hz n0 B p ([.inr (.inl (7, [.inr (.inr .null), .inr (.inr .null), .inl 0]))]), (some (n0 + (p.length + 1)), (c, s))) = some (.inl none, (hz n0 B p (bkS n0 p.length), (some (n0 + (p.length + 12)), (c + 11, s + 178)))) := by
  refine ((show _ = jlp jT0 53 (jme jT0 jMx (d + 1)) 100000 0 [some (jr (n0 + (p.length + 0)))] [] _ from rfl).trans jlp_s).trans ?_
  refine (F53_0 ..).trans ?_
  refine (F53_1 ..).trans ?_
  refine (jsh_n _).trans ?_
  refine (F53_4 ..).trans ?_
  refine (F53_5 ..).trans ?_
  refine hz_new.trans ?_
  refine (F53_8 ..).trans ?_
  refine (F53_9 ..).trans ?_
  refine ((jsh_ok rfl)).trans ?_
  refine (congrArg (fun r => jcl r _ _) (C0c [.inr (.inl (7, [.inr (.inr .null), .inr (.inr .null), .inl 0]))])).trans ?_
  refine (F53_12 ..).trans ?_
  refine (hz_pf rfl (Nat.le_of_ble_eq_true rfl) rfl).trans ?_
  refine (F53_15 ..).trans ?_
  refine (F53_16 ..).trans ?_
  refine hz_new.trans ?_
  refine (F53_19 ..).trans ?_
  refine (F53_20 ..).trans ?_
  refine ((jsh_ok rfl)).trans ?_
  refine (congrArg (fun r => jcl r _ _) (C24c ([.inr (.inl (7, [jr (n0 + (p.length + 1)), .inr (.inr .null), .inl 0]))] ++ bkP n0 (p.length + 1)))).trans ?_
  refine (F53_23 ..).trans ?_
  refine (hz_pf rfl (Nat.le_of_ble_eq_true rfl) rfl).trans ?_
  refine (F53_26 ..).trans ?_
  rfl
theorem C53c {d n0 : Nat} {B : Nat → Option jE} {p : List jE} {c s : Nat} (l1 : List jE) : jme jT0 jMx (d + 2) 53 [jr (n0 + (p.length + l1.length))] (hz n0 B p (l1 ++ [.inr (.inl (7, [.inr (.inr .null), .inr (.inr .null), .inl 0]))]), (some (n0 + (p.length + (l1.length + 1))), (c, s))) = some (.inl none, (hz n0 B p (l1 ++ bkS n0 (p.length + l1.length)), (some (n0 + (p.length + (l1.length + 12))), (c + 11, s + 178)))) := by
  have h := C53 d n0 B (p ++ l1) c s
  simp only [hz_app, List.length_append, Nat.add_assoc, Nat.add_zero] at h
  exact h
def cA (n0 b : Nat) : jE := .inr (.inl (3, [jr (n0 + (b + 1)), jr (n0 + (b + 6)), jr (n0 + b), .inl 0, .inl 0]))
set_option maxRecDepth 20000 in
set_option maxHeartbeats 1600000 in
theorem C62 (d n0 : Nat) (B : Nat → Option jE) (p : List jE) (c s : Nat) : jme jT0 jMx (d + 1) 62 [jr (n0 + (p.length + 12)), jr (n0 + (p.length + 0))] (hz n0 B p (bkS n0 p.length ++ [.inr (.inl (3, [.inr (.inr .null), .inr (.inr .null), .inr (.inr .null), .inl 0, .inl 0]))]), (some (n0 + (p.length + 13)), (c, s))) = some (.inl none, (hz n0 B p (bkS n0 p.length ++ [cA n0 p.length]), (some (n0 + (p.length + 13)), (c + 0, s + 0)))) := by
  refine ((show _ = jlp jT0 62 (jme jT0 jMx d) 100000 0 [some (jr (n0 + (p.length + 12))), some (jr (n0 + (p.length + 0)))] [] _ from rfl).trans jlp_s).trans ?_
  refine (F62_0 ..).trans ?_
  refine (F62_1 ..).trans ?_
  refine (jsh_n _).trans ?_
  refine (F62_4 ..).trans ?_
  refine (F62_5 ..).trans ?_
  refine (F62_6 ..).trans ?_
  refine (hz_pf rfl (Nat.le_of_ble_eq_true rfl) rfl).trans ?_
  refine (F62_9 ..).trans ?_
  refine (F62_10 ..).trans ?_
  refine (F62_11 ..).trans ?_
  refine (hz_gf rfl).trans ?_
  refine (F62_14 ..).trans ?_
  refine (hz_pf rfl (Nat.le_of_ble_eq_true rfl) rfl).trans ?_
  refine (F62_17 ..).trans ?_
  refine (F62_18 ..).trans ?_
  refine (F62_19 ..).trans ?_
  refine (hz_gf rfl).trans ?_
  refine (F62_22 ..).trans ?_
  refine (hz_pf rfl (Nat.le_of_ble_eq_true rfl) rfl).trans ?_
  refine (F62_25 ..).trans ?_
  rfl
theorem C62c {d n0 : Nat} {B : Nat → Option jE} {p : List jE} {c s : Nat} (l1 : List jE) : jme jT0 jMx (d + 1) 62 [jr (n0 + (p.length + (l1.length + 12))), jr (n0 + (p.length + l1.length))] (hz n0 B p (l1 ++ (bkS n0 (p.length + l1.length) ++ [.inr (.inl (3, [.inr (.inr .null), .inr (.inr .null), .inr (.inr .null), .inl 0, .inl 0]))])), (some (n0 + (p.length + (l1.length + 13))), (c, s))) = some (.inl none, (hz n0 B p (l1 ++ (bkS n0 (p.length + l1.length) ++ [cA n0 (p.length + l1.length)])), (some (n0 + (p.length + (l1.length + 13))), (c + 0, s + 0)))) := by
  have h := C62 d n0 B (p ++ l1) c s
  simp only [hz_app, List.length_append, Nat.add_assoc, Nat.add_zero] at h
  simp only [Nat.add_zero]
  exact h
def bls (n0 b : Nat) : Nat → List jE
  | 0 => []
  | i + 1 => bls n0 b i ++ bkS n0 (b + 12 * i)
theorem bls_len (n0 b : Nat) : ∀ i, (bls n0 b i).length = 12 * i
  | 0 => rfl
  | i + 1 => by
    show (bls n0 b i ++ bkS n0 (b + 12 * i)).length = _
    rw [List.length_append, bls_len n0 b i]
    show 12 * i + 12 = _
    omega
def cHa (n0 b i : Nat) : jE := .inr (.inr (.object "HabitRegistry$State", (9, fun j => if j < i then .ref (n0 + (b + 12 * j)) else .null)))
def cHo (n0 b : Nat) : jE := .inr (.inl (8, [jr (n0 + (b + 1)), .inl 0, .inl 0]))
def blY (n0 b i : Nat) : List jE := cHo n0 b :: cHa n0 (b + 2) i :: bls n0 (b + 2) i
theorem blY_len (n0 b i : Nat) : (blY n0 b i).length = 2 + 12 * i := by
  show (bls n0 (b + 2) i).length + 1 + 1 = _
  rw [bls_len]
  omega
set_option maxRecDepth 20000 in
set_option maxHeartbeats 1600000 in
theorem C74L (d n0 : Nat) (B : Nat → Option jE) (p : List jE) (c s : Nat) : ∀ (k i N : Nat), i + k = 9 → jlp jT0 74 (jme jT0 jMx (d + 2)) (N + k + 1) 15 [some (jr (n0 + (p.length + 0))), some (.inl (i : Int))] [] (hz n0 B p (blY n0 p.length i), (some (n0 + (p.length + (blY n0 p.length i).length)), (c + 12 * i, s + 181 * i))) = some (.inl none, (hz n0 B p (blY n0 p.length 9), (some (n0 + (p.length + 110)), (c + 108, s + 1629))))
  | 0, i, N, h => by
    have e : i = 9 := by omega
    subst e
    refine jlp_s.trans ?_
    refine (F74_15 ..).trans ?_
    refine (F74_16 ..).trans ?_
    refine (F74_18 ..).trans ?_
    rw [if_neg (by decide)]
    refine (F74_40 ..).trans ?_
    rw [blY_len]
  | k + 1, i, N, h => by
    refine jlp_s.trans ?_
    refine (F74_15 ..).trans ?_
    refine (F74_16 ..).trans ?_
    refine (F74_18 ..).trans ?_
    rw [if_pos (by omega)]
    refine (F74_21 ..).trans ?_
    refine (F74_22 ..).trans ?_
    refine (hz_gf rfl).trans ?_
    refine (F74_25 ..).trans ?_
    refine (F74_26 ..).trans ?_
    refine hz_new.trans ?_
    refine (F74_29 ..).trans ?_
    refine (F74_30 ..).trans ?_
    refine (jsh_ok rfl).trans ?_
    refine (congrArg (fun r => jcl r _ _) (C53c (blY n0 p.length i))).trans ?_
    refine (F74_33 ..).trans ?_
    refine (hz_gq (j := 1) rfl).trans ?_
    rw [if_pos rfl]
    unfold jix
    rw [if_pos ⟨by omega, by omega⟩]
    refine (hz_go (j := (blY n0 p.length i).length) (by rw [List.getElem?_append_right (Nat.le_refl _), Nat.sub_self]; rfl)).trans ?_
    rw [show n0 + (p.length + 0 + 1) = n0 + (p.length + 1) from rfl, hz_set (j := 1) (by rw [List.length_append, blY_len]; omega)]
    refine (F74_34 ..).trans ?_
    refine (F74_37 ..).trans ?_
    have e1 : jw ((i : Int) + 1) = ((i + 1 : Nat) : Int) := by
      rw [jw_id ⟨by omega, by omega⟩]
      rfl
    have e2 : (blY n0 p.length i ++ bkS n0 (p.length + (blY n0 p.length i).length)).set 1 (.inr (.inr (.object "HabitRegistry$State", (9, juv (fun j => if j < i then .ref (n0 + (p.length + 2 + 12 * j)) else .null) ((i : Int)).toNat (.ref (n0 + (p.length + (blY n0 p.length i).length))))))) = blY n0 p.length (i + 1) := by
      rw [blY_len]
      show cHo n0 p.length :: _ :: (bls n0 (p.length + 2) i ++ bkS n0 (p.length + (2 + 12 * i))) = cHo n0 p.length :: cHa n0 (p.length + 2) (i + 1) :: (bls n0 (p.length + 2) i ++ bkS n0 (p.length + 2 + 12 * i))
      rw [← Nat.add_assoc p.length 2 (12 * i)]
      refine congrArg (fun x => cHo n0 p.length :: x :: (bls n0 (p.length + 2) i ++ bkS n0 (p.length + 2 + 12 * i))) (congrArg (fun g => (.inr (.inr (.object "HabitRegistry$State", (9, g))) : jE)) (funext fun j => ?_))
      show (if j = i then _ else if j < i then _ else _) = if j < i + 1 then _ else _
      by_cases h1 : j = i
      · subst h1
        rw [if_pos rfl, if_pos (by omega)]
      · rw [if_neg h1]
        by_cases h2 : j < i
        · rw [if_pos h2, if_pos (by omega)]
        · rw [if_neg h2, if_neg (by omega)]
    have e3 : (blY n0 p.length i).length + 12 = (blY n0 p.length (i + 1)).length := by
      rw [blY_len, blY_len]
      omega
    have e4 : c + 12 * i + 1 + 11 = c + 12 * (i + 1) := by omega
    have e5 : s + 181 * i + 3 + 178 = s + 181 * (i + 1) := by omega
    rw [e1]
    refine (congrArg (fun l => jlp jT0 74 (jme jT0 jMx (d + 2)) (N + k + 1) 15 [some (jr (n0 + (p.length + 0))), some (.inl ((i + 1 : Nat) : Int))] [] (hz n0 B p l, (some (n0 + (p.length + ((blY n0 p.length i).length + 12))), (c + 12 * i + 1 + 11, s + 181 * i + 3 + 178)))) e2).trans ?_
    rw [e3, e4, e5]
    exact C74L d n0 B p c s k (i + 1) N (by omega)
def bkY (n0 b : Nat) : List jE := blY n0 b 9
set_option maxRecDepth 20000 in
set_option maxHeartbeats 1600000 in
theorem C74 (d n0 : Nat) (B : Nat → Option jE) (p : List jE) (c s : Nat) : jme jT0 jMx (d + 3) 74 [jr (n0 + (p.length + 0))] (hz n0 B p ([.inr (.inl (8, [.inr (.inr .null), .inl 0, .inl 0]))]), (some (n0 + (p.length + 1)), (c, s))) = some (.inl none, (hz n0 B p (bkY n0 p.length), (some (n0 + (p.length + 110)), (c + 109, s + 1638)))) := by
  refine ((show _ = jlp jT0 74 (jme jT0 jMx (d + 2)) 100000 0 [some (jr (n0 + (p.length + 0))), none] [] _ from rfl).trans jlp_s).trans ?_
  refine (F74_0 ..).trans ?_
  refine (F74_1 ..).trans ?_
  refine (jsh_n _).trans ?_
  refine (F74_4 ..).trans ?_
  refine (F74_5 ..).trans ?_
  refine (F74_7 ..).trans ?_
  refine hz_new.trans ?_
  refine (F74_10 ..).trans ?_
  refine (hz_pf rfl (Nat.le_of_ble_eq_true rfl) rfl).trans ?_
  refine (F74_13 ..).trans ?_
  refine (F74_14 ..).trans ?_
  have h := C74L d n0 B p (c + 1) (s + 9) 9 0 99989 rfl
  have e0 : blY n0 p.length 0 = [cHo n0 p.length, .inr (.inr (.object "HabitRegistry$State", (9, fun _ => .null)))] := congrArg (fun g => [cHo n0 p.length, (.inr (.inr (.object "HabitRegistry$State", (9, g))) : jE)]) (funext fun j => if_neg (Nat.not_lt_zero j))
  rw [e0] at h
  refine Eq.trans ?_ (h.trans ?_)
  · rfl
  · show (some (.inl none, (hz n0 B p (blY n0 p.length 9), (some (n0 + (p.length + 110)), (c + 1 + 108, s + 9 + 1629)))) : jR) = _
    rw [Nat.add_assoc, Nat.add_assoc]
    rfl
theorem C74c {d n0 : Nat} {B : Nat → Option jE} {p : List jE} {c s : Nat} (l1 : List jE) : jme jT0 jMx (d + 3) 74 [jr (n0 + (p.length + l1.length))] (hz n0 B p (l1 ++ [.inr (.inl (8, [.inr (.inr .null), .inl 0, .inl 0]))]), (some (n0 + (p.length + (l1.length + 1))), (c, s))) = some (.inl none, (hz n0 B p (l1 ++ bkY n0 (p.length + l1.length)), (some (n0 + (p.length + (l1.length + 110))), (c + 109, s + 1638)))) := by
  have h := C74 d n0 B (p ++ l1) c s
  simp only [hz_app, List.length_append, Nat.add_assoc, Nat.add_zero] at h
  exact h

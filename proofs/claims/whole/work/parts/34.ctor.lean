/-! ===== the constructors; the law up to its loop ===== -/
/-- a heap in the making: B below n0, then the cells p, then the cells l -/
def hz (n0 : Nat) (B : Nat → Option jE) (p l : List jE) : Nat → Option jE := fun q => match Nat.blt q n0 with
  | true => B q
  | false => (p ++ l)[q - n0]?
theorem hz_app {n0 : Nat} {B : Nat → Option jE} {p l1 l2 : List jE} : hz n0 B (p ++ l1) l2 = hz n0 B p (l1 ++ l2) := by
  unfold hz
  rw [List.append_assoc]
theorem hz_at {n0 : Nat} {B : Nat → Option jE} {p l : List jE} (j : Nat) : hz n0 B p l (n0 + (p.length + j)) = l[j]? := by
  unfold hz
  have h1 : Nat.blt (n0 + (p.length + j)) n0 = false := by
    rw [← Bool.not_eq_true, Nat.blt_eq]
    omega
  rw [h1, Nat.add_sub_cancel_left]
  show (p ++ l)[p.length + j]? = _
  rw [List.getElem?_append_right (by omega), Nat.add_sub_cancel_left]
theorem hz_set {n0 : Nat} {B : Nat → Option jE} {p l : List jE} {j : Nat} {e : jE} {k : jM} (hj : j < l.length) : jset (hz n0 B p l, k) (n0 + (p.length + j)) e = (hz n0 B p (l.set j e), k) := by
  unfold jset
  refine Prod.ext (funext fun q => ?_) rfl
  show (if q = n0 + (p.length + j) then some e else hz n0 B p l q) = hz n0 B p (l.set j e) q
  by_cases h : q = n0 + (p.length + j)
  · rw [if_pos h, h, hz_at, List.getElem?_set_self hj]
  · rw [if_neg h]
    unfold hz
    cases hb : Nat.blt q n0 with
    | true => rfl
    | false =>
      have h0 : n0 ≤ q := by
        rw [← Bool.not_eq_true, Nat.blt_eq] at hb
        omega
      show (p ++ l)[q - n0]? = (p ++ l.set j e)[q - n0]?
      by_cases hp : q - n0 < p.length
      · rw [List.getElem?_append_left hp, List.getElem?_append_left hp]
      · rw [List.getElem?_append_right (by omega), List.getElem?_append_right (by omega), List.getElem?_set_ne (by omega)]
theorem hz_new {n0 : Nat} {B : Nat → Option jE} {p l : List jE} {c s k : Nat} {e : jE} {f : Nat → jH → jR} : jnew (hz n0 B p l, (some (n0 + (p.length + l.length)), (c, s))) e k f = f (n0 + (p.length + l.length)) (hz n0 B p (l ++ [e]), (some (n0 + (p.length + (l.length + 1))), (c + 1, s + k))) := by
  show f (n0 + (p.length + l.length)) ((fun q => if q = n0 + (p.length + l.length) then some e else hz n0 B p l q), (some (n0 + (p.length + l.length) + 1), (c + 1, s + k))) = _
  congr 2
  funext q
  by_cases h : q = n0 + (p.length + l.length)
  · rw [if_pos h, h, hz_at, List.getElem?_append_right (Nat.le_refl _), Nat.sub_self]
    rfl
  · rw [if_neg h]
    unfold hz
    cases hb : Nat.blt q n0 with
    | true => rfl
    | false =>
      have h0 : n0 ≤ q := by
        rw [← Bool.not_eq_true, Nat.blt_eq] at hb
        omega
      show (p ++ l)[q - n0]? = (p ++ (l ++ [e]))[q - n0]?
      rw [← List.append_assoc]
      by_cases hp : q - n0 < (p ++ l).length
      · rw [List.getElem?_append_left hp]
      · rw [List.getElem?_eq_none (by omega), List.getElem?_eq_none (by
          simp only [List.length_append, List.length_cons, List.length_nil] at hp ⊢
          omega)]
theorem hz_pf {n0 : Nat} {B : Nat → Option jE} {p l : List jE} {j ci k : Nat} {fs : List jV} {ty : FieldType} {v : jV} {kk : jM} {f : jH → jR} (h : l[j]? = some (.inr (.inl (ci, fs)))) (hk : k < fs.length) (hv : jsv ty v = true) :
    jpf (hz n0 B p l, kk) (n0 + (p.length + j)) ci k ty v f = f (hz n0 B p (l.set j (.inr (.inl (ci, fs.set k v)))), kk) := by
  have hj : j < l.length := (List.getElem?_eq_some_iff.mp h).1
  unfold jpf jgo
  show (match hz n0 B p l (n0 + (p.length + j)) with | some (.inr (.inl (c, fs))) => if c = ci then _ else none | _ => none) = _
  rw [hz_at, h]
  dsimp only
  rw [if_pos rfl, if_pos ⟨hk, hv⟩, hz_set hj]
theorem hz_gf {n0 : Nat} {B : Nat → Option jE} {p l : List jE} {j ci k : Nat} {fs : List jV} {kk : jM} {f : jV → jR} (h : l[j]? = some (.inr (.inl (ci, fs)))) : jgf (hz n0 B p l, kk) (n0 + (p.length + j)) ci k f = jfld fs k f := by
  unfold jgf jgo
  show (match hz n0 B p l (n0 + (p.length + j)) with | some (.inr (.inl (c, fs))) => if c = ci then _ else none | _ => none) = _
  rw [hz_at, h]
  dsimp only
  rw [if_pos rfl]
theorem hz_na {x : Int} {r s : jR} (h0 : 0 ≤ x) (h1 : x < 2000) (h : r = s) : (if 0 ≤ x ∧ x < 2000 then r else none) = s := by rw [if_pos ⟨h0, h1⟩, h]
def bkP (n0 b : Nat) : List jE := [.inr (.inl (0, [jr (n0 + (b + 1)), jr (n0 + (b + 2)), jr (n0 + (b + 3)), jr (n0 + (b + 4)), .inl 0])), .inl (.int, (16, fun _ => 0)), .inl (.int, (16, fun _ => 0)), .inl (.boolean, (16, fun _ => 0)), .inl (.int, (16, fun _ => 0))]
def bkH (n0 b : Nat) : List jE := [.inr (.inl (1, [jr (n0 + (b + 1)), jr (n0 + (b + 2)), jr (n0 + (b + 3)), jr (n0 + (b + 4)), jr (n0 + (b + 5)), .inl 0, .inl 0, .inl 0, .inl 0])), .inl (.char, (20, fun _ => 0)), .inl (.int, (20, fun _ => 0)), .inl (.int, (20, fun _ => 0)), .inl (.boolean, (20, fun _ => 0)), .inl (.boolean, (20, fun _ => 0))]
def bkS (n0 b : Nat) : List jE := .inr (.inl (7, [jr (n0 + (b + 1)), jr (n0 + (b + 6)), .inl 0])) :: (bkP n0 (b + 1) ++ bkH n0 (b + 6))
def bkQ (n0 b : Nat) : List jE := [.inr (.inl (2, [jr (n0 + (b + 1)), jr (n0 + (b + 2)), .inl 0])), .inl (.int, (16, fun _ => 0)), .inl (.int, (16, fun _ => 0))]
def bkC (n0 b : Nat) : List jE := [.inr (.inl (5, [jr (n0 + (b + 1)), .inl 0, .inl 0, jr (n0 + (b + 2)), jr (n0 + (b + 3)), jr (n0 + (b + 4)), jr (n0 + (b + 5)), .inl 0])), .inl (.char, (60, fun _ => 0)), .inl (.int, (60, fun _ => 0)), .inl (.int, (60, fun _ => 0)), .inl (.char, (60, fun _ => 0)), .inl (.int, (60, fun _ => 0))]
def bkO (n0 b : Nat) : List jE := [.inr (.inl (4, [jr (n0 + (b + 1)), .inl 0])), .inl (.char, (60, fun _ => 0))]
def bkM (n0 b : Nat) : List jE := [.inr (.inl (9, [jr (n0 + (b + 1)), jr (n0 + (b + 2)), jr (n0 + (b + 3)), jr (n0 + (b + 4)), .inl 0, .inl 0, .inl 0, .inl 0, .inl 0, .inl 0, .inl 0, .inl 0, jr (n0 + (b + 5)), .inl 0, .inl (-1), jr (n0 + (b + 6)), .inl 0, .inl 0, jr (n0 + (b + 7)), .inl 0])), .inl (.int, (138, fun _ => 0)), .inl (.int, (1104, fun _ => 0)), .inl (.int, (138, fun _ => 0)), .inl (.int, (138, fun _ => 0)), .inl (.int, (60, fun _ => 0)), .inl (.char, (60, fun _ => 0)), .inl (.int, (124, fun _ => 0))]
section
variable {cl : Nat → List jV → jH → jR} {bk : Nat → jL → List jV → jH → jR} {n : Nat}
theorem F0_0 (a : Nat) (st : List jV) (w : jH) : jblk jT0 0 cl bk (n + 1) 0 [some (jr a)] st w = jblk jT0 0 cl bk n 1 [some (jr a)] (jr a :: st) w := Eq.trans rfl rfl
theorem F0_1 (a : Nat) (st : List jV) (l0 : Option jV) (w : jH) : jblk jT0 0 cl bk (n + 1) 1 [l0] (jr a :: st) w = jsh st (jblk jT0 0 cl bk n 4 [l0] st w) := Eq.trans rfl rfl
theorem F0_4 (a : Nat) (st : List jV) (w : jH) : jblk jT0 0 cl bk (n + 1) 4 [some (jr a)] st w = jblk jT0 0 cl bk n 5 [some (jr a)] (jr a :: st) w := Eq.trans rfl rfl
theorem F0_5 (st : List jV) (l0 : Option jV) (w : jH) : jblk jT0 0 cl bk (n + 1) 5 [l0] st w = jblk jT0 0 cl bk n 7 [l0] (.inl 16 :: st) w := Eq.trans rfl rfl
theorem F0_7 (x : Int) (st : List jV) (l0 : Option jV) (w : jH) : jblk jT0 0 cl bk (n + 1) 7 [l0] (.inl x :: st) w = if 0 ≤ x ∧ x < 2000 then jnew w (jlen0 (jzero .int) x.toNat) x.toNat fun a w' => jblk jT0 0 cl bk n 9 [l0] (jr a :: st) w' else none := Eq.trans rfl rfl
theorem F0_9 (a : Nat) (v : jV) (st : List jV) (l0 : Option jV) (w : jH) : jblk jT0 0 cl bk (n + 1) 9 [l0] (v :: jr a :: st) w = jpf w a 0 0 (.array .int) v fun w' => jblk jT0 0 cl bk n 12 [l0] st w' := Eq.trans rfl rfl
theorem F0_12 (a : Nat) (st : List jV) (w : jH) : jblk jT0 0 cl bk (n + 1) 12 [some (jr a)] st w = jblk jT0 0 cl bk n 13 [some (jr a)] (jr a :: st) w := Eq.trans rfl rfl
theorem F0_13 (st : List jV) (l0 : Option jV) (w : jH) : jblk jT0 0 cl bk (n + 1) 13 [l0] st w = jblk jT0 0 cl bk n 15 [l0] (.inl 16 :: st) w := Eq.trans rfl rfl
theorem F0_15 (x : Int) (st : List jV) (l0 : Option jV) (w : jH) : jblk jT0 0 cl bk (n + 1) 15 [l0] (.inl x :: st) w = if 0 ≤ x ∧ x < 2000 then jnew w (jlen0 (jzero .int) x.toNat) x.toNat fun a w' => jblk jT0 0 cl bk n 17 [l0] (jr a :: st) w' else none := Eq.trans rfl rfl
theorem F0_17 (a : Nat) (v : jV) (st : List jV) (l0 : Option jV) (w : jH) : jblk jT0 0 cl bk (n + 1) 17 [l0] (v :: jr a :: st) w = jpf w a 0 1 (.array .int) v fun w' => jblk jT0 0 cl bk n 20 [l0] st w' := Eq.trans rfl rfl
theorem F0_20 (a : Nat) (st : List jV) (w : jH) : jblk jT0 0 cl bk (n + 1) 20 [some (jr a)] st w = jblk jT0 0 cl bk n 21 [some (jr a)] (jr a :: st) w := Eq.trans rfl rfl
theorem F0_21 (st : List jV) (l0 : Option jV) (w : jH) : jblk jT0 0 cl bk (n + 1) 21 [l0] st w = jblk jT0 0 cl bk n 23 [l0] (.inl 16 :: st) w := Eq.trans rfl rfl
theorem F0_23 (x : Int) (st : List jV) (l0 : Option jV) (w : jH) : jblk jT0 0 cl bk (n + 1) 23 [l0] (.inl x :: st) w = if 0 ≤ x ∧ x < 2000 then jnew w (jlen0 (jzero .boolean) x.toNat) x.toNat fun a w' => jblk jT0 0 cl bk n 25 [l0] (jr a :: st) w' else none := Eq.trans rfl rfl
theorem F0_25 (a : Nat) (v : jV) (st : List jV) (l0 : Option jV) (w : jH) : jblk jT0 0 cl bk (n + 1) 25 [l0] (v :: jr a :: st) w = jpf w a 0 2 (.array .boolean) v fun w' => jblk jT0 0 cl bk n 28 [l0] st w' := Eq.trans rfl rfl
theorem F0_28 (a : Nat) (st : List jV) (w : jH) : jblk jT0 0 cl bk (n + 1) 28 [some (jr a)] st w = jblk jT0 0 cl bk n 29 [some (jr a)] (jr a :: st) w := Eq.trans rfl rfl
theorem F0_29 (st : List jV) (l0 : Option jV) (w : jH) : jblk jT0 0 cl bk (n + 1) 29 [l0] st w = jblk jT0 0 cl bk n 31 [l0] (.inl 16 :: st) w := Eq.trans rfl rfl
theorem F0_31 (x : Int) (st : List jV) (l0 : Option jV) (w : jH) : jblk jT0 0 cl bk (n + 1) 31 [l0] (.inl x :: st) w = if 0 ≤ x ∧ x < 2000 then jnew w (jlen0 (jzero .int) x.toNat) x.toNat fun a w' => jblk jT0 0 cl bk n 33 [l0] (jr a :: st) w' else none := Eq.trans rfl rfl
theorem F0_33 (a : Nat) (v : jV) (st : List jV) (l0 : Option jV) (w : jH) : jblk jT0 0 cl bk (n + 1) 33 [l0] (v :: jr a :: st) w = jpf w a 0 3 (.array .int) v fun w' => jblk jT0 0 cl bk n 36 [l0] st w' := Eq.trans rfl rfl
theorem F0_36 (l0 : Option jV) (w : jH) : jblk jT0 0 cl bk (n + 1) 36 [l0] [] w = some (.inl none, w) := Eq.trans rfl rfl
theorem F24_0 (a : Nat) (st : List jV) (w : jH) : jblk jT0 24 cl bk (n + 1) 0 [some (jr a)] st w = jblk jT0 24 cl bk n 1 [some (jr a)] (jr a :: st) w := Eq.trans rfl rfl
theorem F24_1 (a : Nat) (st : List jV) (l0 : Option jV) (w : jH) : jblk jT0 24 cl bk (n + 1) 1 [l0] (jr a :: st) w = jsh st (jblk jT0 24 cl bk n 4 [l0] st w) := Eq.trans rfl rfl
theorem F24_4 (a : Nat) (st : List jV) (w : jH) : jblk jT0 24 cl bk (n + 1) 4 [some (jr a)] st w = jblk jT0 24 cl bk n 5 [some (jr a)] (jr a :: st) w := Eq.trans rfl rfl
theorem F24_5 (st : List jV) (l0 : Option jV) (w : jH) : jblk jT0 24 cl bk (n + 1) 5 [l0] st w = jblk jT0 24 cl bk n 7 [l0] (.inl 20 :: st) w := Eq.trans rfl rfl
theorem F24_7 (x : Int) (st : List jV) (l0 : Option jV) (w : jH) : jblk jT0 24 cl bk (n + 1) 7 [l0] (.inl x :: st) w = if 0 ≤ x ∧ x < 2000 then jnew w (jlen0 (jzero .char) x.toNat) x.toNat fun a w' => jblk jT0 24 cl bk n 9 [l0] (jr a :: st) w' else none := Eq.trans rfl rfl
theorem F24_9 (a : Nat) (v : jV) (st : List jV) (l0 : Option jV) (w : jH) : jblk jT0 24 cl bk (n + 1) 9 [l0] (v :: jr a :: st) w = jpf w a 1 0 (.array .char) v fun w' => jblk jT0 24 cl bk n 12 [l0] st w' := Eq.trans rfl rfl
theorem F24_12 (a : Nat) (st : List jV) (w : jH) : jblk jT0 24 cl bk (n + 1) 12 [some (jr a)] st w = jblk jT0 24 cl bk n 13 [some (jr a)] (jr a :: st) w := Eq.trans rfl rfl
theorem F24_13 (st : List jV) (l0 : Option jV) (w : jH) : jblk jT0 24 cl bk (n + 1) 13 [l0] st w = jblk jT0 24 cl bk n 15 [l0] (.inl 20 :: st) w := Eq.trans rfl rfl
theorem F24_15 (x : Int) (st : List jV) (l0 : Option jV) (w : jH) : jblk jT0 24 cl bk (n + 1) 15 [l0] (.inl x :: st) w = if 0 ≤ x ∧ x < 2000 then jnew w (jlen0 (jzero .int) x.toNat) x.toNat fun a w' => jblk jT0 24 cl bk n 17 [l0] (jr a :: st) w' else none := Eq.trans rfl rfl
theorem F24_17 (a : Nat) (v : jV) (st : List jV) (l0 : Option jV) (w : jH) : jblk jT0 24 cl bk (n + 1) 17 [l0] (v :: jr a :: st) w = jpf w a 1 1 (.array .int) v fun w' => jblk jT0 24 cl bk n 20 [l0] st w' := Eq.trans rfl rfl
theorem F24_20 (a : Nat) (st : List jV) (w : jH) : jblk jT0 24 cl bk (n + 1) 20 [some (jr a)] st w = jblk jT0 24 cl bk n 21 [some (jr a)] (jr a :: st) w := Eq.trans rfl rfl
theorem F24_21 (st : List jV) (l0 : Option jV) (w : jH) : jblk jT0 24 cl bk (n + 1) 21 [l0] st w = jblk jT0 24 cl bk n 23 [l0] (.inl 20 :: st) w := Eq.trans rfl rfl
theorem F24_23 (x : Int) (st : List jV) (l0 : Option jV) (w : jH) : jblk jT0 24 cl bk (n + 1) 23 [l0] (.inl x :: st) w = if 0 ≤ x ∧ x < 2000 then jnew w (jlen0 (jzero .int) x.toNat) x.toNat fun a w' => jblk jT0 24 cl bk n 25 [l0] (jr a :: st) w' else none := Eq.trans rfl rfl
theorem F24_25 (a : Nat) (v : jV) (st : List jV) (l0 : Option jV) (w : jH) : jblk jT0 24 cl bk (n + 1) 25 [l0] (v :: jr a :: st) w = jpf w a 1 2 (.array .int) v fun w' => jblk jT0 24 cl bk n 28 [l0] st w' := Eq.trans rfl rfl
theorem F24_28 (a : Nat) (st : List jV) (w : jH) : jblk jT0 24 cl bk (n + 1) 28 [some (jr a)] st w = jblk jT0 24 cl bk n 29 [some (jr a)] (jr a :: st) w := Eq.trans rfl rfl
theorem F24_29 (st : List jV) (l0 : Option jV) (w : jH) : jblk jT0 24 cl bk (n + 1) 29 [l0] st w = jblk jT0 24 cl bk n 31 [l0] (.inl 20 :: st) w := Eq.trans rfl rfl
theorem F24_31 (x : Int) (st : List jV) (l0 : Option jV) (w : jH) : jblk jT0 24 cl bk (n + 1) 31 [l0] (.inl x :: st) w = if 0 ≤ x ∧ x < 2000 then jnew w (jlen0 (jzero .boolean) x.toNat) x.toNat fun a w' => jblk jT0 24 cl bk n 33 [l0] (jr a :: st) w' else none := Eq.trans rfl rfl
theorem F24_33 (a : Nat) (v : jV) (st : List jV) (l0 : Option jV) (w : jH) : jblk jT0 24 cl bk (n + 1) 33 [l0] (v :: jr a :: st) w = jpf w a 1 3 (.array .boolean) v fun w' => jblk jT0 24 cl bk n 36 [l0] st w' := Eq.trans rfl rfl
theorem F24_36 (a : Nat) (st : List jV) (w : jH) : jblk jT0 24 cl bk (n + 1) 36 [some (jr a)] st w = jblk jT0 24 cl bk n 37 [some (jr a)] (jr a :: st) w := Eq.trans rfl rfl
theorem F24_37 (st : List jV) (l0 : Option jV) (w : jH) : jblk jT0 24 cl bk (n + 1) 37 [l0] st w = jblk jT0 24 cl bk n 39 [l0] (.inl 20 :: st) w := Eq.trans rfl rfl
theorem F24_39 (x : Int) (st : List jV) (l0 : Option jV) (w : jH) : jblk jT0 24 cl bk (n + 1) 39 [l0] (.inl x :: st) w = if 0 ≤ x ∧ x < 2000 then jnew w (jlen0 (jzero .boolean) x.toNat) x.toNat fun a w' => jblk jT0 24 cl bk n 41 [l0] (jr a :: st) w' else none := Eq.trans rfl rfl
theorem F24_41 (a : Nat) (v : jV) (st : List jV) (l0 : Option jV) (w : jH) : jblk jT0 24 cl bk (n + 1) 41 [l0] (v :: jr a :: st) w = jpf w a 1 4 (.array .boolean) v fun w' => jblk jT0 24 cl bk n 44 [l0] st w' := Eq.trans rfl rfl
theorem F24_44 (l0 : Option jV) (w : jH) : jblk jT0 24 cl bk (n + 1) 44 [l0] [] w = some (.inl none, w) := Eq.trans rfl rfl
theorem F49_0 (a : Nat) (st : List jV) (w : jH) : jblk jT0 49 cl bk (n + 1) 0 [some (jr a)] st w = jblk jT0 49 cl bk n 1 [some (jr a)] (jr a :: st) w := Eq.trans rfl rfl
theorem F49_1 (a : Nat) (st : List jV) (l0 : Option jV) (w : jH) : jblk jT0 49 cl bk (n + 1) 1 [l0] (jr a :: st) w = jsh st (jblk jT0 49 cl bk n 4 [l0] st w) := Eq.trans rfl rfl
theorem F49_4 (a : Nat) (st : List jV) (w : jH) : jblk jT0 49 cl bk (n + 1) 4 [some (jr a)] st w = jblk jT0 49 cl bk n 5 [some (jr a)] (jr a :: st) w := Eq.trans rfl rfl
theorem F49_5 (st : List jV) (l0 : Option jV) (w : jH) : jblk jT0 49 cl bk (n + 1) 5 [l0] st w = jblk jT0 49 cl bk n 7 [l0] (.inl 16 :: st) w := Eq.trans rfl rfl
theorem F49_7 (x : Int) (st : List jV) (l0 : Option jV) (w : jH) : jblk jT0 49 cl bk (n + 1) 7 [l0] (.inl x :: st) w = if 0 ≤ x ∧ x < 2000 then jnew w (jlen0 (jzero .int) x.toNat) x.toNat fun a w' => jblk jT0 49 cl bk n 9 [l0] (jr a :: st) w' else none := Eq.trans rfl rfl
theorem F49_9 (a : Nat) (v : jV) (st : List jV) (l0 : Option jV) (w : jH) : jblk jT0 49 cl bk (n + 1) 9 [l0] (v :: jr a :: st) w = jpf w a 2 0 (.array .int) v fun w' => jblk jT0 49 cl bk n 12 [l0] st w' := Eq.trans rfl rfl
theorem F49_12 (a : Nat) (st : List jV) (w : jH) : jblk jT0 49 cl bk (n + 1) 12 [some (jr a)] st w = jblk jT0 49 cl bk n 13 [some (jr a)] (jr a :: st) w := Eq.trans rfl rfl
theorem F49_13 (st : List jV) (l0 : Option jV) (w : jH) : jblk jT0 49 cl bk (n + 1) 13 [l0] st w = jblk jT0 49 cl bk n 15 [l0] (.inl 16 :: st) w := Eq.trans rfl rfl
theorem F49_15 (x : Int) (st : List jV) (l0 : Option jV) (w : jH) : jblk jT0 49 cl bk (n + 1) 15 [l0] (.inl x :: st) w = if 0 ≤ x ∧ x < 2000 then jnew w (jlen0 (jzero .int) x.toNat) x.toNat fun a w' => jblk jT0 49 cl bk n 17 [l0] (jr a :: st) w' else none := Eq.trans rfl rfl
theorem F49_17 (a : Nat) (v : jV) (st : List jV) (l0 : Option jV) (w : jH) : jblk jT0 49 cl bk (n + 1) 17 [l0] (v :: jr a :: st) w = jpf w a 2 1 (.array .int) v fun w' => jblk jT0 49 cl bk n 20 [l0] st w' := Eq.trans rfl rfl
theorem F49_20 (l0 : Option jV) (w : jH) : jblk jT0 49 cl bk (n + 1) 20 [l0] [] w = some (.inl none, w) := Eq.trans rfl rfl
theorem F53_0 (a : Nat) (st : List jV) (w : jH) : jblk jT0 53 cl bk (n + 1) 0 [some (jr a)] st w = jblk jT0 53 cl bk n 1 [some (jr a)] (jr a :: st) w := Eq.trans rfl rfl
theorem F53_1 (a : Nat) (st : List jV) (l0 : Option jV) (w : jH) : jblk jT0 53 cl bk (n + 1) 1 [l0] (jr a :: st) w = jsh st (jblk jT0 53 cl bk n 4 [l0] st w) := Eq.trans rfl rfl
theorem F53_4 (a : Nat) (st : List jV) (w : jH) : jblk jT0 53 cl bk (n + 1) 4 [some (jr a)] st w = jblk jT0 53 cl bk n 5 [some (jr a)] (jr a :: st) w := Eq.trans rfl rfl
theorem F53_5 (st : List jV) (l0 : Option jV) (w : jH) : jblk jT0 53 cl bk (n + 1) 5 [l0] st w = jnew w (.inr (.inl (0, [.inr (.inr .null), .inr (.inr .null), .inr (.inr .null), .inr (.inr .null), .inl 0]))) 5 fun a w' => jblk jT0 53 cl bk n 8 [l0] (jr a :: st) w' := Eq.trans rfl rfl
theorem F53_8 (a : Nat) (st : List jV) (l0 : Option jV) (w : jH) : jblk jT0 53 cl bk (n + 1) 8 [l0] (jr a :: st) w = jblk jT0 53 cl bk n 9 [l0] (jr a :: jr a :: st) w := Eq.trans rfl rfl
theorem F53_9 (a : Nat) (st : List jV) (l0 : Option jV) (w : jH) : jblk jT0 53 cl bk (n + 1) 9 [l0] (jr a :: st) w = jsh st (jcl (cl 0 [jr a] w) (fun v w' => jblk jT0 53 cl bk n 12 [l0] (jpush v st) w') (fun E w' => some (.inr E, w'))) := Eq.trans rfl rfl
theorem F53_12 (a : Nat) (v : jV) (st : List jV) (l0 : Option jV) (w : jH) : jblk jT0 53 cl bk (n + 1) 12 [l0] (v :: jr a :: st) w = jpf w a 7 0 (.object "HabitRegistry$People") v fun w' => jblk jT0 53 cl bk n 15 [l0] st w' := Eq.trans rfl rfl
theorem F53_15 (a : Nat) (st : List jV) (w : jH) : jblk jT0 53 cl bk (n + 1) 15 [some (jr a)] st w = jblk jT0 53 cl bk n 16 [some (jr a)] (jr a :: st) w := Eq.trans rfl rfl
theorem F53_16 (st : List jV) (l0 : Option jV) (w : jH) : jblk jT0 53 cl bk (n + 1) 16 [l0] st w = jnew w (.inr (.inl (1, [.inr (.inr .null), .inr (.inr .null), .inr (.inr .null), .inr (.inr .null), .inr (.inr .null), .inl 0, .inl 0, .inl 0, .inl 0]))) 9 fun a w' => jblk jT0 53 cl bk n 19 [l0] (jr a :: st) w' := Eq.trans rfl rfl
theorem F53_19 (a : Nat) (st : List jV) (l0 : Option jV) (w : jH) : jblk jT0 53 cl bk (n + 1) 19 [l0] (jr a :: st) w = jblk jT0 53 cl bk n 20 [l0] (jr a :: jr a :: st) w := Eq.trans rfl rfl
theorem F53_20 (a : Nat) (st : List jV) (l0 : Option jV) (w : jH) : jblk jT0 53 cl bk (n + 1) 20 [l0] (jr a :: st) w = jsh st (jcl (cl 24 [jr a] w) (fun v w' => jblk jT0 53 cl bk n 23 [l0] (jpush v st) w') (fun E w' => some (.inr E, w'))) := Eq.trans rfl rfl
theorem F53_23 (a : Nat) (v : jV) (st : List jV) (l0 : Option jV) (w : jH) : jblk jT0 53 cl bk (n + 1) 23 [l0] (v :: jr a :: st) w = jpf w a 7 1 (.object "HabitRegistry$Habits") v fun w' => jblk jT0 53 cl bk n 26 [l0] st w' := Eq.trans rfl rfl
theorem F53_26 (l0 : Option jV) (w : jH) : jblk jT0 53 cl bk (n + 1) 26 [l0] [] w = some (.inl none, w) := Eq.trans rfl rfl
theorem F62_0 (a : Nat) (st : List jV) (l1 : Option jV) (w : jH) : jblk jT0 62 cl bk (n + 1) 0 [some (jr a), l1] st w = jblk jT0 62 cl bk n 1 [some (jr a), l1] (jr a :: st) w := Eq.trans rfl rfl
theorem F62_1 (a : Nat) (st : List jV) (l0 l1 : Option jV) (w : jH) : jblk jT0 62 cl bk (n + 1) 1 [l0, l1] (jr a :: st) w = jsh st (jblk jT0 62 cl bk n 4 [l0, l1] st w) := Eq.trans rfl rfl
theorem F62_4 (a : Nat) (st : List jV) (l1 : Option jV) (w : jH) : jblk jT0 62 cl bk (n + 1) 4 [some (jr a), l1] st w = jblk jT0 62 cl bk n 5 [some (jr a), l1] (jr a :: st) w := Eq.trans rfl rfl
theorem F62_5 (a : Nat) (st : List jV) (l0 : Option jV) (w : jH) : jblk jT0 62 cl bk (n + 1) 5 [l0, some (jr a)] st w = jblk jT0 62 cl bk n 6 [l0, some (jr a)] (jr a :: st) w := Eq.trans rfl rfl
theorem F62_6 (a : Nat) (v : jV) (st : List jV) (l0 l1 : Option jV) (w : jH) : jblk jT0 62 cl bk (n + 1) 6 [l0, l1] (v :: jr a :: st) w = jpf w a 3 2 (.object "HabitRegistry$State") v fun w' => jblk jT0 62 cl bk n 9 [l0, l1] st w' := Eq.trans rfl rfl
theorem F62_9 (a : Nat) (st : List jV) (l1 : Option jV) (w : jH) : jblk jT0 62 cl bk (n + 1) 9 [some (jr a), l1] st w = jblk jT0 62 cl bk n 10 [some (jr a), l1] (jr a :: st) w := Eq.trans rfl rfl
theorem F62_10 (a : Nat) (st : List jV) (l0 : Option jV) (w : jH) : jblk jT0 62 cl bk (n + 1) 10 [l0, some (jr a)] st w = jblk jT0 62 cl bk n 11 [l0, some (jr a)] (jr a :: st) w := Eq.trans rfl rfl
theorem F62_11 (a : Nat) (st : List jV) (l0 l1 : Option jV) (w : jH) : jblk jT0 62 cl bk (n + 1) 11 [l0, l1] (jr a :: st) w = jgf w a 7 0 fun v => jblk jT0 62 cl bk n 14 [l0, l1] (v :: st) w := Eq.trans rfl rfl
theorem F62_14 (a : Nat) (v : jV) (st : List jV) (l0 l1 : Option jV) (w : jH) : jblk jT0 62 cl bk (n + 1) 14 [l0, l1] (v :: jr a :: st) w = jpf w a 3 0 (.object "HabitRegistry$People") v fun w' => jblk jT0 62 cl bk n 17 [l0, l1] st w' := Eq.trans rfl rfl
theorem F62_17 (a : Nat) (st : List jV) (l1 : Option jV) (w : jH) : jblk jT0 62 cl bk (n + 1) 17 [some (jr a), l1] st w = jblk jT0 62 cl bk n 18 [some (jr a), l1] (jr a :: st) w := Eq.trans rfl rfl
theorem F62_18 (a : Nat) (st : List jV) (l0 : Option jV) (w : jH) : jblk jT0 62 cl bk (n + 1) 18 [l0, some (jr a)] st w = jblk jT0 62 cl bk n 19 [l0, some (jr a)] (jr a :: st) w := Eq.trans rfl rfl
theorem F62_19 (a : Nat) (st : List jV) (l0 l1 : Option jV) (w : jH) : jblk jT0 62 cl bk (n + 1) 19 [l0, l1] (jr a :: st) w = jgf w a 7 1 fun v => jblk jT0 62 cl bk n 22 [l0, l1] (v :: st) w := Eq.trans rfl rfl
theorem F62_22 (a : Nat) (v : jV) (st : List jV) (l0 l1 : Option jV) (w : jH) : jblk jT0 62 cl bk (n + 1) 22 [l0, l1] (v :: jr a :: st) w = jpf w a 3 1 (.object "HabitRegistry$Habits") v fun w' => jblk jT0 62 cl bk n 25 [l0, l1] st w' := Eq.trans rfl rfl
theorem F62_25 (l0 l1 : Option jV) (w : jH) : jblk jT0 62 cl bk (n + 1) 25 [l0, l1] [] w = some (.inl none, w) := Eq.trans rfl rfl
theorem F74_0 (a : Nat) (st : List jV) (l1 : Option jV) (w : jH) : jblk jT0 74 cl bk (n + 1) 0 [some (jr a), l1] st w = jblk jT0 74 cl bk n 1 [some (jr a), l1] (jr a :: st) w := Eq.trans rfl rfl
theorem F74_1 (a : Nat) (st : List jV) (l0 l1 : Option jV) (w : jH) : jblk jT0 74 cl bk (n + 1) 1 [l0, l1] (jr a :: st) w = jsh st (jblk jT0 74 cl bk n 4 [l0, l1] st w) := Eq.trans rfl rfl
theorem F74_4 (a : Nat) (st : List jV) (l1 : Option jV) (w : jH) : jblk jT0 74 cl bk (n + 1) 4 [some (jr a), l1] st w = jblk jT0 74 cl bk n 5 [some (jr a), l1] (jr a :: st) w := Eq.trans rfl rfl
theorem F74_5 (st : List jV) (l0 l1 : Option jV) (w : jH) : jblk jT0 74 cl bk (n + 1) 5 [l0, l1] st w = jblk jT0 74 cl bk n 7 [l0, l1] (.inl 9 :: st) w := Eq.trans rfl rfl
theorem F74_7 (st : List jV) (l0 l1 : Option jV) (w : jH) : jblk jT0 74 cl bk (n + 1) 7 [l0, l1] (.inl 9 :: st) w = jnew w (.inr (.inr (.object "HabitRegistry$State", (9, fun _ => .null)))) 9 fun a w' => jblk jT0 74 cl bk n 10 [l0, l1] (jr a :: st) w' := Eq.trans rfl rfl
theorem F74_10 (a : Nat) (v : jV) (st : List jV) (l0 l1 : Option jV) (w : jH) : jblk jT0 74 cl bk (n + 1) 10 [l0, l1] (v :: jr a :: st) w = jpf w a 8 0 (.array (.object "HabitRegistry$State")) v fun w' => jblk jT0 74 cl bk n 13 [l0, l1] st w' := Eq.trans rfl rfl
theorem F74_13 (st : List jV) (l0 l1 : Option jV) (w : jH) : jblk jT0 74 cl bk (n + 1) 13 [l0, l1] st w = jblk jT0 74 cl bk n 14 [l0, l1] (.inl 0 :: st) w := Eq.trans rfl rfl
theorem F74_14 (x : Int) (st : List jV) (l0 l1 : Option jV) (w : jH) : jblk jT0 74 cl bk (n + 1) 14 [l0, l1] (.inl x :: st) w = bk 15 [l0, some (.inl x)] st w := Eq.trans rfl rfl
theorem F74_15 (x : Int) (st : List jV) (l0 : Option jV) (w : jH) : jblk jT0 74 cl bk (n + 1) 15 [l0, some (.inl x)] st w = jblk jT0 74 cl bk n 16 [l0, some (.inl x)] (.inl x :: st) w := Eq.trans rfl rfl
theorem F74_16 (st : List jV) (l0 l1 : Option jV) (w : jH) : jblk jT0 74 cl bk (n + 1) 16 [l0, l1] st w = jblk jT0 74 cl bk n 18 [l0, l1] (.inl 9 :: st) w := Eq.trans rfl rfl
theorem F74_18 (x : Int) (y : Int) (st : List jV) (l0 l1 : Option jV) (w : jH) : jblk jT0 74 cl bk (n + 1) 18 [l0, l1] (.inl y :: .inl x :: st) w = if x < y then jblk jT0 74 cl bk n 21 [l0, l1] st w else jblk jT0 74 cl bk n 40 [l0, l1] st w := Eq.trans rfl rfl
theorem F74_21 (a : Nat) (st : List jV) (l1 : Option jV) (w : jH) : jblk jT0 74 cl bk (n + 1) 21 [some (jr a), l1] st w = jblk jT0 74 cl bk n 22 [some (jr a), l1] (jr a :: st) w := Eq.trans rfl rfl
theorem F74_22 (a : Nat) (st : List jV) (l0 l1 : Option jV) (w : jH) : jblk jT0 74 cl bk (n + 1) 22 [l0, l1] (jr a :: st) w = jgf w a 8 0 fun v => jblk jT0 74 cl bk n 25 [l0, l1] (v :: st) w := Eq.trans rfl rfl
theorem F74_25 (x : Int) (st : List jV) (l0 : Option jV) (w : jH) : jblk jT0 74 cl bk (n + 1) 25 [l0, some (.inl x)] st w = jblk jT0 74 cl bk n 26 [l0, some (.inl x)] (.inl x :: st) w := Eq.trans rfl rfl
theorem F74_26 (st : List jV) (l0 l1 : Option jV) (w : jH) : jblk jT0 74 cl bk (n + 1) 26 [l0, l1] st w = jnew w (.inr (.inl (7, [.inr (.inr .null), .inr (.inr .null), .inl 0]))) 3 fun a w' => jblk jT0 74 cl bk n 29 [l0, l1] (jr a :: st) w' := Eq.trans rfl rfl
theorem F74_29 (a : Nat) (st : List jV) (l0 l1 : Option jV) (w : jH) : jblk jT0 74 cl bk (n + 1) 29 [l0, l1] (jr a :: st) w = jblk jT0 74 cl bk n 30 [l0, l1] (jr a :: jr a :: st) w := Eq.trans rfl rfl
theorem F74_30 (a : Nat) (st : List jV) (l0 l1 : Option jV) (w : jH) : jblk jT0 74 cl bk (n + 1) 30 [l0, l1] (jr a :: st) w = jsh st (jcl (cl 53 [jr a] w) (fun v w' => jblk jT0 74 cl bk n 33 [l0, l1] (jpush v st) w') (fun E w' => some (.inr E, w'))) := Eq.trans rfl rfl
theorem F74_33 (b : Nat) (x : Int) (a : Nat) (st : List jV) (l0 l1 : Option jV) (w : jH) : jblk jT0 74 cl bk (n + 1) 33 [l0, l1] (jr b :: .inl x :: jr a :: st) w = jgq w a fun ty k g => if ty = .object "HabitRegistry$State" then jix x k (jgo w b 7 fun _ => jblk jT0 74 cl bk n 34 [l0, l1] st (jset w a (.inr (.inr (ty, (k, juv g x.toNat (.ref b))))))) else none := Eq.trans rfl rfl
theorem F74_34 (x : Int) (st : List jV) (l0 : Option jV) (w : jH) : jblk jT0 74 cl bk (n + 1) 34 [l0, some (.inl x)] st w = jblk jT0 74 cl bk n 37 [l0, some (.inl (jw (x + 1)))] st w := Eq.trans rfl rfl
theorem F74_37 (st : List jV) (l0 l1 : Option jV) (w : jH) : jblk jT0 74 cl bk (n + 1) 37 [l0, l1] st w = bk 15 [l0, l1] st w := Eq.trans rfl rfl
theorem F74_40 (l0 l1 : Option jV) (w : jH) : jblk jT0 74 cl bk (n + 1) 40 [l0, l1] [] w = some (.inl none, w) := Eq.trans rfl rfl
theorem F80_0 (a : Nat) (st : List jV) (w : jH) : jblk jT0 80 cl bk (n + 1) 0 [some (jr a)] st w = jblk jT0 80 cl bk n 1 [some (jr a)] (jr a :: st) w := Eq.trans rfl rfl
theorem F80_1 (a : Nat) (st : List jV) (l0 : Option jV) (w : jH) : jblk jT0 80 cl bk (n + 1) 1 [l0] (jr a :: st) w = jsh st (jblk jT0 80 cl bk n 4 [l0] st w) := Eq.trans rfl rfl
theorem F80_4 (a : Nat) (st : List jV) (w : jH) : jblk jT0 80 cl bk (n + 1) 4 [some (jr a)] st w = jblk jT0 80 cl bk n 5 [some (jr a)] (jr a :: st) w := Eq.trans rfl rfl
theorem F80_5 (st : List jV) (l0 : Option jV) (w : jH) : jblk jT0 80 cl bk (n + 1) 5 [l0] st w = jblk jT0 80 cl bk n 7 [l0] (.inl 60 :: st) w := Eq.trans rfl rfl
theorem F80_7 (x : Int) (st : List jV) (l0 : Option jV) (w : jH) : jblk jT0 80 cl bk (n + 1) 7 [l0] (.inl x :: st) w = if 0 ≤ x ∧ x < 2000 then jnew w (jlen0 (jzero .char) x.toNat) x.toNat fun a w' => jblk jT0 80 cl bk n 9 [l0] (jr a :: st) w' else none := Eq.trans rfl rfl
theorem F80_9 (a : Nat) (v : jV) (st : List jV) (l0 : Option jV) (w : jH) : jblk jT0 80 cl bk (n + 1) 9 [l0] (v :: jr a :: st) w = jpf w a 5 0 (.array .char) v fun w' => jblk jT0 80 cl bk n 12 [l0] st w' := Eq.trans rfl rfl
theorem F80_12 (a : Nat) (st : List jV) (w : jH) : jblk jT0 80 cl bk (n + 1) 12 [some (jr a)] st w = jblk jT0 80 cl bk n 13 [some (jr a)] (jr a :: st) w := Eq.trans rfl rfl
theorem F80_13 (st : List jV) (l0 : Option jV) (w : jH) : jblk jT0 80 cl bk (n + 1) 13 [l0] st w = jblk jT0 80 cl bk n 15 [l0] (.inl 60 :: st) w := Eq.trans rfl rfl
theorem F80_15 (x : Int) (st : List jV) (l0 : Option jV) (w : jH) : jblk jT0 80 cl bk (n + 1) 15 [l0] (.inl x :: st) w = if 0 ≤ x ∧ x < 2000 then jnew w (jlen0 (jzero .int) x.toNat) x.toNat fun a w' => jblk jT0 80 cl bk n 17 [l0] (jr a :: st) w' else none := Eq.trans rfl rfl
theorem F80_17 (a : Nat) (v : jV) (st : List jV) (l0 : Option jV) (w : jH) : jblk jT0 80 cl bk (n + 1) 17 [l0] (v :: jr a :: st) w = jpf w a 5 3 (.array .int) v fun w' => jblk jT0 80 cl bk n 20 [l0] st w' := Eq.trans rfl rfl
theorem F80_20 (a : Nat) (st : List jV) (w : jH) : jblk jT0 80 cl bk (n + 1) 20 [some (jr a)] st w = jblk jT0 80 cl bk n 21 [some (jr a)] (jr a :: st) w := Eq.trans rfl rfl
theorem F80_21 (st : List jV) (l0 : Option jV) (w : jH) : jblk jT0 80 cl bk (n + 1) 21 [l0] st w = jblk jT0 80 cl bk n 23 [l0] (.inl 60 :: st) w := Eq.trans rfl rfl
theorem F80_23 (x : Int) (st : List jV) (l0 : Option jV) (w : jH) : jblk jT0 80 cl bk (n + 1) 23 [l0] (.inl x :: st) w = if 0 ≤ x ∧ x < 2000 then jnew w (jlen0 (jzero .int) x.toNat) x.toNat fun a w' => jblk jT0 80 cl bk n 25 [l0] (jr a :: st) w' else none := Eq.trans rfl rfl
theorem F80_25 (a : Nat) (v : jV) (st : List jV) (l0 : Option jV) (w : jH) : jblk jT0 80 cl bk (n + 1) 25 [l0] (v :: jr a :: st) w = jpf w a 5 4 (.array .int) v fun w' => jblk jT0 80 cl bk n 28 [l0] st w' := Eq.trans rfl rfl
theorem F80_28 (a : Nat) (st : List jV) (w : jH) : jblk jT0 80 cl bk (n + 1) 28 [some (jr a)] st w = jblk jT0 80 cl bk n 29 [some (jr a)] (jr a :: st) w := Eq.trans rfl rfl
theorem F80_29 (st : List jV) (l0 : Option jV) (w : jH) : jblk jT0 80 cl bk (n + 1) 29 [l0] st w = jblk jT0 80 cl bk n 31 [l0] (.inl 60 :: st) w := Eq.trans rfl rfl
theorem F80_31 (x : Int) (st : List jV) (l0 : Option jV) (w : jH) : jblk jT0 80 cl bk (n + 1) 31 [l0] (.inl x :: st) w = if 0 ≤ x ∧ x < 2000 then jnew w (jlen0 (jzero .char) x.toNat) x.toNat fun a w' => jblk jT0 80 cl bk n 33 [l0] (jr a :: st) w' else none := Eq.trans rfl rfl
theorem F80_33 (a : Nat) (v : jV) (st : List jV) (l0 : Option jV) (w : jH) : jblk jT0 80 cl bk (n + 1) 33 [l0] (v :: jr a :: st) w = jpf w a 5 5 (.array .char) v fun w' => jblk jT0 80 cl bk n 36 [l0] st w' := Eq.trans rfl rfl
theorem F80_36 (a : Nat) (st : List jV) (w : jH) : jblk jT0 80 cl bk (n + 1) 36 [some (jr a)] st w = jblk jT0 80 cl bk n 37 [some (jr a)] (jr a :: st) w := Eq.trans rfl rfl
theorem F80_37 (st : List jV) (l0 : Option jV) (w : jH) : jblk jT0 80 cl bk (n + 1) 37 [l0] st w = jblk jT0 80 cl bk n 39 [l0] (.inl 60 :: st) w := Eq.trans rfl rfl
theorem F80_39 (x : Int) (st : List jV) (l0 : Option jV) (w : jH) : jblk jT0 80 cl bk (n + 1) 39 [l0] (.inl x :: st) w = if 0 ≤ x ∧ x < 2000 then jnew w (jlen0 (jzero .int) x.toNat) x.toNat fun a w' => jblk jT0 80 cl bk n 41 [l0] (jr a :: st) w' else none := Eq.trans rfl rfl
theorem F80_41 (a : Nat) (v : jV) (st : List jV) (l0 : Option jV) (w : jH) : jblk jT0 80 cl bk (n + 1) 41 [l0] (v :: jr a :: st) w = jpf w a 5 6 (.array .int) v fun w' => jblk jT0 80 cl bk n 44 [l0] st w' := Eq.trans rfl rfl
theorem F80_44 (l0 : Option jV) (w : jH) : jblk jT0 80 cl bk (n + 1) 44 [l0] [] w = some (.inl none, w) := Eq.trans rfl rfl
theorem F95_0 (a : Nat) (st : List jV) (w : jH) : jblk jT0 95 cl bk (n + 1) 0 [some (jr a)] st w = jblk jT0 95 cl bk n 1 [some (jr a)] (jr a :: st) w := Eq.trans rfl rfl
theorem F95_1 (a : Nat) (st : List jV) (l0 : Option jV) (w : jH) : jblk jT0 95 cl bk (n + 1) 1 [l0] (jr a :: st) w = jsh st (jblk jT0 95 cl bk n 4 [l0] st w) := Eq.trans rfl rfl
theorem F95_4 (a : Nat) (st : List jV) (w : jH) : jblk jT0 95 cl bk (n + 1) 4 [some (jr a)] st w = jblk jT0 95 cl bk n 5 [some (jr a)] (jr a :: st) w := Eq.trans rfl rfl
theorem F95_5 (st : List jV) (l0 : Option jV) (w : jH) : jblk jT0 95 cl bk (n + 1) 5 [l0] st w = jblk jT0 95 cl bk n 7 [l0] (.inl 60 :: st) w := Eq.trans rfl rfl
theorem F95_7 (x : Int) (st : List jV) (l0 : Option jV) (w : jH) : jblk jT0 95 cl bk (n + 1) 7 [l0] (.inl x :: st) w = if 0 ≤ x ∧ x < 2000 then jnew w (jlen0 (jzero .char) x.toNat) x.toNat fun a w' => jblk jT0 95 cl bk n 9 [l0] (jr a :: st) w' else none := Eq.trans rfl rfl
theorem F95_9 (a : Nat) (v : jV) (st : List jV) (l0 : Option jV) (w : jH) : jblk jT0 95 cl bk (n + 1) 9 [l0] (v :: jr a :: st) w = jpf w a 4 0 (.array .char) v fun w' => jblk jT0 95 cl bk n 12 [l0] st w' := Eq.trans rfl rfl
theorem F95_12 (l0 : Option jV) (w : jH) : jblk jT0 95 cl bk (n + 1) 12 [l0] [] w = some (.inl none, w) := Eq.trans rfl rfl
theorem F101_0 (a : Nat) (st : List jV) (w : jH) : jblk jT0 101 cl bk (n + 1) 0 [some (jr a)] st w = jblk jT0 101 cl bk n 1 [some (jr a)] (jr a :: st) w := Eq.trans rfl rfl
theorem F101_1 (a : Nat) (st : List jV) (l0 : Option jV) (w : jH) : jblk jT0 101 cl bk (n + 1) 1 [l0] (jr a :: st) w = jsh st (jblk jT0 101 cl bk n 4 [l0] st w) := Eq.trans rfl rfl
theorem F101_4 (a : Nat) (st : List jV) (w : jH) : jblk jT0 101 cl bk (n + 1) 4 [some (jr a)] st w = jblk jT0 101 cl bk n 5 [some (jr a)] (jr a :: st) w := Eq.trans rfl rfl
theorem F101_5 (st : List jV) (l0 : Option jV) (w : jH) : jblk jT0 101 cl bk (n + 1) 5 [l0] st w = jnew w (.inr (.inl (7, [.inr (.inr .null), .inr (.inr .null), .inl 0]))) 3 fun a w' => jblk jT0 101 cl bk n 8 [l0] (jr a :: st) w' := Eq.trans rfl rfl
theorem F101_8 (a : Nat) (st : List jV) (l0 : Option jV) (w : jH) : jblk jT0 101 cl bk (n + 1) 8 [l0] (jr a :: st) w = jblk jT0 101 cl bk n 9 [l0] (jr a :: jr a :: st) w := Eq.trans rfl rfl
theorem F101_9 (a : Nat) (st : List jV) (l0 : Option jV) (w : jH) : jblk jT0 101 cl bk (n + 1) 9 [l0] (jr a :: st) w = jsh st (jcl (cl 53 [jr a] w) (fun v w' => jblk jT0 101 cl bk n 12 [l0] (jpush v st) w') (fun E w' => some (.inr E, w'))) := Eq.trans rfl rfl
theorem F101_12 (a : Nat) (v : jV) (st : List jV) (l0 : Option jV) (w : jH) : jblk jT0 101 cl bk (n + 1) 12 [l0] (v :: jr a :: st) w = jpf w a 6 0 (.object "HabitRegistry$State") v fun w' => jblk jT0 101 cl bk n 15 [l0] st w' := Eq.trans rfl rfl
theorem F101_15 (a : Nat) (st : List jV) (w : jH) : jblk jT0 101 cl bk (n + 1) 15 [some (jr a)] st w = jblk jT0 101 cl bk n 16 [some (jr a)] (jr a :: st) w := Eq.trans rfl rfl
theorem F101_16 (st : List jV) (l0 : Option jV) (w : jH) : jblk jT0 101 cl bk (n + 1) 16 [l0] st w = jnew w (.inr (.inl (3, [.inr (.inr .null), .inr (.inr .null), .inr (.inr .null), .inl 0, .inl 0]))) 5 fun a w' => jblk jT0 101 cl bk n 19 [l0] (jr a :: st) w' := Eq.trans rfl rfl
theorem F101_19 (a : Nat) (st : List jV) (l0 : Option jV) (w : jH) : jblk jT0 101 cl bk (n + 1) 19 [l0] (jr a :: st) w = jblk jT0 101 cl bk n 20 [l0] (jr a :: jr a :: st) w := Eq.trans rfl rfl
theorem F101_20 (a : Nat) (st : List jV) (w : jH) : jblk jT0 101 cl bk (n + 1) 20 [some (jr a)] st w = jblk jT0 101 cl bk n 21 [some (jr a)] (jr a :: st) w := Eq.trans rfl rfl
theorem F101_21 (a : Nat) (st : List jV) (l0 : Option jV) (w : jH) : jblk jT0 101 cl bk (n + 1) 21 [l0] (jr a :: st) w = jgf w a 6 0 fun v => jblk jT0 101 cl bk n 24 [l0] (v :: st) w := Eq.trans rfl rfl
theorem F101_24 (a : Nat) (v0 : jV) (st : List jV) (l0 : Option jV) (w : jH) : jblk jT0 101 cl bk (n + 1) 24 [l0] (v0 :: jr a :: st) w = jsh st (jcl (cl 62 [jr a, v0] w) (fun v w' => jblk jT0 101 cl bk n 27 [l0] (jpush v st) w') (fun E w' => some (.inr E, w'))) := Eq.trans rfl rfl
theorem F101_27 (a : Nat) (v : jV) (st : List jV) (l0 : Option jV) (w : jH) : jblk jT0 101 cl bk (n + 1) 27 [l0] (v :: jr a :: st) w = jpf w a 6 1 (.object "HabitRegistry$Actions") v fun w' => jblk jT0 101 cl bk n 30 [l0] st w' := Eq.trans rfl rfl
theorem F101_30 (a : Nat) (st : List jV) (w : jH) : jblk jT0 101 cl bk (n + 1) 30 [some (jr a)] st w = jblk jT0 101 cl bk n 31 [some (jr a)] (jr a :: st) w := Eq.trans rfl rfl
theorem F101_31 (st : List jV) (l0 : Option jV) (w : jH) : jblk jT0 101 cl bk (n + 1) 31 [l0] st w = jnew w (.inr (.inl (2, [.inr (.inr .null), .inr (.inr .null), .inl 0]))) 3 fun a w' => jblk jT0 101 cl bk n 34 [l0] (jr a :: st) w' := Eq.trans rfl rfl
theorem F101_34 (a : Nat) (st : List jV) (l0 : Option jV) (w : jH) : jblk jT0 101 cl bk (n + 1) 34 [l0] (jr a :: st) w = jblk jT0 101 cl bk n 35 [l0] (jr a :: jr a :: st) w := Eq.trans rfl rfl
theorem F101_35 (a : Nat) (st : List jV) (l0 : Option jV) (w : jH) : jblk jT0 101 cl bk (n + 1) 35 [l0] (jr a :: st) w = jsh st (jcl (cl 49 [jr a] w) (fun v w' => jblk jT0 101 cl bk n 38 [l0] (jpush v st) w') (fun E w' => some (.inr E, w'))) := Eq.trans rfl rfl
theorem F101_38 (a : Nat) (v : jV) (st : List jV) (l0 : Option jV) (w : jH) : jblk jT0 101 cl bk (n + 1) 38 [l0] (v :: jr a :: st) w = jpf w a 6 2 (.object "HabitRegistry$Search") v fun w' => jblk jT0 101 cl bk n 41 [l0] st w' := Eq.trans rfl rfl
theorem F101_41 (a : Nat) (st : List jV) (w : jH) : jblk jT0 101 cl bk (n + 1) 41 [some (jr a)] st w = jblk jT0 101 cl bk n 42 [some (jr a)] (jr a :: st) w := Eq.trans rfl rfl
theorem F101_42 (st : List jV) (l0 : Option jV) (w : jH) : jblk jT0 101 cl bk (n + 1) 42 [l0] st w = jnew w (.inr (.inl (8, [.inr (.inr .null), .inl 0, .inl 0]))) 3 fun a w' => jblk jT0 101 cl bk n 45 [l0] (jr a :: st) w' := Eq.trans rfl rfl
theorem F101_45 (a : Nat) (st : List jV) (l0 : Option jV) (w : jH) : jblk jT0 101 cl bk (n + 1) 45 [l0] (jr a :: st) w = jblk jT0 101 cl bk n 46 [l0] (jr a :: jr a :: st) w := Eq.trans rfl rfl
theorem F101_46 (a : Nat) (st : List jV) (l0 : Option jV) (w : jH) : jblk jT0 101 cl bk (n + 1) 46 [l0] (jr a :: st) w = jsh st (jcl (cl 74 [jr a] w) (fun v w' => jblk jT0 101 cl bk n 49 [l0] (jpush v st) w') (fun E w' => some (.inr E, w'))) := Eq.trans rfl rfl
theorem F101_49 (a : Nat) (v : jV) (st : List jV) (l0 : Option jV) (w : jH) : jblk jT0 101 cl bk (n + 1) 49 [l0] (v :: jr a :: st) w = jpf w a 6 3 (.object "HabitRegistry$History") v fun w' => jblk jT0 101 cl bk n 52 [l0] st w' := Eq.trans rfl rfl
theorem F101_52 (a : Nat) (st : List jV) (w : jH) : jblk jT0 101 cl bk (n + 1) 52 [some (jr a)] st w = jblk jT0 101 cl bk n 53 [some (jr a)] (jr a :: st) w := Eq.trans rfl rfl
theorem F101_53 (st : List jV) (l0 : Option jV) (w : jH) : jblk jT0 101 cl bk (n + 1) 53 [l0] st w = jnew w (.inr (.inl (7, [.inr (.inr .null), .inr (.inr .null), .inl 0]))) 3 fun a w' => jblk jT0 101 cl bk n 56 [l0] (jr a :: st) w' := Eq.trans rfl rfl
theorem F101_56 (a : Nat) (st : List jV) (l0 : Option jV) (w : jH) : jblk jT0 101 cl bk (n + 1) 56 [l0] (jr a :: st) w = jblk jT0 101 cl bk n 57 [l0] (jr a :: jr a :: st) w := Eq.trans rfl rfl
theorem F101_57 (a : Nat) (st : List jV) (l0 : Option jV) (w : jH) : jblk jT0 101 cl bk (n + 1) 57 [l0] (jr a :: st) w = jsh st (jcl (cl 53 [jr a] w) (fun v w' => jblk jT0 101 cl bk n 60 [l0] (jpush v st) w') (fun E w' => some (.inr E, w'))) := Eq.trans rfl rfl
theorem F101_60 (a : Nat) (v : jV) (st : List jV) (l0 : Option jV) (w : jH) : jblk jT0 101 cl bk (n + 1) 60 [l0] (v :: jr a :: st) w = jpf w a 6 4 (.object "HabitRegistry$State") v fun w' => jblk jT0 101 cl bk n 63 [l0] st w' := Eq.trans rfl rfl
theorem F101_63 (a : Nat) (st : List jV) (w : jH) : jblk jT0 101 cl bk (n + 1) 63 [some (jr a)] st w = jblk jT0 101 cl bk n 64 [some (jr a)] (jr a :: st) w := Eq.trans rfl rfl
theorem F101_64 (st : List jV) (l0 : Option jV) (w : jH) : jblk jT0 101 cl bk (n + 1) 64 [l0] st w = jnew w (.inr (.inl (5, [.inr (.inr .null), .inl 0, .inl 0, .inr (.inr .null), .inr (.inr .null), .inr (.inr .null), .inr (.inr .null), .inl 0]))) 8 fun a w' => jblk jT0 101 cl bk n 67 [l0] (jr a :: st) w' := Eq.trans rfl rfl
theorem F101_67 (a : Nat) (st : List jV) (l0 : Option jV) (w : jH) : jblk jT0 101 cl bk (n + 1) 67 [l0] (jr a :: st) w = jblk jT0 101 cl bk n 68 [l0] (jr a :: jr a :: st) w := Eq.trans rfl rfl
theorem F101_68 (a : Nat) (st : List jV) (l0 : Option jV) (w : jH) : jblk jT0 101 cl bk (n + 1) 68 [l0] (jr a :: st) w = jsh st (jcl (cl 80 [jr a] w) (fun v w' => jblk jT0 101 cl bk n 71 [l0] (jpush v st) w') (fun E w' => some (.inr E, w'))) := Eq.trans rfl rfl
theorem F101_71 (a : Nat) (v : jV) (st : List jV) (l0 : Option jV) (w : jH) : jblk jT0 101 cl bk (n + 1) 71 [l0] (v :: jr a :: st) w = jpf w a 6 6 (.object "HabitRegistry$Script") v fun w' => jblk jT0 101 cl bk n 74 [l0] st w' := Eq.trans rfl rfl
theorem F101_74 (a : Nat) (st : List jV) (w : jH) : jblk jT0 101 cl bk (n + 1) 74 [some (jr a)] st w = jblk jT0 101 cl bk n 75 [some (jr a)] (jr a :: st) w := Eq.trans rfl rfl
theorem F101_75 (st : List jV) (l0 : Option jV) (w : jH) : jblk jT0 101 cl bk (n + 1) 75 [l0] st w = jnew w (.inr (.inl (4, [.inr (.inr .null), .inl 0]))) 2 fun a w' => jblk jT0 101 cl bk n 78 [l0] (jr a :: st) w' := Eq.trans rfl rfl
theorem F101_78 (a : Nat) (st : List jV) (l0 : Option jV) (w : jH) : jblk jT0 101 cl bk (n + 1) 78 [l0] (jr a :: st) w = jblk jT0 101 cl bk n 79 [l0] (jr a :: jr a :: st) w := Eq.trans rfl rfl
theorem F101_79 (a : Nat) (st : List jV) (l0 : Option jV) (w : jH) : jblk jT0 101 cl bk (n + 1) 79 [l0] (jr a :: st) w = jsh st (jcl (cl 95 [jr a] w) (fun v w' => jblk jT0 101 cl bk n 82 [l0] (jpush v st) w') (fun E w' => some (.inr E, w'))) := Eq.trans rfl rfl
theorem F101_82 (a : Nat) (v : jV) (st : List jV) (l0 : Option jV) (w : jH) : jblk jT0 101 cl bk (n + 1) 82 [l0] (v :: jr a :: st) w = jpf w a 6 7 (.object "HabitRegistry$Output") v fun w' => jblk jT0 101 cl bk n 85 [l0] st w' := Eq.trans rfl rfl
theorem F101_85 (a : Nat) (st : List jV) (w : jH) : jblk jT0 101 cl bk (n + 1) 85 [some (jr a)] st w = jblk jT0 101 cl bk n 86 [some (jr a)] (jr a :: st) w := Eq.trans rfl rfl
theorem F101_86 (st : List jV) (l0 : Option jV) (w : jH) : jblk jT0 101 cl bk (n + 1) 86 [l0] st w = jblk jT0 101 cl bk n 87 [l0] (.inl (-1) :: st) w := Eq.trans rfl rfl
theorem F101_87 (a : Nat) (v : jV) (st : List jV) (l0 : Option jV) (w : jH) : jblk jT0 101 cl bk (n + 1) 87 [l0] (v :: jr a :: st) w = jpf w a 6 8 .int v fun w' => jblk jT0 101 cl bk n 90 [l0] st w' := Eq.trans rfl rfl
theorem F101_90 (l0 : Option jV) (w : jH) : jblk jT0 101 cl bk (n + 1) 90 [l0] [] w = some (.inl none, w) := Eq.trans rfl rfl
theorem F176_0 (a : Nat) (st : List jV) (w : jH) : jblk jT0 176 cl bk (n + 1) 0 [some (jr a)] st w = jblk jT0 176 cl bk n 1 [some (jr a)] (jr a :: st) w := Eq.trans rfl rfl
theorem F176_1 (a : Nat) (st : List jV) (l0 : Option jV) (w : jH) : jblk jT0 176 cl bk (n + 1) 1 [l0] (jr a :: st) w = jsh st (jblk jT0 176 cl bk n 4 [l0] st w) := Eq.trans rfl rfl
theorem F176_4 (a : Nat) (st : List jV) (w : jH) : jblk jT0 176 cl bk (n + 1) 4 [some (jr a)] st w = jblk jT0 176 cl bk n 5 [some (jr a)] (jr a :: st) w := Eq.trans rfl rfl
theorem F176_5 (st : List jV) (l0 : Option jV) (w : jH) : jblk jT0 176 cl bk (n + 1) 5 [l0] st w = jblk jT0 176 cl bk n 8 [l0] (.inl 138 :: st) w := Eq.trans rfl rfl
theorem F176_8 (x : Int) (st : List jV) (l0 : Option jV) (w : jH) : jblk jT0 176 cl bk (n + 1) 8 [l0] (.inl x :: st) w = if 0 ≤ x ∧ x < 2000 then jnew w (jlen0 (jzero .int) x.toNat) x.toNat fun a w' => jblk jT0 176 cl bk n 10 [l0] (jr a :: st) w' else none := Eq.trans rfl rfl
theorem F176_10 (a : Nat) (v : jV) (st : List jV) (l0 : Option jV) (w : jH) : jblk jT0 176 cl bk (n + 1) 10 [l0] (v :: jr a :: st) w = jpf w a 9 0 (.array .int) v fun w' => jblk jT0 176 cl bk n 13 [l0] st w' := Eq.trans rfl rfl
theorem F176_13 (a : Nat) (st : List jV) (w : jH) : jblk jT0 176 cl bk (n + 1) 13 [some (jr a)] st w = jblk jT0 176 cl bk n 14 [some (jr a)] (jr a :: st) w := Eq.trans rfl rfl
theorem F176_14 (st : List jV) (l0 : Option jV) (w : jH) : jblk jT0 176 cl bk (n + 1) 14 [l0] st w = jblk jT0 176 cl bk n 17 [l0] (.inl 1104 :: st) w := Eq.trans rfl rfl
theorem F176_17 (x : Int) (st : List jV) (l0 : Option jV) (w : jH) : jblk jT0 176 cl bk (n + 1) 17 [l0] (.inl x :: st) w = if 0 ≤ x ∧ x < 2000 then jnew w (jlen0 (jzero .int) x.toNat) x.toNat fun a w' => jblk jT0 176 cl bk n 19 [l0] (jr a :: st) w' else none := Eq.trans rfl rfl
theorem F176_19 (a : Nat) (v : jV) (st : List jV) (l0 : Option jV) (w : jH) : jblk jT0 176 cl bk (n + 1) 19 [l0] (v :: jr a :: st) w = jpf w a 9 1 (.array .int) v fun w' => jblk jT0 176 cl bk n 22 [l0] st w' := Eq.trans rfl rfl
theorem F176_22 (a : Nat) (st : List jV) (w : jH) : jblk jT0 176 cl bk (n + 1) 22 [some (jr a)] st w = jblk jT0 176 cl bk n 23 [some (jr a)] (jr a :: st) w := Eq.trans rfl rfl
theorem F176_23 (st : List jV) (l0 : Option jV) (w : jH) : jblk jT0 176 cl bk (n + 1) 23 [l0] st w = jblk jT0 176 cl bk n 26 [l0] (.inl 138 :: st) w := Eq.trans rfl rfl
theorem F176_26 (x : Int) (st : List jV) (l0 : Option jV) (w : jH) : jblk jT0 176 cl bk (n + 1) 26 [l0] (.inl x :: st) w = if 0 ≤ x ∧ x < 2000 then jnew w (jlen0 (jzero .int) x.toNat) x.toNat fun a w' => jblk jT0 176 cl bk n 28 [l0] (jr a :: st) w' else none := Eq.trans rfl rfl
theorem F176_28 (a : Nat) (v : jV) (st : List jV) (l0 : Option jV) (w : jH) : jblk jT0 176 cl bk (n + 1) 28 [l0] (v :: jr a :: st) w = jpf w a 9 2 (.array .int) v fun w' => jblk jT0 176 cl bk n 31 [l0] st w' := Eq.trans rfl rfl
theorem F176_31 (a : Nat) (st : List jV) (w : jH) : jblk jT0 176 cl bk (n + 1) 31 [some (jr a)] st w = jblk jT0 176 cl bk n 32 [some (jr a)] (jr a :: st) w := Eq.trans rfl rfl
theorem F176_32 (st : List jV) (l0 : Option jV) (w : jH) : jblk jT0 176 cl bk (n + 1) 32 [l0] st w = jblk jT0 176 cl bk n 35 [l0] (.inl 138 :: st) w := Eq.trans rfl rfl
theorem F176_35 (x : Int) (st : List jV) (l0 : Option jV) (w : jH) : jblk jT0 176 cl bk (n + 1) 35 [l0] (.inl x :: st) w = if 0 ≤ x ∧ x < 2000 then jnew w (jlen0 (jzero .int) x.toNat) x.toNat fun a w' => jblk jT0 176 cl bk n 37 [l0] (jr a :: st) w' else none := Eq.trans rfl rfl
theorem F176_37 (a : Nat) (v : jV) (st : List jV) (l0 : Option jV) (w : jH) : jblk jT0 176 cl bk (n + 1) 37 [l0] (v :: jr a :: st) w = jpf w a 9 3 (.array .int) v fun w' => jblk jT0 176 cl bk n 40 [l0] st w' := Eq.trans rfl rfl
theorem F176_40 (a : Nat) (st : List jV) (w : jH) : jblk jT0 176 cl bk (n + 1) 40 [some (jr a)] st w = jblk jT0 176 cl bk n 41 [some (jr a)] (jr a :: st) w := Eq.trans rfl rfl
theorem F176_41 (st : List jV) (l0 : Option jV) (w : jH) : jblk jT0 176 cl bk (n + 1) 41 [l0] st w = jblk jT0 176 cl bk n 43 [l0] (.inl 60 :: st) w := Eq.trans rfl rfl
theorem F176_43 (x : Int) (st : List jV) (l0 : Option jV) (w : jH) : jblk jT0 176 cl bk (n + 1) 43 [l0] (.inl x :: st) w = if 0 ≤ x ∧ x < 2000 then jnew w (jlen0 (jzero .int) x.toNat) x.toNat fun a w' => jblk jT0 176 cl bk n 45 [l0] (jr a :: st) w' else none := Eq.trans rfl rfl
theorem F176_45 (a : Nat) (v : jV) (st : List jV) (l0 : Option jV) (w : jH) : jblk jT0 176 cl bk (n + 1) 45 [l0] (v :: jr a :: st) w = jpf w a 9 12 (.array .int) v fun w' => jblk jT0 176 cl bk n 48 [l0] st w' := Eq.trans rfl rfl
theorem F176_48 (a : Nat) (st : List jV) (w : jH) : jblk jT0 176 cl bk (n + 1) 48 [some (jr a)] st w = jblk jT0 176 cl bk n 49 [some (jr a)] (jr a :: st) w := Eq.trans rfl rfl
theorem F176_49 (st : List jV) (l0 : Option jV) (w : jH) : jblk jT0 176 cl bk (n + 1) 49 [l0] st w = jblk jT0 176 cl bk n 50 [l0] (.inl (-1) :: st) w := Eq.trans rfl rfl
theorem F176_50 (a : Nat) (v : jV) (st : List jV) (l0 : Option jV) (w : jH) : jblk jT0 176 cl bk (n + 1) 50 [l0] (v :: jr a :: st) w = jpf w a 9 14 .int v fun w' => jblk jT0 176 cl bk n 53 [l0] st w' := Eq.trans rfl rfl
theorem F176_53 (a : Nat) (st : List jV) (w : jH) : jblk jT0 176 cl bk (n + 1) 53 [some (jr a)] st w = jblk jT0 176 cl bk n 54 [some (jr a)] (jr a :: st) w := Eq.trans rfl rfl
theorem F176_54 (st : List jV) (l0 : Option jV) (w : jH) : jblk jT0 176 cl bk (n + 1) 54 [l0] st w = jblk jT0 176 cl bk n 56 [l0] (.inl 60 :: st) w := Eq.trans rfl rfl
theorem F176_56 (x : Int) (st : List jV) (l0 : Option jV) (w : jH) : jblk jT0 176 cl bk (n + 1) 56 [l0] (.inl x :: st) w = if 0 ≤ x ∧ x < 2000 then jnew w (jlen0 (jzero .char) x.toNat) x.toNat fun a w' => jblk jT0 176 cl bk n 58 [l0] (jr a :: st) w' else none := Eq.trans rfl rfl
theorem F176_58 (a : Nat) (v : jV) (st : List jV) (l0 : Option jV) (w : jH) : jblk jT0 176 cl bk (n + 1) 58 [l0] (v :: jr a :: st) w = jpf w a 9 15 (.array .char) v fun w' => jblk jT0 176 cl bk n 61 [l0] st w' := Eq.trans rfl rfl
theorem F176_61 (a : Nat) (st : List jV) (w : jH) : jblk jT0 176 cl bk (n + 1) 61 [some (jr a)] st w = jblk jT0 176 cl bk n 62 [some (jr a)] (jr a :: st) w := Eq.trans rfl rfl
theorem F176_62 (st : List jV) (l0 : Option jV) (w : jH) : jblk jT0 176 cl bk (n + 1) 62 [l0] st w = jblk jT0 176 cl bk n 64 [l0] (.inl 124 :: st) w := Eq.trans rfl rfl
theorem F176_64 (x : Int) (st : List jV) (l0 : Option jV) (w : jH) : jblk jT0 176 cl bk (n + 1) 64 [l0] (.inl x :: st) w = if 0 ≤ x ∧ x < 2000 then jnew w (jlen0 (jzero .int) x.toNat) x.toNat fun a w' => jblk jT0 176 cl bk n 66 [l0] (jr a :: st) w' else none := Eq.trans rfl rfl
theorem F176_66 (a : Nat) (v : jV) (st : List jV) (l0 : Option jV) (w : jH) : jblk jT0 176 cl bk (n + 1) 66 [l0] (v :: jr a :: st) w = jpf w a 9 18 (.array .int) v fun w' => jblk jT0 176 cl bk n 69 [l0] st w' := Eq.trans rfl rfl
theorem F176_69 (l0 : Option jV) (w : jH) : jblk jT0 176 cl bk (n + 1) 69 [l0] [] w = some (.inl none, w) := Eq.trans rfl rfl
theorem F337_0 (st : List jV) (l0 l1 l2 l3 l4 l5 l6 l7 l8 : Option jV) (w : jH) : jblk jT0 337 cl bk (n + 1) 0 [l0, l1, l2, l3, l4, l5, l6, l7, l8] st w = jnew w (.inr (.inl (6, [.inr (.inr .null), .inr (.inr .null), .inr (.inr .null), .inr (.inr .null), .inr (.inr .null), .inl 0, .inr (.inr .null), .inr (.inr .null), .inl 0, .inl 0, .inl 0, .inl 0]))) 12 fun a w' => jblk jT0 337 cl bk n 3 [l0, l1, l2, l3, l4, l5, l6, l7, l8] (jr a :: st) w' := Eq.trans rfl rfl
theorem F337_3 (a : Nat) (st : List jV) (l0 l1 l2 l3 l4 l5 l6 l7 l8 : Option jV) (w : jH) : jblk jT0 337 cl bk (n + 1) 3 [l0, l1, l2, l3, l4, l5, l6, l7, l8] (jr a :: st) w = jblk jT0 337 cl bk n 4 [l0, l1, l2, l3, l4, l5, l6, l7, l8] (jr a :: jr a :: st) w := Eq.trans rfl rfl
theorem F337_4 (a : Nat) (st : List jV) (l0 l1 l2 l3 l4 l5 l6 l7 l8 : Option jV) (w : jH) : jblk jT0 337 cl bk (n + 1) 4 [l0, l1, l2, l3, l4, l5, l6, l7, l8] (jr a :: st) w = jsh st (jcl (cl 101 [jr a] w) (fun v w' => jblk jT0 337 cl bk n 7 [l0, l1, l2, l3, l4, l5, l6, l7, l8] (jpush v st) w') (fun E w' => some (.inr E, w'))) := Eq.trans rfl rfl
theorem F337_7 (a : Nat) (st : List jV) (l0 l1 l2 l3 l4 l5 l6 l7 l8 : Option jV) (w : jH) : jblk jT0 337 cl bk (n + 1) 7 [l0, l1, l2, l3, l4, l5, l6, l7, l8] (jr a :: st) w = jblk jT0 337 cl bk n 8 [l0, some (jr a), l2, l3, l4, l5, l6, l7, l8] st w := Eq.trans rfl rfl
theorem F337_8 (st : List jV) (l0 l1 l2 l3 l4 l5 l6 l7 l8 : Option jV) (w : jH) : jblk jT0 337 cl bk (n + 1) 8 [l0, l1, l2, l3, l4, l5, l6, l7, l8] st w = jnew w (.inr (.inl (9, [.inr (.inr .null), .inr (.inr .null), .inr (.inr .null), .inr (.inr .null), .inl 0, .inl 0, .inl 0, .inl 0, .inl 0, .inl 0, .inl 0, .inl 0, .inr (.inr .null), .inl 0, .inl 0, .inr (.inr .null), .inl 0, .inl 0, .inr (.inr .null), .inl 0]))) 20 fun a w' => jblk jT0 337 cl bk n 11 [l0, l1, l2, l3, l4, l5, l6, l7, l8] (jr a :: st) w' := Eq.trans rfl rfl
theorem F337_11 (a : Nat) (st : List jV) (l0 l1 l2 l3 l4 l5 l6 l7 l8 : Option jV) (w : jH) : jblk jT0 337 cl bk (n + 1) 11 [l0, l1, l2, l3, l4, l5, l6, l7, l8] (jr a :: st) w = jblk jT0 337 cl bk n 12 [l0, l1, l2, l3, l4, l5, l6, l7, l8] (jr a :: jr a :: st) w := Eq.trans rfl rfl
theorem F337_12 (a : Nat) (st : List jV) (l0 l1 l2 l3 l4 l5 l6 l7 l8 : Option jV) (w : jH) : jblk jT0 337 cl bk (n + 1) 12 [l0, l1, l2, l3, l4, l5, l6, l7, l8] (jr a :: st) w = jsh st (jcl (cl 176 [jr a] w) (fun v w' => jblk jT0 337 cl bk n 15 [l0, l1, l2, l3, l4, l5, l6, l7, l8] (jpush v st) w') (fun E w' => some (.inr E, w'))) := Eq.trans rfl rfl
theorem F337_15 (a : Nat) (st : List jV) (l0 l1 l2 l3 l4 l5 l6 l7 l8 : Option jV) (w : jH) : jblk jT0 337 cl bk (n + 1) 15 [l0, l1, l2, l3, l4, l5, l6, l7, l8] (jr a :: st) w = jblk jT0 337 cl bk n 16 [l0, l1, some (jr a), l3, l4, l5, l6, l7, l8] st w := Eq.trans rfl rfl
theorem F337_16 (st : List jV) (l0 l1 l2 l3 l4 l5 l6 l7 l8 : Option jV) (w : jH) : jblk jT0 337 cl bk (n + 1) 16 [l0, l1, l2, l3, l4, l5, l6, l7, l8] st w = jblk jT0 337 cl bk n 17 [l0, l1, l2, l3, l4, l5, l6, l7, l8] (.inl 1 :: st) w := Eq.trans rfl rfl
theorem F337_17 (x : Int) (st : List jV) (l0 l1 l2 l3 l4 l5 l6 l7 l8 : Option jV) (w : jH) : jblk jT0 337 cl bk (n + 1) 17 [l0, l1, l2, l3, l4, l5, l6, l7, l8] (.inl x :: st) w = if 0 ≤ x ∧ x < 2000 then jnew w (jlen0 (jzero .long) x.toNat) x.toNat fun a w' => jblk jT0 337 cl bk n 19 [l0, l1, l2, l3, l4, l5, l6, l7, l8] (jr a :: st) w' else none := Eq.trans rfl rfl
theorem F337_19 (a : Nat) (st : List jV) (l0 l1 l2 l3 l4 l5 l6 l7 l8 : Option jV) (w : jH) : jblk jT0 337 cl bk (n + 1) 19 [l0, l1, l2, l3, l4, l5, l6, l7, l8] (jr a :: st) w = jblk jT0 337 cl bk n 20 [l0, l1, l2, some (jr a), l4, l5, l6, l7, l8] st w := Eq.trans rfl rfl
theorem F337_20 (st : List jV) (l0 l1 l2 l3 l4 l5 l6 l7 l8 : Option jV) (w : jH) : jblk jT0 337 cl bk (n + 1) 20 [l0, l1, l2, l3, l4, l5, l6, l7, l8] st w = jblk jT0 337 cl bk n 21 [l0, l1, l2, l3, l4, l5, l6, l7, l8] (.inl 1 :: st) w := Eq.trans rfl rfl
theorem F337_21 (x : Int) (st : List jV) (l0 l1 l2 l3 l4 l5 l6 l7 l8 : Option jV) (w : jH) : jblk jT0 337 cl bk (n + 1) 21 [l0, l1, l2, l3, l4, l5, l6, l7, l8] (.inl x :: st) w = if 0 ≤ x ∧ x < 2000 then jnew w (jlen0 (jzero .double) x.toNat) x.toNat fun a w' => jblk jT0 337 cl bk n 23 [l0, l1, l2, l3, l4, l5, l6, l7, l8] (jr a :: st) w' else none := Eq.trans rfl rfl
theorem F337_23 (a : Nat) (st : List jV) (l0 l1 l2 l3 l4 l5 l6 l7 l8 : Option jV) (w : jH) : jblk jT0 337 cl bk (n + 1) 23 [l0, l1, l2, l3, l4, l5, l6, l7, l8] (jr a :: st) w = jblk jT0 337 cl bk n 25 [l0, l1, l2, l3, some (jr a), l5, l6, l7, l8] st w := Eq.trans rfl rfl
theorem F337_25 (st : List jV) (l0 l1 l2 l3 l4 l5 l6 l7 l8 : Option jV) (w : jH) : jblk jT0 337 cl bk (n + 1) 25 [l0, l1, l2, l3, l4, l5, l6, l7, l8] st w = jblk jT0 337 cl bk n 26 [l0, l1, l2, l3, l4, l5, l6, l7, l8] (.inl 0 :: st) w := Eq.trans rfl rfl
theorem F337_26 (x : Int) (st : List jV) (l0 l1 l2 l3 l4 l5 l6 l7 l8 : Option jV) (w : jH) : jblk jT0 337 cl bk (n + 1) 26 [l0, l1, l2, l3, l4, l5, l6, l7, l8] (.inl x :: st) w = bk 28 [l0, l1, l2, l3, l4, some (.inl x), l6, l7, l8] st w := Eq.trans rfl rfl
end
set_option maxRecDepth 20000 in
set_option maxHeartbeats 1600000 in
theorem C0 (d n0 : Nat) (B : Nat → Option jE) (p : List jE) (c s : Nat) : jme jT0 jMx (d + 1) 0 [jr (n0 + (p.length + 0))] (hz n0 B p ([.inr (.inl (0, [.inr (.inr .null), .inr (.inr .null), .inr (.inr .null), .inr (.inr .null), .inl 0]))]), (some (n0 + (p.length + 1)), (c, s))) = some (.inl none, (hz n0 B p (bkP n0 p.length), (some (n0 + (p.length + 5)), (c + 4, s + 64)))) := by
  refine ((show _ = jlp jT0 0 (jme jT0 jMx d) 100000 0 [some (jr (n0 + (p.length + 0)))] [] _ from rfl).trans jlp_s).trans ?_
  refine (F0_0 ..).trans ?_
  refine (F0_1 ..).trans ?_
  refine (jsh_n _).trans ?_
  refine (F0_4 ..).trans ?_
  refine (F0_5 ..).trans ?_
  refine (F0_7 ..).trans ?_
  refine hz_na (by decide) (by decide) ?_
  refine hz_new.trans ?_
  refine (F0_9 ..).trans ?_
  refine (hz_pf rfl (Nat.le_of_ble_eq_true rfl) rfl).trans ?_
  refine (F0_12 ..).trans ?_
  refine (F0_13 ..).trans ?_
  refine (F0_15 ..).trans ?_
  refine hz_na (by decide) (by decide) ?_
  refine hz_new.trans ?_
  refine (F0_17 ..).trans ?_
  refine (hz_pf rfl (Nat.le_of_ble_eq_true rfl) rfl).trans ?_
  refine (F0_20 ..).trans ?_
  refine (F0_21 ..).trans ?_
  refine (F0_23 ..).trans ?_
  refine hz_na (by decide) (by decide) ?_
  refine hz_new.trans ?_
  refine (F0_25 ..).trans ?_
  refine (hz_pf rfl (Nat.le_of_ble_eq_true rfl) rfl).trans ?_
  refine (F0_28 ..).trans ?_
  refine (F0_29 ..).trans ?_
  refine (F0_31 ..).trans ?_
  refine hz_na (by decide) (by decide) ?_
  refine hz_new.trans ?_
  refine (F0_33 ..).trans ?_
  refine (hz_pf rfl (Nat.le_of_ble_eq_true rfl) rfl).trans ?_
  refine (F0_36 ..).trans ?_
  rfl
theorem C0c {d n0 : Nat} {B : Nat → Option jE} {p : List jE} {c s : Nat} (l1 : List jE) : jme jT0 jMx (d + 1) 0 [jr (n0 + (p.length + l1.length))] (hz n0 B p (l1 ++ [.inr (.inl (0, [.inr (.inr .null), .inr (.inr .null), .inr (.inr .null), .inr (.inr .null), .inl 0]))]), (some (n0 + (p.length + (l1.length + 1))), (c, s))) = some (.inl none, (hz n0 B p (l1 ++ bkP n0 (p.length + l1.length)), (some (n0 + (p.length + (l1.length + 5))), (c + 4, s + 64)))) := by
  have h := C0 d n0 B (p ++ l1) c s
  simp only [hz_app, List.length_append, Nat.add_assoc, Nat.add_zero] at h
  exact h
set_option maxRecDepth 20000 in
set_option maxHeartbeats 1600000 in
theorem C24 (d n0 : Nat) (B : Nat → Option jE) (p : List jE) (c s : Nat) : jme jT0 jMx (d + 1) 24 [jr (n0 + (p.length + 0))] (hz n0 B p ([.inr (.inl (1, [.inr (.inr .null), .inr (.inr .null), .inr (.inr .null), .inr (.inr .null), .inr (.inr .null), .inl 0, .inl 0, .inl 0, .inl 0]))]), (some (n0 + (p.length + 1)), (c, s))) = some (.inl none, (hz n0 B p (bkH n0 p.length), (some (n0 + (p.length + 6)), (c + 5, s + 100)))) := by
  refine ((show _ = jlp jT0 24 (jme jT0 jMx d) 100000 0 [some (jr (n0 + (p.length + 0)))] [] _ from rfl).trans jlp_s).trans ?_
  refine (F24_0 ..).trans ?_
  refine (F24_1 ..).trans ?_
  refine (jsh_n _).trans ?_
  refine (F24_4 ..).trans ?_
  refine (F24_5 ..).trans ?_
  refine (F24_7 ..).trans ?_
  refine hz_na (by decide) (by decide) ?_
  refine hz_new.trans ?_
  refine (F24_9 ..).trans ?_
  refine (hz_pf rfl (Nat.le_of_ble_eq_true rfl) rfl).trans ?_
  refine (F24_12 ..).trans ?_
  refine (F24_13 ..).trans ?_
  refine (F24_15 ..).trans ?_
  refine hz_na (by decide) (by decide) ?_
  refine hz_new.trans ?_
  refine (F24_17 ..).trans ?_
  refine (hz_pf rfl (Nat.le_of_ble_eq_true rfl) rfl).trans ?_
  refine (F24_20 ..).trans ?_
  refine (F24_21 ..).trans ?_
  refine (F24_23 ..).trans ?_
  refine hz_na (by decide) (by decide) ?_
  refine hz_new.trans ?_
  refine (F24_25 ..).trans ?_
  refine (hz_pf rfl (Nat.le_of_ble_eq_true rfl) rfl).trans ?_
  refine (F24_28 ..).trans ?_
  refine (F24_29 ..).trans ?_
  refine (F24_31 ..).trans ?_
  refine hz_na (by decide) (by decide) ?_
  refine hz_new.trans ?_
  refine (F24_33 ..).trans ?_
  refine (hz_pf rfl (Nat.le_of_ble_eq_true rfl) rfl).trans ?_
  refine (F24_36 ..).trans ?_
  refine (F24_37 ..).trans ?_
  refine (F24_39 ..).trans ?_
  refine hz_na (by decide) (by decide) ?_
  refine hz_new.trans ?_
  refine (F24_41 ..).trans ?_
  refine (hz_pf rfl (Nat.le_of_ble_eq_true rfl) rfl).trans ?_
  refine (F24_44 ..).trans ?_
  rfl
theorem C24c {d n0 : Nat} {B : Nat → Option jE} {p : List jE} {c s : Nat} (l1 : List jE) : jme jT0 jMx (d + 1) 24 [jr (n0 + (p.length + l1.length))] (hz n0 B p (l1 ++ [.inr (.inl (1, [.inr (.inr .null), .inr (.inr .null), .inr (.inr .null), .inr (.inr .null), .inr (.inr .null), .inl 0, .inl 0, .inl 0, .inl 0]))]), (some (n0 + (p.length + (l1.length + 1))), (c, s))) = some (.inl none, (hz n0 B p (l1 ++ bkH n0 (p.length + l1.length)), (some (n0 + (p.length + (l1.length + 6))), (c + 5, s + 100)))) := by
  have h := C24 d n0 B (p ++ l1) c s
  simp only [hz_app, List.length_append, Nat.add_assoc, Nat.add_zero] at h
  exact h
set_option maxRecDepth 20000 in
set_option maxHeartbeats 1600000 in
theorem C49 (d n0 : Nat) (B : Nat → Option jE) (p : List jE) (c s : Nat) : jme jT0 jMx (d + 1) 49 [jr (n0 + (p.length + 0))] (hz n0 B p ([.inr (.inl (2, [.inr (.inr .null), .inr (.inr .null), .inl 0]))]), (some (n0 + (p.length + 1)), (c, s))) = some (.inl none, (hz n0 B p (bkQ n0 p.length), (some (n0 + (p.length + 3)), (c + 2, s + 32)))) := by
  refine ((show _ = jlp jT0 49 (jme jT0 jMx d) 100000 0 [some (jr (n0 + (p.length + 0)))] [] _ from rfl).trans jlp_s).trans ?_
  refine (F49_0 ..).trans ?_
  refine (F49_1 ..).trans ?_
  refine (jsh_n _).trans ?_
  refine (F49_4 ..).trans ?_
  refine (F49_5 ..).trans ?_
  refine (F49_7 ..).trans ?_
  refine hz_na (by decide) (by decide) ?_
  refine hz_new.trans ?_
  refine (F49_9 ..).trans ?_
  refine (hz_pf rfl (Nat.le_of_ble_eq_true rfl) rfl).trans ?_
  refine (F49_12 ..).trans ?_
  refine (F49_13 ..).trans ?_
  refine (F49_15 ..).trans ?_
  refine hz_na (by decide) (by decide) ?_
  refine hz_new.trans ?_
  refine (F49_17 ..).trans ?_
  refine (hz_pf rfl (Nat.le_of_ble_eq_true rfl) rfl).trans ?_
  refine (F49_20 ..).trans ?_
  rfl
theorem C49c {d n0 : Nat} {B : Nat → Option jE} {p : List jE} {c s : Nat} (l1 : List jE) : jme jT0 jMx (d + 1) 49 [jr (n0 + (p.length + l1.length))] (hz n0 B p (l1 ++ [.inr (.inl (2, [.inr (.inr .null), .inr (.inr .null), .inl 0]))]), (some (n0 + (p.length + (l1.length + 1))), (c, s))) = some (.inl none, (hz n0 B p (l1 ++ bkQ n0 (p.length + l1.length)), (some (n0 + (p.length + (l1.length + 3))), (c + 2, s + 32)))) := by
  have h := C49 d n0 B (p ++ l1) c s
  simp only [hz_app, List.length_append, Nat.add_assoc, Nat.add_zero] at h
  exact h
set_option maxRecDepth 20000 in
set_option maxHeartbeats 1600000 in
theorem C80 (d n0 : Nat) (B : Nat → Option jE) (p : List jE) (c s : Nat) : jme jT0 jMx (d + 1) 80 [jr (n0 + (p.length + 0))] (hz n0 B p ([.inr (.inl (5, [.inr (.inr .null), .inl 0, .inl 0, .inr (.inr .null), .inr (.inr .null), .inr (.inr .null), .inr (.inr .null), .inl 0]))]), (some (n0 + (p.length + 1)), (c, s))) = some (.inl none, (hz n0 B p (bkC n0 p.length), (some (n0 + (p.length + 6)), (c + 5, s + 300)))) := by
  refine ((show _ = jlp jT0 80 (jme jT0 jMx d) 100000 0 [some (jr (n0 + (p.length + 0)))] [] _ from rfl).trans jlp_s).trans ?_
  refine (F80_0 ..).trans ?_
  refine (F80_1 ..).trans ?_
  refine (jsh_n _).trans ?_
  refine (F80_4 ..).trans ?_
  refine (F80_5 ..).trans ?_
  refine (F80_7 ..).trans ?_
  refine hz_na (by decide) (by decide) ?_
  refine hz_new.trans ?_
  refine (F80_9 ..).trans ?_
  refine (hz_pf rfl (Nat.le_of_ble_eq_true rfl) rfl).trans ?_
  refine (F80_12 ..).trans ?_
  refine (F80_13 ..).trans ?_
  refine (F80_15 ..).trans ?_
  refine hz_na (by decide) (by decide) ?_
  refine hz_new.trans ?_
  refine (F80_17 ..).trans ?_
  refine (hz_pf rfl (Nat.le_of_ble_eq_true rfl) rfl).trans ?_
  refine (F80_20 ..).trans ?_
  refine (F80_21 ..).trans ?_
  refine (F80_23 ..).trans ?_
  refine hz_na (by decide) (by decide) ?_
  refine hz_new.trans ?_
  refine (F80_25 ..).trans ?_
  refine (hz_pf rfl (Nat.le_of_ble_eq_true rfl) rfl).trans ?_
  refine (F80_28 ..).trans ?_
  refine (F80_29 ..).trans ?_
  refine (F80_31 ..).trans ?_
  refine hz_na (by decide) (by decide) ?_
  refine hz_new.trans ?_
  refine (F80_33 ..).trans ?_
  refine (hz_pf rfl (Nat.le_of_ble_eq_true rfl) rfl).trans ?_
  refine (F80_36 ..).trans ?_
  refine (F80_37 ..).trans ?_
  refine (F80_39 ..).trans ?_
  refine hz_na (by decide) (by decide) ?_
  refine hz_new.trans ?_
  refine (F80_41 ..).trans ?_
  refine (hz_pf rfl (Nat.le_of_ble_eq_true rfl) rfl).trans ?_
  refine (F80_44 ..).trans ?_
  rfl
theorem C80c {d n0 : Nat} {B : Nat → Option jE} {p : List jE} {c s : Nat} (l1 : List jE) : jme jT0 jMx (d + 1) 80 [jr (n0 + (p.length + l1.length))] (hz n0 B p (l1 ++ [.inr (.inl (5, [.inr (.inr .null), .inl 0, .inl 0, .inr (.inr .null), .inr (.inr .null), .inr (.inr .null), .inr (.inr .null), .inl 0]))]), (some (n0 + (p.length + (l1.length + 1))), (c, s))) = some (.inl none, (hz n0 B p (l1 ++ bkC n0 (p.length + l1.length)), (some (n0 + (p.length + (l1.length + 6))), (c + 5, s + 300)))) := by
  have h := C80 d n0 B (p ++ l1) c s
  simp only [hz_app, List.length_append, Nat.add_assoc, Nat.add_zero] at h
  exact h
set_option maxRecDepth 20000 in
set_option maxHeartbeats 1600000 in
theorem C95 (d n0 : Nat) (B : Nat → Option jE) (p : List jE) (c s : Nat) : jme jT0 jMx (d + 1) 95 [jr (n0 + (p.length + 0))] (hz n0 B p ([.inr (.inl (4, [.inr (.inr .null), .inl 0]))]), (some (n0 + (p.length + 1)), (c, s))) = some (.inl none, (hz n0 B p (bkO n0 p.length), (some (n0 + (p.length + 2)), (c + 1, s + 60)))) := by
  refine ((show _ = jlp jT0 95 (jme jT0 jMx d) 100000 0 [some (jr (n0 + (p.length + 0)))] [] _ from rfl).trans jlp_s).trans ?_
  refine (F95_0 ..).trans ?_
  refine (F95_1 ..).trans ?_
  refine (jsh_n _).trans ?_
  refine (F95_4 ..).trans ?_
  refine (F95_5 ..).trans ?_
  refine (F95_7 ..).trans ?_
  refine hz_na (by decide) (by decide) ?_
  refine hz_new.trans ?_
  refine (F95_9 ..).trans ?_
  refine (hz_pf rfl (Nat.le_of_ble_eq_true rfl) rfl).trans ?_
  refine (F95_12 ..).trans ?_
  rfl
theorem C95c {d n0 : Nat} {B : Nat → Option jE} {p : List jE} {c s : Nat} (l1 : List jE) : jme jT0 jMx (d + 1) 95 [jr (n0 + (p.length + l1.length))] (hz n0 B p (l1 ++ [.inr (.inl (4, [.inr (.inr .null), .inl 0]))]), (some (n0 + (p.length + (l1.length + 1))), (c, s))) = some (.inl none, (hz n0 B p (l1 ++ bkO n0 (p.length + l1.length)), (some (n0 + (p.length + (l1.length + 2))), (c + 1, s + 60)))) := by
  have h := C95 d n0 B (p ++ l1) c s
  simp only [hz_app, List.length_append, Nat.add_assoc, Nat.add_zero] at h
  exact h
set_option maxRecDepth 20000 in
set_option maxHeartbeats 1600000 in
theorem C176 (d n0 : Nat) (B : Nat → Option jE) (p : List jE) (c s : Nat) : jme jT0 jMx (d + 1) 176 [jr (n0 + (p.length + 0))] (hz n0 B p ([.inr (.inl (9, [.inr (.inr .null), .inr (.inr .null), .inr (.inr .null), .inr (.inr .null), .inl 0, .inl 0, .inl 0, .inl 0, .inl 0, .inl 0, .inl 0, .inl 0, .inr (.inr .null), .inl 0, .inl 0, .inr (.inr .null), .inl 0, .inl 0, .inr (.inr .null), .inl 0]))]), (some (n0 + (p.length + 1)), (c, s))) = some (.inl none, (hz n0 B p (bkM n0 p.length), (some (n0 + (p.length + 8)), (c + 7, s + 1762)))) := by
  refine ((show _ = jlp jT0 176 (jme jT0 jMx d) 100000 0 [some (jr (n0 + (p.length + 0)))] [] _ from rfl).trans jlp_s).trans ?_
  refine (F176_0 ..).trans ?_
  refine (F176_1 ..).trans ?_
  refine (jsh_n _).trans ?_
  refine (F176_4 ..).trans ?_
  refine (F176_5 ..).trans ?_
  refine (F176_8 ..).trans ?_
  refine hz_na (by decide) (by decide) ?_
  refine hz_new.trans ?_
  refine (F176_10 ..).trans ?_
  refine (hz_pf rfl (Nat.le_of_ble_eq_true rfl) rfl).trans ?_
  refine (F176_13 ..).trans ?_
  refine (F176_14 ..).trans ?_
  refine (F176_17 ..).trans ?_
  refine hz_na (by decide) (by decide) ?_
  refine hz_new.trans ?_
  refine (F176_19 ..).trans ?_
  refine (hz_pf rfl (Nat.le_of_ble_eq_true rfl) rfl).trans ?_
  refine (F176_22 ..).trans ?_
  refine (F176_23 ..).trans ?_
  refine (F176_26 ..).trans ?_
  refine hz_na (by decide) (by decide) ?_
  refine hz_new.trans ?_
  refine (F176_28 ..).trans ?_
  refine (hz_pf rfl (Nat.le_of_ble_eq_true rfl) rfl).trans ?_
  refine (F176_31 ..).trans ?_
  refine (F176_32 ..).trans ?_
  refine (F176_35 ..).trans ?_
  refine hz_na (by decide) (by decide) ?_
  refine hz_new.trans ?_
  refine (F176_37 ..).trans ?_
  refine (hz_pf rfl (Nat.le_of_ble_eq_true rfl) rfl).trans ?_
  refine (F176_40 ..).trans ?_
  refine (F176_41 ..).trans ?_
  refine (F176_43 ..).trans ?_
  refine hz_na (by decide) (by decide) ?_
  refine hz_new.trans ?_
  refine (F176_45 ..).trans ?_
  refine (hz_pf rfl (Nat.le_of_ble_eq_true rfl) rfl).trans ?_
  refine (F176_48 ..).trans ?_
  refine (F176_49 ..).trans ?_
  refine (F176_50 ..).trans ?_
  refine (hz_pf rfl (Nat.le_of_ble_eq_true rfl) rfl).trans ?_
  refine (F176_53 ..).trans ?_
  refine (F176_54 ..).trans ?_
  refine (F176_56 ..).trans ?_
  refine hz_na (by decide) (by decide) ?_
  refine hz_new.trans ?_
  refine (F176_58 ..).trans ?_
  refine (hz_pf rfl (Nat.le_of_ble_eq_true rfl) rfl).trans ?_
  refine (F176_61 ..).trans ?_
  refine (F176_62 ..).trans ?_
  refine (F176_64 ..).trans ?_
  refine hz_na (by decide) (by decide) ?_
  refine hz_new.trans ?_
  refine (F176_66 ..).trans ?_
  refine (hz_pf rfl (Nat.le_of_ble_eq_true rfl) rfl).trans ?_
  refine (F176_69 ..).trans ?_
  rfl
theorem C176c {d n0 : Nat} {B : Nat → Option jE} {p : List jE} {c s : Nat} (l1 : List jE) : jme jT0 jMx (d + 1) 176 [jr (n0 + (p.length + l1.length))] (hz n0 B p (l1 ++ [.inr (.inl (9, [.inr (.inr .null), .inr (.inr .null), .inr (.inr .null), .inr (.inr .null), .inl 0, .inl 0, .inl 0, .inl 0, .inl 0, .inl 0, .inl 0, .inl 0, .inr (.inr .null), .inl 0, .inl 0, .inr (.inr .null), .inl 0, .inl 0, .inr (.inr .null), .inl 0]))]), (some (n0 + (p.length + (l1.length + 1))), (c, s))) = some (.inl none, (hz n0 B p (l1 ++ bkM n0 (p.length + l1.length)), (some (n0 + (p.length + (l1.length + 8))), (c + 7, s + 1762)))) := by
  have h := C176 d n0 B (p ++ l1) c s
  simp only [hz_app, List.length_append, Nat.add_assoc, Nat.add_zero] at h
  exact h

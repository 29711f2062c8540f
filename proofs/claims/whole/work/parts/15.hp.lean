/-! ===== the heap of a run, as one table of ints ===== -/
/-- the heap's size at the entry, the script's cell, length and ints -/
abbrev jCf : Type := Nat × (Nat × (Nat × (Nat → Int32)))
abbrev jMem : Type := Nat → Nat → Int
/-- the shape of a cell: an array of ints; an object (none: an int, some r: the cell r); the row of states; the array of doubles -/
abbrev jSh : Type := (FieldType × Nat) ⊕ ((Nat × List (Option Nat)) ⊕ Bool)
def jn (cf : jCf) : Nat := cf.1
def jfl (n0 : Nat) (g : Nat → Int) : Nat → List (Option Nat) → List jV
  | _, [] => []
  | j, none :: r => .inl (g j) :: jfl n0 g (j + 1) r
  | j, some q :: r => jr (n0 + q) :: jfl n0 g (j + 1) r
def jcell (cf : jCf) (dv : UInt64) (m : jMem) (q : Nat) (sh : jSh) : jE := match sh with
  | .inl (ty, n) => .inl (ty, (n, m q))
  | .inr (.inl (ci, fl)) => .inr (.inl (ci, jfl (jn cf) (m q) 0 fl))
  | .inr (.inr true) => .inr (.inr (.object "HabitRegistry$State", (9, fun i => if i < 9 then .ref (jn cf + (19 + 12 * i)) else .null)))
  | .inr (.inr false) => .inr (.inr (.double, (1, fun j => if j = 0 then .double dv else .double 0)))
def jly0 : List jSh := [.inr (.inl (6, [some 1, some 13, some 14, some 17, some 127, none, some 139, some 145, none, none, none, none])), .inr (.inl (7, [some 2, some 7, none])), .inr (.inl (0, [some 3, some 4, some 5, some 6, none])), .inl (.int, 16), .inl (.int, 16), .inl (.boolean, 16), .inl (.int, 16), .inr (.inl (1, [some 8, some 9, some 10, some 11, some 12, none, none, none, none])), .inl (.char, 20), .inl (.int, 20), .inl (.int, 20), .inl (.boolean, 20), .inl (.boolean, 20), .inr (.inl (3, [some 2, some 7, some 1, none, none])), .inr (.inl (2, [some 15, some 16, none])), .inl (.int, 16), .inl (.int, 16), .inr (.inl (8, [some 18, none, none])), .inr (.inr true), .inr (.inl (7, [some 20, some 25, none]))]
def jly1 : List jSh := [.inr (.inl (0, [some 21, some 22, some 23, some 24, none])), .inl (.int, 16), .inl (.int, 16), .inl (.boolean, 16), .inl (.int, 16), .inr (.inl (1, [some 26, some 27, some 28, some 29, some 30, none, none, none, none])), .inl (.char, 20), .inl (.int, 20), .inl (.int, 20), .inl (.boolean, 20), .inl (.boolean, 20), .inr (.inl (7, [some 32, some 37, none])), .inr (.inl (0, [some 33, some 34, some 35, some 36, none])), .inl (.int, 16), .inl (.int, 16), .inl (.boolean, 16), .inl (.int, 16), .inr (.inl (1, [some 38, some 39, some 40, some 41, some 42, none, none, none, none])), .inl (.char, 20), .inl (.int, 20)]
def jly2 : List jSh := [.inl (.int, 20), .inl (.boolean, 20), .inl (.boolean, 20), .inr (.inl (7, [some 44, some 49, none])), .inr (.inl (0, [some 45, some 46, some 47, some 48, none])), .inl (.int, 16), .inl (.int, 16), .inl (.boolean, 16), .inl (.int, 16), .inr (.inl (1, [some 50, some 51, some 52, some 53, some 54, none, none, none, none])), .inl (.char, 20), .inl (.int, 20), .inl (.int, 20), .inl (.boolean, 20), .inl (.boolean, 20), .inr (.inl (7, [some 56, some 61, none])), .inr (.inl (0, [some 57, some 58, some 59, some 60, none])), .inl (.int, 16), .inl (.int, 16), .inl (.boolean, 16)]
def jly3 : List jSh := [.inl (.int, 16), .inr (.inl (1, [some 62, some 63, some 64, some 65, some 66, none, none, none, none])), .inl (.char, 20), .inl (.int, 20), .inl (.int, 20), .inl (.boolean, 20), .inl (.boolean, 20), .inr (.inl (7, [some 68, some 73, none])), .inr (.inl (0, [some 69, some 70, some 71, some 72, none])), .inl (.int, 16), .inl (.int, 16), .inl (.boolean, 16), .inl (.int, 16), .inr (.inl (1, [some 74, some 75, some 76, some 77, some 78, none, none, none, none])), .inl (.char, 20), .inl (.int, 20), .inl (.int, 20), .inl (.boolean, 20), .inl (.boolean, 20), .inr (.inl (7, [some 80, some 85, none]))]
def jly4 : List jSh := [.inr (.inl (0, [some 81, some 82, some 83, some 84, none])), .inl (.int, 16), .inl (.int, 16), .inl (.boolean, 16), .inl (.int, 16), .inr (.inl (1, [some 86, some 87, some 88, some 89, some 90, none, none, none, none])), .inl (.char, 20), .inl (.int, 20), .inl (.int, 20), .inl (.boolean, 20), .inl (.boolean, 20), .inr (.inl (7, [some 92, some 97, none])), .inr (.inl (0, [some 93, some 94, some 95, some 96, none])), .inl (.int, 16), .inl (.int, 16), .inl (.boolean, 16), .inl (.int, 16), .inr (.inl (1, [some 98, some 99, some 100, some 101, some 102, none, none, none, none])), .inl (.char, 20), .inl (.int, 20)]
def jly5 : List jSh := [.inl (.int, 20), .inl (.boolean, 20), .inl (.boolean, 20), .inr (.inl (7, [some 104, some 109, none])), .inr (.inl (0, [some 105, some 106, some 107, some 108, none])), .inl (.int, 16), .inl (.int, 16), .inl (.boolean, 16), .inl (.int, 16), .inr (.inl (1, [some 110, some 111, some 112, some 113, some 114, none, none, none, none])), .inl (.char, 20), .inl (.int, 20), .inl (.int, 20), .inl (.boolean, 20), .inl (.boolean, 20), .inr (.inl (7, [some 116, some 121, none])), .inr (.inl (0, [some 117, some 118, some 119, some 120, none])), .inl (.int, 16), .inl (.int, 16), .inl (.boolean, 16)]
def jly6 : List jSh := [.inl (.int, 16), .inr (.inl (1, [some 122, some 123, some 124, some 125, some 126, none, none, none, none])), .inl (.char, 20), .inl (.int, 20), .inl (.int, 20), .inl (.boolean, 20), .inl (.boolean, 20), .inr (.inl (7, [some 128, some 133, none])), .inr (.inl (0, [some 129, some 130, some 131, some 132, none])), .inl (.int, 16), .inl (.int, 16), .inl (.boolean, 16), .inl (.int, 16), .inr (.inl (1, [some 134, some 135, some 136, some 137, some 138, none, none, none, none])), .inl (.char, 20), .inl (.int, 20), .inl (.int, 20), .inl (.boolean, 20), .inl (.boolean, 20), .inr (.inl (5, [some 140, none, none, some 141, some 142, some 143, some 144, none]))]
def jly7 : List jSh := [.inl (.char, 60), .inl (.int, 60), .inl (.int, 60), .inl (.char, 60), .inl (.int, 60), .inr (.inl (4, [some 146, none])), .inl (.char, 60), .inr (.inl (9, [some 148, some 149, some 150, some 151, none, none, none, none, none, none, none, none, some 152, none, none, some 153, none, none, some 154, none])), .inl (.int, 138), .inl (.int, 1104), .inl (.int, 138), .inl (.int, 138), .inl (.int, 60), .inl (.char, 60), .inl (.int, 124), .inl (.long, 1), .inr (.inr false)]
def jlay : List jSh := jly0 ++ (jly1 ++ (jly2 ++ (jly3 ++ (jly4 ++ (jly5 ++ (jly6 ++ (jly7)))))))
def jscr (cf : jCf) : jE := .inr (.inr (.int, (cf.2.2.1, fun j => .int (cf.2.2.2 j))))
def hp (cf : jCf) (dv : UInt64) (m : jMem) : Nat → Option jE := fun q => match Nat.blt q (jn cf) with
  | true => (match Nat.beq q cf.2.1 with | true => some (jscr cf) | false => none)
  | false => (jlay[q - jn cf]?).map (jcell cf dv m (q - jn cf))
def mset (m : jMem) (q j : Nat) (x : Int) : jMem := fun q' j' => if q' = q ∧ j' = j then x else m q' j'
theorem hp_at {cf : jCf} {dv : UInt64} {m : jMem} (q : Nat) {sh : jSh} (h : jlay[q]? = some sh) : hp cf dv m (jn cf + q) = some (jcell cf dv m q sh) := by
  unfold hp
  have h1 : Nat.blt (jn cf + q) (jn cf) = false := by
    rw [← Bool.not_eq_true, Nat.blt_eq]
    omega
  rw [h1, Nat.add_sub_cancel_left, h]
  rfl
theorem mset_row {m : jMem} {q j : Nat} {x : Int} : mset m q j x q = jup (m q) j x := by
  funext j'
  unfold mset jup
  by_cases h : j' = j
  · rw [if_pos ⟨rfl, h⟩, if_pos h]
  · rw [if_neg (fun h' => h h'.2), if_neg h]
theorem mset_ne {m : jMem} {q j q' : Nat} {x : Int} (h : q' ≠ q) : mset m q j x q' = m q' := by
  funext j'
  unfold mset
  rw [if_neg (fun h' => h h'.1)]
theorem jfl_set {n0 : Nat} {g : Nat → Int} {x : Int} : ∀ (fl : List (Option Nat)) (o j : Nat), fl[j]? = some none → (jfl n0 g o fl).set j (.inl x) = jfl n0 (jup g (o + j) x) o fl
  | [], o, j, h => by simp at h
  | a :: r, o, j, h => by
    cases j with
    | zero =>
      have ha : a = none := by simpa using h
      subst ha
      have h2 : ∀ (r : List (Option Nat)) (k : Nat), o < k → jfl n0 (jup g o x) k r = jfl n0 g k r := by
        intro r
        induction r with
        | nil => intro k _; rfl
        | cons b r ih =>
          intro k hk
          cases b with
          | none =>
            unfold jfl
            rw [ih (k + 1) (by omega)]
            unfold jup
            rw [if_neg (by omega)]
          | some q =>
            unfold jfl
            rw [ih (k + 1) (by omega)]
      unfold jfl
      rw [List.set_cons_zero, show o + 0 = o from rfl, h2 r (o + 1) (by omega)]
      unfold jup
      rw [if_pos rfl]
    | succ j =>
      have h3 : r[j]? = some none := by simpa using h
      have h4 := jfl_set (n0 := n0) (g := g) (x := x) r (o + 1) j h3
      rw [show o + (j + 1) = o + 1 + j by omega]
      cases a with
      | none =>
        unfold jfl
        rw [List.set_cons_succ, h4]
        unfold jup
        rw [if_neg (by omega)]
      | some q =>
        unfold jfl
        rw [List.set_cons_succ, h4]
theorem hp_set {cf : jCf} {dv : UInt64} {m m' : jMem} {q : Nat} {sh : jSh} {e : jE} {k : jM} (h : jlay[q]? = some sh) (he : e = jcell cf dv m' q sh) (hne : ∀ q', q' ≠ q → m' q' = m q') : jset (hp cf dv m, k) (jn cf + q) e = (hp cf dv m', k) := by
  unfold jset
  refine Prod.ext ?_ rfl
  funext p
  show (if p = jn cf + q then some e else hp cf dv m p) = hp cf dv m' p
  by_cases hp' : p = jn cf + q
  · rw [if_pos hp', hp', hp_at q h, he]
  · rw [if_neg hp']
    unfold hp
    cases hb : Nat.blt p (jn cf) with
    | true => rfl
    | false =>
      have h1 : ¬ p < jn cf := by
        intro h2
        rw [← Nat.blt_eq] at h2
        rw [h2] at hb
        cases hb
      have h2 : m' (p - jn cf) = m (p - jn cf) := hne _ (by omega)
      have h3 : jcell cf dv m (p - jn cf) = jcell cf dv m' (p - jn cf) := by
        funext sh'
        unfold jcell
        rw [h2]
      show Option.map _ _ = Option.map _ _
      rw [h3]
/-! what the interpreter's heap steps do there -/
def jgf (w : jH) (a ci k : Nat) (f : jV → jR) : jR := jgo w a ci fun fs => jfld fs k f
def jpf (w : jH) (a ci k : Nat) (ty : FieldType) (v : jV) (f : jH → jR) : jR := jgo w a ci fun fs => if k < fs.length ∧ jsv ty v = true then f (jset w a (.inr (.inl (ci, fs.set k v)))) else none
def jgi (w : jH) (a : Nat) (ty : FieldType) (x : Int) (f : Int → jR) : jR := jga w a ty fun k g => jix x k (f (g x.toNat))
def jai (w : jH) (a : Nat) (ty : FieldType) (x y : Int) (f : jH → jR) : jR := jga w a ty fun k g => jix x k (if jfits ty y = true then f (jset w a (.inl (ty, (k, jup g x.toNat y)))) else none)
def jal (w : jH) (a : Nat) (x y : Int) (f : jH → jR) : jR := jga w a .long fun k g => jix x k (f (jset w a (.inl (.long, (k, jup g x.toNat y)))))
def jgs (w : jH) (a : Nat) (x : Int) (f : Nat → jR) : jR := jgq w a fun ty k g => if ty = .object "HabitRegistry$State" then jix x k (jvR (g x.toNat) f) else none
def oix {β : Type} (x : Int) (n : Nat) (r : Option β) : Option β := if 0 ≤ x ∧ x < (n : Int) then r else none
def obt {β : Type} (x : Int) (r : Option β) : Option β := if (x == 0 || x == 1) = true then r else none
def och {β : Type} (x : Int) (r : Option β) : Option β := if 0 ≤ x ∧ x < 65536 then r else none
theorem jix_o (x : Int) (n : Nat) (r : jR) : jix x n r = oix x n r := rfl
section HpRules
variable {cf : jCf} {dv : UInt64} {m : jMem} {k : jM}
theorem jgo_hp (q ci : Nat) {fl : List (Option Nat)} (h : jlay[q]? = some (.inr (.inl (ci, fl)))) (f : List jV → jR) : jgo (hp cf dv m, k) (jn cf + q) ci f = f (jfl (jn cf) (m q) 0 fl) := by
  unfold jgo
  show (match hp cf dv m (jn cf + q) with | some (.inr (.inl (c, fs))) => if c = ci then f fs else none | _ => none) = _
  rw [hp_at q h]
  exact if_pos rfl
theorem jpf_hp (q ci j : Nat) {fl : List (Option Nat)} {ty : FieldType} {x : Int} (h : jlay[q]? = some (.inr (.inl (ci, fl)))) (hj : fl[j]? = some none) (hl : j < (jfl (jn cf) (m q) 0 fl).length) (f : jH → jR) : jpf (hp cf dv m, k) (jn cf + q) ci j ty (.inl x) f = if jfits ty x = true then f (hp cf dv (mset m q j x), k) else none := by
  unfold jpf
  rw [jgo_hp q ci h]
  show (if j < (jfl (jn cf) (m q) 0 fl).length ∧ jfits ty x = true then _ else none) = _
  by_cases hx : jfits ty x = true
  · rw [if_pos ⟨hl, hx⟩, if_pos hx, hp_set (m' := mset m q j x) h (by
      rw [jfl_set fl 0 j hj, Nat.zero_add, ← mset_row]
      rfl) (fun q' hq => mset_ne hq)]
  · rw [if_neg (fun h' => hx h'.2), if_neg hx]
theorem jga_hp (q : Nat) {ty : FieldType} {n : Nat} (h : jlay[q]? = some (.inl (ty, n))) (f : Nat → (Nat → Int) → jR) : jga (hp cf dv m, k) (jn cf + q) ty f = f n (m q) := by
  unfold jga
  show (match hp cf dv m (jn cf + q) with | some (.inl (t, (n, g))) => if t = ty then f n g else none | _ => none) = _
  rw [hp_at q h]
  exact if_pos rfl
theorem jgi_hp (q : Nat) {ty : FieldType} {n : Nat} (h : jlay[q]? = some (.inl (ty, n))) (x : Int) (f : Int → jR) : jgi (hp cf dv m, k) (jn cf + q) ty x f = oix x n (f (m q x.toNat)) := by
  unfold jgi
  rw [jga_hp q h]
  rfl
theorem jlda_hp (q : Nat) {n : Nat} (h : jlay[q]? = some (.inl (.int, n))) (x : Int) (f : Int → jR) : jlda (hp cf dv m, k) (jn cf + q) x f = oix x n (f (m q x.toNat)) := by
  unfold jlda
  show (match hp cf dv m (jn cf + q) with | some (.inl (.int, (n, g))) => jix x n (f (g x.toNat)) | some (.inr (.inr (.int, (n, g)))) => jix x n (match g x.toNat with | .int y => f y.toInt | _ => none) | _ => none) = _
  rw [hp_at q h]
  rfl
theorem jai_hp (q : Nat) {ty : FieldType} {n : Nat} (h : jlay[q]? = some (.inl (ty, n))) (x y : Int) (f : jH → jR) : jai (hp cf dv m, k) (jn cf + q) ty x y f = oix x n (if jfits ty y = true then f (hp cf dv (mset m q x.toNat y), k) else none) := by
  unfold jai
  rw [jga_hp q h, hp_set (m' := mset m q x.toNat y) h (by
    show _ = Sum.inl _
    rw [mset_row]) (fun q' hq => mset_ne hq)]
  rfl
theorem jal_hp (q : Nat) {n : Nat} (h : jlay[q]? = some (.inl (.long, n))) (x y : Int) (f : jH → jR) : jal (hp cf dv m, k) (jn cf + q) x y f = oix x n (f (hp cf dv (mset m q x.toNat y), k)) := by
  unfold jal
  rw [jga_hp q h, hp_set (m' := mset m q x.toNat y) h (by
    show _ = Sum.inl _
    rw [mset_row]) (fun q' hq => mset_ne hq)]
  rfl
theorem jgs_hp (x : Int) (f : Nat → jR) : jgs (hp cf dv m, k) (jn cf + 18) x f = oix x 9 (f (jn cf + (19 + 12 * x.toNat))) := by
  unfold jgs jgq
  show (match hp cf dv m (jn cf + 18) with | some (.inr (.inr (t, (n, g)))) => (if t = FieldType.object "HabitRegistry$State" then jix x n (jvR (g x.toNat) f) else none) | _ => none) = _
  rw [hp_at 18 rfl]
  refine (if_pos rfl).trans ?_
  unfold jix oix
  by_cases h : 0 ≤ x ∧ x < ((9 : Nat) : Int)
  · rw [if_pos h, if_pos h]
    show jvR (if x.toNat < 9 then .ref (jn cf + (19 + 12 * x.toNat)) else .null) f = _
    rw [if_pos (by omega)]
    rfl
  · rw [if_neg h, if_neg h]
theorem jbit (x : Int) (r : jR) : (if jfits .boolean x = true then r else none) = obt x r := rfl
theorem jchr (x : Int) (r : jR) : (if jfits .char x = true then r else none) = och x r := by
  unfold och
  by_cases h : 0 ≤ x ∧ x < 65536
  · rw [if_pos h, if_pos (by
      show (Nat.ble 0 x.toNat && (decide (0 ≤ x) && decide (x < 65536))) = true
      simp [h.1, h.2])]
  · rw [if_neg h, if_neg (fun h' => h (by
      have h2 : (Nat.ble 0 x.toNat && (decide (0 ≤ x) && decide (x < 65536))) = true := h'
      simp only [Bool.and_eq_true, decide_eq_true_eq] at h2
      exact h2.2))]
theorem jint (x : Int) (r : jR) : (if jfits .int x = true then r else none) = r := if_pos rfl
end HpRules

/-! ===== switches and loops, for the rows of instructions ===== -/
theorem jlp_s {mu : Nat} {cl : Nat → List jV → jH → jR} {N pc : Nat} {ls : jL} {st : List jV} {w : jH} : jlp jT0 mu cl (N + 1) pc ls st w = jblk jT0 mu cl (jlp jT0 mu cl N) 4000 pc ls st w := rfl
theorem lsw_cons (f : Int → jR) (a o : Int) (r : List (Int × Int)) (d x : Int) : f (Op.lookupswitch.offset ((a, o) :: r) d x) = if x = a then f o else f (Op.lookupswitch.offset r d x) := by
  rw [Op.lookupswitch.offset_cons]
  by_cases h : a = x
  · rw [if_pos h, if_pos h.symm]
  · rw [if_neg h, if_neg (fun h' => h h'.symm)]
def jtl (lo : Int) : List Int → Int → Int → (Int → jR) → jR
  | [], d, _, f => f d
  | o :: r, d, x, f => if x = lo then f o else jtl (lo + 1) r d x f
theorem jtl_out : ∀ (l : List Int) (lo d x : Int) (f : Int → jR), (x < lo ∨ lo + (l.length : Int) ≤ x) → jtl lo l d x f = f d
  | [], _, _, _, _, _ => rfl
  | o :: r, lo, d, x, f, h => by
    rw [List.length_cons] at h
    unfold jtl
    rw [if_neg (by omega), jtl_out r (lo + 1) d x f (by omega)]
theorem jtl_in : ∀ (l : List Int) (lo d x : Int) (f : Int → jR), lo ≤ x → x < lo + (l.length : Int) → (match l[(x - lo).toNat]? with | some off => f off | none => none) = jtl lo l d x f
  | [], lo, d, x, f, h1, h2 => by
    rw [List.length_nil] at h2
    omega
  | o :: r, lo, d, x, f, h1, h2 => by
    rw [List.length_cons] at h2
    unfold jtl
    by_cases h : x = lo
    · subst h
      rw [if_pos rfl, Int.sub_self]
      rfl
    · rw [if_neg h, show (x - lo).toNat = (x - (lo + 1)).toNat + 1 by omega, List.getElem?_cons_succ]
      exact jtl_in r (lo + 1) d x f (by omega) (by omega)
theorem jtsw (lo hh : Int) (l : List Int) (d x : Int) (f : Int → jR) (hl : lo + (l.length : Int) = hh + 1) : (if x < lo ∨ hh < x then f d else (match (l.toArray)[(x - lo).toNat]? with | some off => f off | none => none)) = jtl lo l d x f := by
  by_cases h : x < lo ∨ hh < x
  · rw [if_pos h, jtl_out l lo d x f (by omega)]
  · rw [if_neg h, List.getElem?_toArray]
    exact jtl_in l lo d x f (by omega) (by omega)

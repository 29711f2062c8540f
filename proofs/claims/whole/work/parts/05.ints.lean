/-! ===== ints as numbers ===== -/
def jr32 (x : Int) : Prop := -2147483648 ≤ x ∧ x < 2147483648
def jr64 (x : Int) : Prop := -9223372036854775808 ≤ x ∧ x < 9223372036854775808
theorem jw_r (z : Int) : jr32 (jw z) := by
  unfold jw jr32
  have h1 := @Int.le_bmod z 4294967296 (by decide)
  have h2 := @Int.bmod_lt z 4294967296 (by decide)
  omega
theorem jw_id {z : Int} (h : jr32 z) : jw z = z := by
  unfold jw
  exact Int.bmod_eq_of_le (by have := h.1; omega) (by have := h.2; omega)
theorem ji_to {x : Int} (h : jr32 x) : (Int32.ofInt x).toInt = x := Int32.toInt_ofInt_of_le h.1 h.2
theorem ji_toN {x : Int} (h : jr32 x) : (Int32.ofInt x).toNatClampNeg = x.toNat := by
  rw [← Int32.toNat_toInt, ji_to h]
theorem ji_w (z : Int) : (Int32.ofInt z).toInt = jw z := Int32.toInt_ofInt
theorem ji_ow (z : Int) : Int32.ofInt (jw z) = Int32.ofInt z := by
  apply Int32.toInt_inj.mp
  rw [ji_to (jw_r z), ji_w]
theorem ji_eq {x y : Int} (hx : jr32 x) (hy : jr32 y) : Int32.ofInt x = Int32.ofInt y ↔ x = y := by
  constructor
  · intro h
    have := congrArg Int32.toInt h
    rwa [ji_to hx, ji_to hy] at this
  · rintro rfl; rfl
theorem ji_lt {x y : Int} (hx : jr32 x) (hy : jr32 y) : Int32.ofInt x < Int32.ofInt y ↔ x < y := by
  rw [Int32.lt_iff_toInt_lt, ji_to hx, ji_to hy]
theorem ji_le {x y : Int} (hx : jr32 x) (hy : jr32 y) : Int32.ofInt x ≤ Int32.ofInt y ↔ x ≤ y := by
  rw [Int32.le_iff_toInt_le, ji_to hx, ji_to hy]
theorem ji_0 : (0 : Int32) = Int32.ofInt 0 := by decide
theorem ji_add {x y : Int} (hx : jr32 x) (hy : jr32 y) : Int32.ofInt x + Int32.ofInt y = Int32.ofInt (jw (x + y)) := by
  apply Int32.toInt_inj.mp
  rw [Int32.toInt_add, ji_to hx, ji_to hy, ji_to (jw_r _)]
  rfl
theorem ji_addw {x : Int} (hx : jr32 x) (y : Int) : Int32.ofInt x + Int32.ofInt y = Int32.ofInt (jw (x + y)) := by
  apply Int32.toInt_inj.mp
  rw [Int32.toInt_add, ji_to hx, ji_w, ji_to (jw_r _)]
  unfold jw
  exact Int.add_bmod_bmod
theorem ji_sub {x y : Int} (hx : jr32 x) (hy : jr32 y) : Int32.ofInt x - Int32.ofInt y = Int32.ofInt (jw (x - y)) := by
  apply Int32.toInt_inj.mp
  rw [Int32.toInt_sub, ji_to hx, ji_to hy, ji_to (jw_r _)]
  rfl
theorem ji_mul {x y : Int} (hx : jr32 x) (hy : jr32 y) : Int32.ofInt x * Int32.ofInt y = Int32.ofInt (jw (x * y)) := by
  apply Int32.toInt_inj.mp
  rw [Int32.toInt_mul, ji_to hx, ji_to hy, ji_to (jw_r _)]
  rfl
theorem ji_divr {x y : Int} (hx : jr32 x) (h0 : 0 ≤ x) (hy : 0 < y) : jr32 (x / y) := by
  have h1 : 0 ≤ x / y := Int.ediv_nonneg h0 (by omega)
  have h2 : x / y ≤ x := Int.ediv_le_self y h0
  exact ⟨by omega, by have := hx.2; omega⟩
theorem ji_div {x y : Int} (hx : jr32 x) (hy : jr32 y) (h0 : 0 ≤ x) (hy0 : 0 < y) : Int32.ofInt x / Int32.ofInt y = Int32.ofInt (x / y) := by
  apply Int32.toInt_inj.mp
  rw [Int32.toInt_div, ji_to hx, ji_to hy, ji_to (ji_divr hx h0 hy0), Int.tdiv_eq_ediv_of_nonneg h0]
  exact jw_id (ji_divr hx h0 hy0)
theorem ji_modr {x y : Int} (hy : jr32 y) (hy0 : 0 < y) : jr32 (x % y) := by
  have h1 : 0 ≤ x % y := Int.emod_nonneg x (by omega)
  have h2 : x % y < y := Int.emod_lt_of_pos x hy0
  exact ⟨by omega, by have := hy.2; omega⟩
theorem ji_mod {x y : Int} (hx : jr32 x) (hy : jr32 y) (h0 : 0 ≤ x) (hy0 : 0 < y) : Int32.ofInt x % Int32.ofInt y = Int32.ofInt (x % y) := by
  apply Int32.toInt_inj.mp
  rw [Int32.toInt_mod, ji_to hx, ji_to hy, ji_to (ji_modr hy hy0), Int.tmod_eq_emod_of_nonneg h0]
theorem ji_nz {y : Int} (hy : jr32 y) (h : 0 < y) : ¬ Int32.ofInt y = 0 := by
  rw [ji_0, ji_eq hy ⟨by decide, by decide⟩]
  omega
theorem ji_63 (x : Int) : (Int32.ofInt x &&& 63) = Int32.ofInt (x % 64) := by
  apply Int32.toBitVec_inj.mp
  rw [Int32.toBitVec_and, Int32.toBitVec_ofInt, Int32.toBitVec_ofInt]
  apply BitVec.eq_of_toNat_eq
  rw [BitVec.toNat_and, BitVec.toNat_ofInt, BitVec.toNat_ofInt]
  have h63 : (63 : Int32).toBitVec.toNat = 2 ^ 6 - 1 := by decide
  rw [h63, Nat.and_two_pow_sub_one_eq_mod]
  omega
theorem ji_c (x : Int) : ((Int32.ofInt x).toUInt32 % 65536).toInt32 = Int32.ofInt (x % 65536) := by
  apply Int32.toBitVec_inj.mp
  apply BitVec.eq_of_toNat_eq
  show (((Int32.ofInt x).toUInt32 % 65536).toBitVec).toNat = _
  rw [UInt32.toBitVec_mod, BitVec.toNat_umod, Int32.toBitVec_ofInt, BitVec.toNat_ofInt]
  have h1 : ((Int32.ofInt x).toUInt32).toBitVec.toNat = (x % 4294967296).toNat := by
    show (Int32.ofInt x).toBitVec.toNat = _
    rw [Int32.toBitVec_ofInt, BitVec.toNat_ofInt]
    rfl
  have h2 : (65536 : UInt32).toBitVec.toNat = 65536 := by decide
  rw [h1, h2]
  omega
theorem jl_to {x : Int} (h : jr64 x) : (Int64.ofInt x).toInt = x := Int64.toInt_ofInt_of_le h.1 h.2
theorem ji_long {x : Int} (h : jr32 x) : (Int32.ofInt x).toInt64 = Int64.ofInt x := by
  apply Int64.toInt_inj.mp
  rw [Int32.toInt_toInt64, ji_to h, jl_to ⟨by have := h.1; omega, by have := h.2; omega⟩]
theorem jl_eq {x y : Int} (hx : jr64 x) (hy : jr64 y) : Int64.ofInt x = Int64.ofInt y ↔ x = y := by
  constructor
  · intro h
    have := congrArg Int64.toInt h
    rwa [jl_to hx, jl_to hy] at this
  · rintro rfl; rfl
theorem jl_lt {x y : Int} (hx : jr64 x) (hy : jr64 y) : Int64.ofInt x < Int64.ofInt y ↔ x < y := by
  rw [Int64.lt_iff_toInt_lt, jl_to hx, jl_to hy]
theorem jl_cmp {x y : Int} (hx : jr64 x) (hy : jr64 y) : lg_cmp (Int64.ofInt x) (Int64.ofInt y) = Int32.ofInt (jsgn x y) := by
  unfold lg_cmp jsgn
  rcases Int.lt_trichotomy x y with h | h | h
  · rw [if_neg (fun k => by have := (jl_lt hy hx).mp k; omega), if_neg (fun k => by have := (jl_eq hx hy).mp k; omega), if_pos h]
    decide
  · subst h
    rw [if_neg (fun k => by have := (jl_lt hx hx).mp k; omega), if_pos rfl, if_neg (Int.lt_irrefl x), if_pos rfl]
    decide
  · rw [if_pos ((jl_lt hy hx).mpr h), if_neg (by omega), if_neg (by omega)]
    decide
theorem jsgn_r (x y : Int) : jr32 (jsgn x y) := by
  unfold jsgn
  split
  · exact ⟨by decide, by decide⟩
  · split <;> exact ⟨by decide, by decide⟩
theorem ji_of (x : Int32) : Int32.ofInt x.toInt = x := Int32.ofInt_toInt x
theorem ji_r (x : Int32) : jr32 x.toInt := ⟨x.le_toInt, x.toInt_lt⟩
theorem jb8_r {n : Int} (h : jb8 n = true) : -128 ≤ n ∧ n < 128 := by
  unfold jb8 at h
  split at h
  · rw [Nat.blt_eq] at h
    exact ⟨by simp only [Int.ofNat_eq_natCast]; omega, by simp only [Int.ofNat_eq_natCast]; omega⟩
  · rw [Nat.blt_eq] at h
    omega
theorem jb16_r {n : Int} (h : jb16 n = true) : -32768 ≤ n ∧ n < 32768 := by
  unfold jb16 at h
  split at h
  · rw [Nat.blt_eq] at h
    exact ⟨by simp only [Int.ofNat_eq_natCast]; omega, by simp only [Int.ofNat_eq_natCast]; omega⟩
  · rw [Nat.blt_eq] at h
    omega
theorem ji_b8 {n : Int} (h : jb8 n = true) : (Int8.ofInt n).toInt32 = Int32.ofInt n := by
  have h1 := jb8_r h
  apply Int32.toInt_inj.mp
  rw [Int8.toInt_toInt32, Int8.toInt_ofInt_of_le (by omega) (by omega), ji_to ⟨by omega, by omega⟩]
theorem ji_b16 {n : Int} (h : jb16 n = true) : (Int16.ofInt n).toInt32 = Int32.ofInt n := by
  have h1 := jb16_r h
  apply Int32.toInt_inj.mp
  rw [Int16.toInt_toInt32, Int16.toInt_ofInt_of_le (by omega) (by omega), ji_to ⟨by omega, by omega⟩]
/-- an index within -/
theorem ji_in {x : Int} {n : Nat} (hx : jr32 x) (h0 : 0 ≤ x) (h : x < (n : Int)) : vp_in (Int32.ofInt x) n := by
  unfold vp_in
  rw [ji_toN hx, ji_0, ji_lt hx ⟨by decide, by decide⟩]
  omega
theorem jix_r {x : Int} {n : Nat} (hn : n < 65536) (h0 : 0 ≤ x) (h : x < (n : Int)) : jr32 x := ⟨by omega, by omega⟩

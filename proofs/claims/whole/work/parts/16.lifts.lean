/-! ===== answers of functions on the table, as the interpreter's; the rules of each cell ===== -/
def ijI (x : Int) : jV := .inl x
def ijD (x : UInt64) : jV := .inr (.inr (.double x))
def ijF (x : UInt32) : jV := .inr (.inr (.float x))
def ijR (cf : jCf) (a : Nat) : jV := jr (jn cf + a)
def thr (k : jM) : jM := (none, (k.2.1 + 1, k.2.2 + 6))
def sel {α β : Type} (s : α ⊕ String) (f : α → β) (g : String → β) : β := match s with
  | .inl x => f x
  | .inr E => g E
def oel {β : Type} (s : Option String) (b : β) (g : String → β) : β := match s with
  | none => b
  | some E => g E
def l0 {α : Type} (cf : jCf) (dv : UInt64) (m : jMem) (k : jM) (ij : α → jV) (r : Option α) : jR := match r with
  | some x => some (.inl (some (ij x)), (hp cf dv m, k))
  | none => none
def lW {α : Type} (cf : jCf) (dv : UInt64) (k : jM) (ij : α → jV) (r : Option (α × jMem)) : jR := match r with
  | some (x, m) => some (.inl (some (ij x)), (hp cf dv m, k))
  | none => none
def lX {α : Type} (cf : jCf) (dv : UInt64) (m : jMem) (k : jM) (ij : α → jV) (r : Option (α ⊕ String)) : jR := match r with
  | some (.inl x) => some (.inl (some (ij x)), (hp cf dv m, k))
  | some (.inr E) => some (.inr E, (hp cf dv m, thr k))
  | none => none
def lXW {α : Type} (cf : jCf) (dv : UInt64) (k : jM) (ij : α → jV) (r : Option ((α ⊕ String) × jMem)) : jR := match r with
  | some (.inl x, m) => some (.inl (some (ij x)), (hp cf dv m, k))
  | some (.inr E, m) => some (.inr E, (hp cf dv m, thr k))
  | none => none
def lVW (cf : jCf) (dv : UInt64) (k : jM) (r : Option jMem) : jR := match r with
  | some m => some (.inl none, (hp cf dv m, k))
  | none => none
def lVX (cf : jCf) (dv : UInt64) (m : jMem) (k : jM) (r : Option (Option String)) : jR := match r with
  | some none => some (.inl none, (hp cf dv m, k))
  | some (some E) => some (.inr E, (hp cf dv m, thr k))
  | none => none
def lWr (cf : jCf) (dv : UInt64) (k : jM) (r : Option (Int × jMem)) : jR := match r with
  | some (x, m) => some (.inl (some (.inl x)), (hp cf dv m, if x = 0 then k else thr k))
  | none => none
def lWd (cf : jCf) (m : jMem) (k : jM) (r : Option (Int × UInt64)) : jR := match r with
  | some (x, dv) => some (.inl (some (.inl x)), (hp cf dv m, if x = 0 then k else thr k))
  | none => none
/-- a turn of the law's loop: goes on, or answers false; the table, the double, whether an exception was made -/
abbrev jTn : Type := Bool × (jMem × (UInt64 × Int))
def lT (cf : jCf) (k : jM) (C : jMem → UInt64 → jM → jR) (r : Option jTn) : jR := match r with
  | some (true, (m, (dv, x))) => C m dv (if x = 0 then k else thr k)
  | some (false, (m, (dv, x))) => some (.inl (some (.inl 0)), (hp cf dv m, if x = 0 then k else thr k))
  | none => none
section Lifts
variable {cf : jCf} {dv : UInt64} {m : jMem} {k : jM} {α γ : Type} {ij : α → jV} {kr : Option jV → jH → jR} {kx : String → jH → jR}
theorem jthr_hp : jthr (hp cf dv m, k) = (hp cf dv m, thr k) := Eq.trans rfl rfl
theorem jc_l0 {r : Option α} : jcl (l0 cf dv m k ij r) kr kx = r.bind fun x => kr (some (ij x)) (hp cf dv m, k) := by cases r <;> rfl
theorem jc_lW {r : Option (α × jMem)} : jcl (lW cf dv k ij r) kr kx = r.bind fun q => kr (some (ij q.1)) (hp cf dv q.2, k) := by cases r <;> rfl
theorem jc_lX {r : Option (α ⊕ String)} : jcl (lX cf dv m k ij r) kr kx = r.bind fun s => sel s (fun x => kr (some (ij x)) (hp cf dv m, k)) (fun E => kx E (hp cf dv m, thr k)) := by
  rcases r with _ | (x | E) <;> rfl
theorem jc_lXW {r : Option ((α ⊕ String) × jMem)} : jcl (lXW cf dv k ij r) kr kx = r.bind fun q => sel q.1 (fun x => kr (some (ij x)) (hp cf dv q.2, k)) (fun E => kx E (hp cf dv q.2, thr k)) := by
  rcases r with _ | ⟨x | E, m⟩ <;> rfl
theorem jc_lVW {r : Option jMem} : jcl (lVW cf dv k r) kr kx = r.bind fun m' => kr none (hp cf dv m', k) := by cases r <;> rfl
theorem jc_lVX {r : Option (Option String)} : jcl (lVX cf dv m k r) kr kx = r.bind fun s => oel s (kr none (hp cf dv m, k)) (fun E => kx E (hp cf dv m, thr k)) := by
  rcases r with _ | (_ | E) <;> rfl
theorem jc_lWr {r : Option (Int × jMem)} : jcl (lWr cf dv k r) kr kx = r.bind fun q => kr (some (.inl q.1)) (hp cf dv q.2, if q.1 = 0 then k else thr k) := by cases r <;> rfl
theorem jc_lWd {r : Option (Int × UInt64)} : jcl (lWd cf m k r) kr kx = r.bind fun q => kr (some (.inl q.1)) (hp cf q.2 m, if q.1 = 0 then k else thr k) := by cases r <;> rfl
theorem jpush_n (st : List jV) : jpush none st = st := Eq.trans rfl rfl
theorem jpush_s (v : jV) (st : List jV) : jpush (some v) st = v :: st := Eq.trans rfl rfl
theorem obt_0 {β : Type} (r : Option β) : obt 0 r = r := Eq.trans rfl rfl
theorem obt_1 {β : Type} (r : Option β) : obt 1 r = r := Eq.trans rfl rfl
theorem och_0 {β : Type} (r : Option β) : och 0 r = r := if_pos (by decide)
theorem och_32 {β : Type} (r : Option β) : och 32 r = r := if_pos (by decide)
theorem och_100 {β : Type} (r : Option β) : och 100 r = r := if_pos (by decide)
theorem och_115 {β : Type} (r : Option β) : och 115 r = r := if_pos (by decide)
theorem och_104 {β : Type} (r : Option β) : och 104 r = r := if_pos (by decide)
theorem och_33 {β : Type} (r : Option β) : och 33 r = r := if_pos (by decide)
theorem och_43 {β : Type} (r : Option β) : och 43 r = r := if_pos (by decide)
theorem och_60 {β : Type} (r : Option β) : och 60 r = r := if_pos (by decide)
theorem jgo_drop (w : jH) (a ci : Nat) (r : jR) : jrc 0 w a ci r = jgo w a ci fun _ => r := Eq.trans rfl rfl

theorem jsh_n (r : jR) : jsh [] r = r := Eq.trans rfl rfl
theorem jsh_I (x0 : Int) (r : jR) : jsh [.inl x0] r = r := Eq.trans rfl rfl
theorem jsh_R (r0 : Nat) (r : jR) : jsh [jr r0] r = r := Eq.trans rfl rfl
theorem jsh_II (x0 : Int) (x1 : Int) (r : jR) : jsh [.inl x0, .inl x1] r = r := Eq.trans rfl rfl
theorem jsh_IR (x0 : Int) (r1 : Nat) (r : jR) : jsh [.inl x0, jr r1] r = r := Eq.trans rfl rfl
theorem jsh_RI (r0 : Nat) (x1 : Int) (r : jR) : jsh [jr r0, .inl x1] r = r := Eq.trans rfl rfl
theorem jsh_RR (r0 : Nat) (r1 : Nat) (r : jR) : jsh [jr r0, jr r1] r = r := Eq.trans rfl rfl
theorem jsh_III (x0 : Int) (x1 : Int) (x2 : Int) (r : jR) : jsh [.inl x0, .inl x1, .inl x2] r = r := Eq.trans rfl rfl
theorem jsh_IIR (x0 : Int) (x1 : Int) (r2 : Nat) (r : jR) : jsh [.inl x0, .inl x1, jr r2] r = r := Eq.trans rfl rfl
theorem jsh_IRI (x0 : Int) (r1 : Nat) (x2 : Int) (r : jR) : jsh [.inl x0, jr r1, .inl x2] r = r := Eq.trans rfl rfl
theorem jsh_IRR (x0 : Int) (r1 : Nat) (r2 : Nat) (r : jR) : jsh [.inl x0, jr r1, jr r2] r = r := Eq.trans rfl rfl
theorem jsh_RII (r0 : Nat) (x1 : Int) (x2 : Int) (r : jR) : jsh [jr r0, .inl x1, .inl x2] r = r := Eq.trans rfl rfl
theorem jsh_RIR (r0 : Nat) (x1 : Int) (r2 : Nat) (r : jR) : jsh [jr r0, .inl x1, jr r2] r = r := Eq.trans rfl rfl
theorem jsh_RRI (r0 : Nat) (r1 : Nat) (x2 : Int) (r : jR) : jsh [jr r0, jr r1, .inl x2] r = r := Eq.trans rfl rfl
theorem jsh_RRR (r0 : Nat) (r1 : Nat) (r2 : Nat) (r : jR) : jsh [jr r0, jr r1, jr r2] r = r := Eq.trans rfl rfl
theorem jsh_IIII (x0 : Int) (x1 : Int) (x2 : Int) (x3 : Int) (r : jR) : jsh [.inl x0, .inl x1, .inl x2, .inl x3] r = r := Eq.trans rfl rfl
theorem jsh_IIIR (x0 : Int) (x1 : Int) (x2 : Int) (r3 : Nat) (r : jR) : jsh [.inl x0, .inl x1, .inl x2, jr r3] r = r := Eq.trans rfl rfl
theorem jsh_IIRI (x0 : Int) (x1 : Int) (r2 : Nat) (x3 : Int) (r : jR) : jsh [.inl x0, .inl x1, jr r2, .inl x3] r = r := Eq.trans rfl rfl
theorem jsh_IIRR (x0 : Int) (x1 : Int) (r2 : Nat) (r3 : Nat) (r : jR) : jsh [.inl x0, .inl x1, jr r2, jr r3] r = r := Eq.trans rfl rfl
theorem jsh_IRII (x0 : Int) (r1 : Nat) (x2 : Int) (x3 : Int) (r : jR) : jsh [.inl x0, jr r1, .inl x2, .inl x3] r = r := Eq.trans rfl rfl
theorem jsh_IRIR (x0 : Int) (r1 : Nat) (x2 : Int) (r3 : Nat) (r : jR) : jsh [.inl x0, jr r1, .inl x2, jr r3] r = r := Eq.trans rfl rfl
theorem jsh_IRRI (x0 : Int) (r1 : Nat) (r2 : Nat) (x3 : Int) (r : jR) : jsh [.inl x0, jr r1, jr r2, .inl x3] r = r := Eq.trans rfl rfl
theorem jsh_IRRR (x0 : Int) (r1 : Nat) (r2 : Nat) (r3 : Nat) (r : jR) : jsh [.inl x0, jr r1, jr r2, jr r3] r = r := Eq.trans rfl rfl
theorem jsh_RIII (r0 : Nat) (x1 : Int) (x2 : Int) (x3 : Int) (r : jR) : jsh [jr r0, .inl x1, .inl x2, .inl x3] r = r := Eq.trans rfl rfl
theorem jsh_RIIR (r0 : Nat) (x1 : Int) (x2 : Int) (r3 : Nat) (r : jR) : jsh [jr r0, .inl x1, .inl x2, jr r3] r = r := Eq.trans rfl rfl
theorem jsh_RIRI (r0 : Nat) (x1 : Int) (r2 : Nat) (x3 : Int) (r : jR) : jsh [jr r0, .inl x1, jr r2, .inl x3] r = r := Eq.trans rfl rfl
theorem jsh_RIRR (r0 : Nat) (x1 : Int) (r2 : Nat) (r3 : Nat) (r : jR) : jsh [jr r0, .inl x1, jr r2, jr r3] r = r := Eq.trans rfl rfl
theorem jsh_RRII (r0 : Nat) (r1 : Nat) (x2 : Int) (x3 : Int) (r : jR) : jsh [jr r0, jr r1, .inl x2, .inl x3] r = r := Eq.trans rfl rfl
theorem jsh_RRIR (r0 : Nat) (r1 : Nat) (x2 : Int) (r3 : Nat) (r : jR) : jsh [jr r0, jr r1, .inl x2, jr r3] r = r := Eq.trans rfl rfl
theorem jsh_RRRI (r0 : Nat) (r1 : Nat) (r2 : Nat) (x3 : Int) (r : jR) : jsh [jr r0, jr r1, jr r2, .inl x3] r = r := Eq.trans rfl rfl
theorem jsh_RRRR (r0 : Nat) (r1 : Nat) (r2 : Nat) (r3 : Nat) (r : jR) : jsh [jr r0, jr r1, jr r2, jr r3] r = r := Eq.trans rfl rfl
theorem jsh_IIIII (x0 : Int) (x1 : Int) (x2 : Int) (x3 : Int) (x4 : Int) (r : jR) : jsh [.inl x0, .inl x1, .inl x2, .inl x3, .inl x4] r = r := Eq.trans rfl rfl
theorem jsh_IIIIR (x0 : Int) (x1 : Int) (x2 : Int) (x3 : Int) (r4 : Nat) (r : jR) : jsh [.inl x0, .inl x1, .inl x2, .inl x3, jr r4] r = r := Eq.trans rfl rfl
theorem jsh_IIIRI (x0 : Int) (x1 : Int) (x2 : Int) (r3 : Nat) (x4 : Int) (r : jR) : jsh [.inl x0, .inl x1, .inl x2, jr r3, .inl x4] r = r := Eq.trans rfl rfl
theorem jsh_IIIRR (x0 : Int) (x1 : Int) (x2 : Int) (r3 : Nat) (r4 : Nat) (r : jR) : jsh [.inl x0, .inl x1, .inl x2, jr r3, jr r4] r = r := Eq.trans rfl rfl
theorem jsh_IIRII (x0 : Int) (x1 : Int) (r2 : Nat) (x3 : Int) (x4 : Int) (r : jR) : jsh [.inl x0, .inl x1, jr r2, .inl x3, .inl x4] r = r := Eq.trans rfl rfl
theorem jsh_IIRIR (x0 : Int) (x1 : Int) (r2 : Nat) (x3 : Int) (r4 : Nat) (r : jR) : jsh [.inl x0, .inl x1, jr r2, .inl x3, jr r4] r = r := Eq.trans rfl rfl
theorem jsh_IIRRI (x0 : Int) (x1 : Int) (r2 : Nat) (r3 : Nat) (x4 : Int) (r : jR) : jsh [.inl x0, .inl x1, jr r2, jr r3, .inl x4] r = r := Eq.trans rfl rfl
theorem jsh_IIRRR (x0 : Int) (x1 : Int) (r2 : Nat) (r3 : Nat) (r4 : Nat) (r : jR) : jsh [.inl x0, .inl x1, jr r2, jr r3, jr r4] r = r := Eq.trans rfl rfl
theorem jsh_IRIII (x0 : Int) (r1 : Nat) (x2 : Int) (x3 : Int) (x4 : Int) (r : jR) : jsh [.inl x0, jr r1, .inl x2, .inl x3, .inl x4] r = r := Eq.trans rfl rfl
theorem jsh_IRIIR (x0 : Int) (r1 : Nat) (x2 : Int) (x3 : Int) (r4 : Nat) (r : jR) : jsh [.inl x0, jr r1, .inl x2, .inl x3, jr r4] r = r := Eq.trans rfl rfl
theorem jsh_IRIRI (x0 : Int) (r1 : Nat) (x2 : Int) (r3 : Nat) (x4 : Int) (r : jR) : jsh [.inl x0, jr r1, .inl x2, jr r3, .inl x4] r = r := Eq.trans rfl rfl
theorem jsh_IRIRR (x0 : Int) (r1 : Nat) (x2 : Int) (r3 : Nat) (r4 : Nat) (r : jR) : jsh [.inl x0, jr r1, .inl x2, jr r3, jr r4] r = r := Eq.trans rfl rfl
theorem jsh_IRRII (x0 : Int) (r1 : Nat) (r2 : Nat) (x3 : Int) (x4 : Int) (r : jR) : jsh [.inl x0, jr r1, jr r2, .inl x3, .inl x4] r = r := Eq.trans rfl rfl
theorem jsh_IRRIR (x0 : Int) (r1 : Nat) (r2 : Nat) (x3 : Int) (r4 : Nat) (r : jR) : jsh [.inl x0, jr r1, jr r2, .inl x3, jr r4] r = r := Eq.trans rfl rfl
theorem jsh_IRRRI (x0 : Int) (r1 : Nat) (r2 : Nat) (r3 : Nat) (x4 : Int) (r : jR) : jsh [.inl x0, jr r1, jr r2, jr r3, .inl x4] r = r := Eq.trans rfl rfl
theorem jsh_IRRRR (x0 : Int) (r1 : Nat) (r2 : Nat) (r3 : Nat) (r4 : Nat) (r : jR) : jsh [.inl x0, jr r1, jr r2, jr r3, jr r4] r = r := Eq.trans rfl rfl
theorem jsh_RIIII (r0 : Nat) (x1 : Int) (x2 : Int) (x3 : Int) (x4 : Int) (r : jR) : jsh [jr r0, .inl x1, .inl x2, .inl x3, .inl x4] r = r := Eq.trans rfl rfl
theorem jsh_RIIIR (r0 : Nat) (x1 : Int) (x2 : Int) (x3 : Int) (r4 : Nat) (r : jR) : jsh [jr r0, .inl x1, .inl x2, .inl x3, jr r4] r = r := Eq.trans rfl rfl
theorem jsh_RIIRI (r0 : Nat) (x1 : Int) (x2 : Int) (r3 : Nat) (x4 : Int) (r : jR) : jsh [jr r0, .inl x1, .inl x2, jr r3, .inl x4] r = r := Eq.trans rfl rfl
theorem jsh_RIIRR (r0 : Nat) (x1 : Int) (x2 : Int) (r3 : Nat) (r4 : Nat) (r : jR) : jsh [jr r0, .inl x1, .inl x2, jr r3, jr r4] r = r := Eq.trans rfl rfl
theorem jsh_RIRII (r0 : Nat) (x1 : Int) (r2 : Nat) (x3 : Int) (x4 : Int) (r : jR) : jsh [jr r0, .inl x1, jr r2, .inl x3, .inl x4] r = r := Eq.trans rfl rfl
theorem jsh_RIRIR (r0 : Nat) (x1 : Int) (r2 : Nat) (x3 : Int) (r4 : Nat) (r : jR) : jsh [jr r0, .inl x1, jr r2, .inl x3, jr r4] r = r := Eq.trans rfl rfl
theorem jsh_RIRRI (r0 : Nat) (x1 : Int) (r2 : Nat) (r3 : Nat) (x4 : Int) (r : jR) : jsh [jr r0, .inl x1, jr r2, jr r3, .inl x4] r = r := Eq.trans rfl rfl
theorem jsh_RIRRR (r0 : Nat) (x1 : Int) (r2 : Nat) (r3 : Nat) (r4 : Nat) (r : jR) : jsh [jr r0, .inl x1, jr r2, jr r3, jr r4] r = r := Eq.trans rfl rfl
theorem jsh_RRIII (r0 : Nat) (r1 : Nat) (x2 : Int) (x3 : Int) (x4 : Int) (r : jR) : jsh [jr r0, jr r1, .inl x2, .inl x3, .inl x4] r = r := Eq.trans rfl rfl
theorem jsh_RRIIR (r0 : Nat) (r1 : Nat) (x2 : Int) (x3 : Int) (r4 : Nat) (r : jR) : jsh [jr r0, jr r1, .inl x2, .inl x3, jr r4] r = r := Eq.trans rfl rfl
theorem jsh_RRIRI (r0 : Nat) (r1 : Nat) (x2 : Int) (r3 : Nat) (x4 : Int) (r : jR) : jsh [jr r0, jr r1, .inl x2, jr r3, .inl x4] r = r := Eq.trans rfl rfl
theorem jsh_RRIRR (r0 : Nat) (r1 : Nat) (x2 : Int) (r3 : Nat) (r4 : Nat) (r : jR) : jsh [jr r0, jr r1, .inl x2, jr r3, jr r4] r = r := Eq.trans rfl rfl
theorem jsh_RRRII (r0 : Nat) (r1 : Nat) (r2 : Nat) (x3 : Int) (x4 : Int) (r : jR) : jsh [jr r0, jr r1, jr r2, .inl x3, .inl x4] r = r := Eq.trans rfl rfl
theorem jsh_RRRIR (r0 : Nat) (r1 : Nat) (r2 : Nat) (x3 : Int) (r4 : Nat) (r : jR) : jsh [jr r0, jr r1, jr r2, .inl x3, jr r4] r = r := Eq.trans rfl rfl
theorem jsh_RRRRI (r0 : Nat) (r1 : Nat) (r2 : Nat) (r3 : Nat) (x4 : Int) (r : jR) : jsh [jr r0, jr r1, jr r2, jr r3, .inl x4] r = r := Eq.trans rfl rfl
theorem jsh_RRRRR (r0 : Nat) (r1 : Nat) (r2 : Nat) (r3 : Nat) (r4 : Nat) (r : jR) : jsh [jr r0, jr r1, jr r2, jr r3, jr r4] r = r := Eq.trans rfl rfl
theorem jsh_D (x : UInt64) (r : jR) : jsh [.inr (.inr (.double x))] r = r := Eq.trans rfl rfl
theorem jsh_DR (x : UInt64) (r0 : Nat) (r : jR) : jsh [.inr (.inr (.double x)), jr r0] r = r := Eq.trans rfl rfl
theorem jsh_F (x : UInt32) (r : jR) : jsh [.inr (.inr (.float x))] r = r := Eq.trans rfl rfl
theorem jsh_FR (x : UInt32) (r0 : Nat) (r : jR) : jsh [.inr (.inr (.float x)), jr r0] r = r := Eq.trans rfl rfl
theorem l0_bind {r : Option γ} {f : γ → Option α} : l0 cf dv m k ij (r.bind f) = r.bind fun y => l0 cf dv m k ij (f y) := by cases r <;> rfl
theorem l0_ite {c : Prop} {d : Decidable c} {a b : Option α} : l0 cf dv m k ij (@ite _ c d a b) = @ite _ c d (l0 cf dv m k ij a) (l0 cf dv m k ij b) := by cases d <;> rfl
theorem l0_none : l0 cf dv m k ij none = none := Eq.trans rfl rfl
theorem l0_oix {x : Int} {n : Nat} {r : Option α} : l0 cf dv m k ij (oix x n r) = oix x n (l0 cf dv m k ij r) := by unfold oix; exact l0_ite
theorem l0_obt {x : Int} {r : Option α} : l0 cf dv m k ij (obt x r) = obt x (l0 cf dv m k ij r) := by unfold obt; exact l0_ite
theorem l0_och {x : Int} {r : Option α} : l0 cf dv m k ij (och x r) = och x (l0 cf dv m k ij r) := by unfold och; exact l0_ite
theorem l0_sel {s : γ ⊕ String} {f : γ → Option α} {g : String → Option α} : l0 cf dv m k ij (sel s f g) = sel s (fun x => l0 cf dv m k ij (f x)) (fun E => l0 cf dv m k ij (g E)) := by cases s <;> rfl
theorem l0_oel {s : Option String} {b : Option α} {g : String → Option α} : l0 cf dv m k ij (oel s b g) = oel s (l0 cf dv m k ij b) (fun E => l0 cf dv m k ij (g E)) := by cases s <;> rfl
theorem lW_bind {r : Option γ} {f : γ → Option (α × jMem)} : lW cf dv k ij (r.bind f) = r.bind fun y => lW cf dv k ij (f y) := by cases r <;> rfl
theorem lW_ite {c : Prop} {d : Decidable c} {a b : Option (α × jMem)} : lW cf dv k ij (@ite _ c d a b) = @ite _ c d (lW cf dv k ij a) (lW cf dv k ij b) := by cases d <;> rfl
theorem lW_none : lW cf dv k ij none = none := Eq.trans rfl rfl
theorem lW_oix {x : Int} {n : Nat} {r : Option (α × jMem)} : lW cf dv k ij (oix x n r) = oix x n (lW cf dv k ij r) := by unfold oix; exact lW_ite
theorem lW_obt {x : Int} {r : Option (α × jMem)} : lW cf dv k ij (obt x r) = obt x (lW cf dv k ij r) := by unfold obt; exact lW_ite
theorem lW_och {x : Int} {r : Option (α × jMem)} : lW cf dv k ij (och x r) = och x (lW cf dv k ij r) := by unfold och; exact lW_ite
theorem lW_sel {s : γ ⊕ String} {f : γ → Option (α × jMem)} {g : String → Option (α × jMem)} : lW cf dv k ij (sel s f g) = sel s (fun x => lW cf dv k ij (f x)) (fun E => lW cf dv k ij (g E)) := by cases s <;> rfl
theorem lW_oel {s : Option String} {b : Option (α × jMem)} {g : String → Option (α × jMem)} : lW cf dv k ij (oel s b g) = oel s (lW cf dv k ij b) (fun E => lW cf dv k ij (g E)) := by cases s <;> rfl
theorem lX_bind {r : Option γ} {f : γ → Option (α ⊕ String)} : lX cf dv m k ij (r.bind f) = r.bind fun y => lX cf dv m k ij (f y) := by cases r <;> rfl
theorem lX_ite {c : Prop} {d : Decidable c} {a b : Option (α ⊕ String)} : lX cf dv m k ij (@ite _ c d a b) = @ite _ c d (lX cf dv m k ij a) (lX cf dv m k ij b) := by cases d <;> rfl
theorem lX_none : lX cf dv m k ij none = none := Eq.trans rfl rfl
theorem lX_oix {x : Int} {n : Nat} {r : Option (α ⊕ String)} : lX cf dv m k ij (oix x n r) = oix x n (lX cf dv m k ij r) := by unfold oix; exact lX_ite
theorem lX_obt {x : Int} {r : Option (α ⊕ String)} : lX cf dv m k ij (obt x r) = obt x (lX cf dv m k ij r) := by unfold obt; exact lX_ite
theorem lX_och {x : Int} {r : Option (α ⊕ String)} : lX cf dv m k ij (och x r) = och x (lX cf dv m k ij r) := by unfold och; exact lX_ite
theorem lX_sel {s : γ ⊕ String} {f : γ → Option (α ⊕ String)} {g : String → Option (α ⊕ String)} : lX cf dv m k ij (sel s f g) = sel s (fun x => lX cf dv m k ij (f x)) (fun E => lX cf dv m k ij (g E)) := by cases s <;> rfl
theorem lX_oel {s : Option String} {b : Option (α ⊕ String)} {g : String → Option (α ⊕ String)} : lX cf dv m k ij (oel s b g) = oel s (lX cf dv m k ij b) (fun E => lX cf dv m k ij (g E)) := by cases s <;> rfl
theorem lXW_bind {r : Option γ} {f : γ → Option ((α ⊕ String) × jMem)} : lXW cf dv k ij (r.bind f) = r.bind fun y => lXW cf dv k ij (f y) := by cases r <;> rfl
theorem lXW_ite {c : Prop} {d : Decidable c} {a b : Option ((α ⊕ String) × jMem)} : lXW cf dv k ij (@ite _ c d a b) = @ite _ c d (lXW cf dv k ij a) (lXW cf dv k ij b) := by cases d <;> rfl
theorem lXW_none : lXW cf dv k ij none = none := Eq.trans rfl rfl
theorem lXW_oix {x : Int} {n : Nat} {r : Option ((α ⊕ String) × jMem)} : lXW cf dv k ij (oix x n r) = oix x n (lXW cf dv k ij r) := by unfold oix; exact lXW_ite
theorem lXW_obt {x : Int} {r : Option ((α ⊕ String) × jMem)} : lXW cf dv k ij (obt x r) = obt x (lXW cf dv k ij r) := by unfold obt; exact lXW_ite
theorem lXW_och {x : Int} {r : Option ((α ⊕ String) × jMem)} : lXW cf dv k ij (och x r) = och x (lXW cf dv k ij r) := by unfold och; exact lXW_ite
theorem lXW_sel {s : γ ⊕ String} {f : γ → Option ((α ⊕ String) × jMem)} {g : String → Option ((α ⊕ String) × jMem)} : lXW cf dv k ij (sel s f g) = sel s (fun x => lXW cf dv k ij (f x)) (fun E => lXW cf dv k ij (g E)) := by cases s <;> rfl
theorem lXW_oel {s : Option String} {b : Option ((α ⊕ String) × jMem)} {g : String → Option ((α ⊕ String) × jMem)} : lXW cf dv k ij (oel s b g) = oel s (lXW cf dv k ij b) (fun E => lXW cf dv k ij (g E)) := by cases s <;> rfl
theorem lVW_bind {r : Option γ} {f : γ → Option jMem} : lVW cf dv k (r.bind f) = r.bind fun y => lVW cf dv k (f y) := by cases r <;> rfl
theorem lVW_ite {c : Prop} {d : Decidable c} {a b : Option jMem} : lVW cf dv k (@ite _ c d a b) = @ite _ c d (lVW cf dv k a) (lVW cf dv k b) := by cases d <;> rfl
theorem lVW_none : lVW cf dv k none = none := Eq.trans rfl rfl
theorem lVW_oix {x : Int} {n : Nat} {r : Option jMem} : lVW cf dv k (oix x n r) = oix x n (lVW cf dv k r) := by unfold oix; exact lVW_ite
theorem lVW_obt {x : Int} {r : Option jMem} : lVW cf dv k (obt x r) = obt x (lVW cf dv k r) := by unfold obt; exact lVW_ite
theorem lVW_och {x : Int} {r : Option jMem} : lVW cf dv k (och x r) = och x (lVW cf dv k r) := by unfold och; exact lVW_ite
theorem lVW_sel {s : γ ⊕ String} {f : γ → Option jMem} {g : String → Option jMem} : lVW cf dv k (sel s f g) = sel s (fun x => lVW cf dv k (f x)) (fun E => lVW cf dv k (g E)) := by cases s <;> rfl
theorem lVW_oel {s : Option String} {b : Option jMem} {g : String → Option jMem} : lVW cf dv k (oel s b g) = oel s (lVW cf dv k b) (fun E => lVW cf dv k (g E)) := by cases s <;> rfl
theorem lVX_bind {r : Option γ} {f : γ → Option (Option String)} : lVX cf dv m k (r.bind f) = r.bind fun y => lVX cf dv m k (f y) := by cases r <;> rfl
theorem lVX_ite {c : Prop} {d : Decidable c} {a b : Option (Option String)} : lVX cf dv m k (@ite _ c d a b) = @ite _ c d (lVX cf dv m k a) (lVX cf dv m k b) := by cases d <;> rfl
theorem lVX_none : lVX cf dv m k none = none := Eq.trans rfl rfl
theorem lVX_oix {x : Int} {n : Nat} {r : Option (Option String)} : lVX cf dv m k (oix x n r) = oix x n (lVX cf dv m k r) := by unfold oix; exact lVX_ite
theorem lVX_obt {x : Int} {r : Option (Option String)} : lVX cf dv m k (obt x r) = obt x (lVX cf dv m k r) := by unfold obt; exact lVX_ite
theorem lVX_och {x : Int} {r : Option (Option String)} : lVX cf dv m k (och x r) = och x (lVX cf dv m k r) := by unfold och; exact lVX_ite
theorem lVX_sel {s : γ ⊕ String} {f : γ → Option (Option String)} {g : String → Option (Option String)} : lVX cf dv m k (sel s f g) = sel s (fun x => lVX cf dv m k (f x)) (fun E => lVX cf dv m k (g E)) := by cases s <;> rfl
theorem lVX_oel {s : Option String} {b : Option (Option String)} {g : String → Option (Option String)} : lVX cf dv m k (oel s b g) = oel s (lVX cf dv m k b) (fun E => lVX cf dv m k (g E)) := by cases s <;> rfl
theorem lWr_bind {r : Option γ} {f : γ → Option (Int × jMem)} : lWr cf dv k (r.bind f) = r.bind fun y => lWr cf dv k (f y) := by cases r <;> rfl
theorem lWr_ite {c : Prop} {d : Decidable c} {a b : Option (Int × jMem)} : lWr cf dv k (@ite _ c d a b) = @ite _ c d (lWr cf dv k a) (lWr cf dv k b) := by cases d <;> rfl
theorem lWr_none : lWr cf dv k none = none := Eq.trans rfl rfl
theorem lWr_oix {x : Int} {n : Nat} {r : Option (Int × jMem)} : lWr cf dv k (oix x n r) = oix x n (lWr cf dv k r) := by unfold oix; exact lWr_ite
theorem lWr_obt {x : Int} {r : Option (Int × jMem)} : lWr cf dv k (obt x r) = obt x (lWr cf dv k r) := by unfold obt; exact lWr_ite
theorem lWr_och {x : Int} {r : Option (Int × jMem)} : lWr cf dv k (och x r) = och x (lWr cf dv k r) := by unfold och; exact lWr_ite
theorem lWr_sel {s : γ ⊕ String} {f : γ → Option (Int × jMem)} {g : String → Option (Int × jMem)} : lWr cf dv k (sel s f g) = sel s (fun x => lWr cf dv k (f x)) (fun E => lWr cf dv k (g E)) := by cases s <;> rfl
theorem lWr_oel {s : Option String} {b : Option (Int × jMem)} {g : String → Option (Int × jMem)} : lWr cf dv k (oel s b g) = oel s (lWr cf dv k b) (fun E => lWr cf dv k (g E)) := by cases s <;> rfl
theorem lWd_bind {r : Option γ} {f : γ → Option (Int × UInt64)} : lWd cf m k (r.bind f) = r.bind fun y => lWd cf m k (f y) := by cases r <;> rfl
theorem lWd_ite {c : Prop} {d : Decidable c} {a b : Option (Int × UInt64)} : lWd cf m k (@ite _ c d a b) = @ite _ c d (lWd cf m k a) (lWd cf m k b) := by cases d <;> rfl
theorem lWd_none : lWd cf m k none = none := Eq.trans rfl rfl
theorem lWd_oix {x : Int} {n : Nat} {r : Option (Int × UInt64)} : lWd cf m k (oix x n r) = oix x n (lWd cf m k r) := by unfold oix; exact lWd_ite
theorem lWd_obt {x : Int} {r : Option (Int × UInt64)} : lWd cf m k (obt x r) = obt x (lWd cf m k r) := by unfold obt; exact lWd_ite
theorem lWd_och {x : Int} {r : Option (Int × UInt64)} : lWd cf m k (och x r) = och x (lWd cf m k r) := by unfold och; exact lWd_ite
theorem lWd_sel {s : γ ⊕ String} {f : γ → Option (Int × UInt64)} {g : String → Option (Int × UInt64)} : lWd cf m k (sel s f g) = sel s (fun x => lWd cf m k (f x)) (fun E => lWd cf m k (g E)) := by cases s <;> rfl
theorem lWd_oel {s : Option String} {b : Option (Int × UInt64)} {g : String → Option (Int × UInt64)} : lWd cf m k (oel s b g) = oel s (lWd cf m k b) (fun E => lWd cf m k (g E)) := by cases s <;> rfl
theorem lT_bind {C : jMem → UInt64 → jM → jR} {r : Option γ} {f : γ → Option jTn} : lT cf k C (r.bind f) = r.bind fun y => lT cf k C (f y) := by cases r <;> rfl
theorem lT_ite {C : jMem → UInt64 → jM → jR} {c : Prop} {d : Decidable c} {a b : Option jTn} : lT cf k C (@ite _ c d a b) = @ite _ c d (lT cf k C a) (lT cf k C b) := by cases d <;> rfl
theorem lT_none {C : jMem → UInt64 → jM → jR} : lT cf k C none = none := Eq.trans rfl rfl
theorem lT_oix {C : jMem → UInt64 → jM → jR} {x : Int} {n : Nat} {r : Option jTn} : lT cf k C (oix x n r) = oix x n (lT cf k C r) := by unfold oix; exact lT_ite
theorem lT_obt {C : jMem → UInt64 → jM → jR} {x : Int} {r : Option jTn} : lT cf k C (obt x r) = obt x (lT cf k C r) := by unfold obt; exact lT_ite
theorem lT_och {C : jMem → UInt64 → jM → jR} {x : Int} {r : Option jTn} : lT cf k C (och x r) = och x (lT cf k C r) := by unfold och; exact lT_ite
theorem lT_sel {C : jMem → UInt64 → jM → jR} {s : γ ⊕ String} {f : γ → Option jTn} {g : String → Option jTn} : lT cf k C (sel s f g) = sel s (fun x => lT cf k C (f x)) (fun E => lT cf k C (g E)) := by cases s <;> rfl
theorem lT_oel {C : jMem → UInt64 → jM → jR} {s : Option String} {b : Option jTn} {g : String → Option jTn} : lT cf k C (oel s b g) = oel s (lT cf k C b) (fun E => lT cf k C (g E)) := by cases s <;> rfl
theorem l0_some {x : α} : l0 cf dv m k ij (some x) = some (.inl (some (ij x)), (hp cf dv m, k)) := Eq.trans rfl rfl
theorem lW_some {x : α} {m' : jMem} : lW cf dv k ij (some (x, m')) = some (.inl (some (ij x)), (hp cf dv m', k)) := Eq.trans rfl rfl
theorem lX_some {x : α} : lX cf dv m k ij (some (.inl x)) = some (.inl (some (ij x)), (hp cf dv m, k)) := Eq.trans rfl rfl
theorem lX_ex {E : String} : lX cf dv m k ij (some (.inr E)) = some (.inr E, (hp cf dv m, thr k)) := Eq.trans rfl rfl
theorem lXW_some {x : α} {m' : jMem} : lXW cf dv k ij (some (.inl x, m')) = some (.inl (some (ij x)), (hp cf dv m', k)) := Eq.trans rfl rfl
theorem lXW_ex {E : String} {m' : jMem} : lXW cf dv k ij (some (.inr E, m')) = some (.inr E, (hp cf dv m', thr k)) := Eq.trans rfl rfl
theorem lVW_some {m' : jMem} : lVW cf dv k (some m') = some (.inl none, (hp cf dv m', k)) := Eq.trans rfl rfl
theorem lVX_some : lVX cf dv m k (some none) = some (.inl none, (hp cf dv m, k)) := Eq.trans rfl rfl
theorem lVX_ex {E : String} : lVX cf dv m k (some (some E)) = some (.inr E, (hp cf dv m, thr k)) := Eq.trans rfl rfl
theorem lWr_some {x : Int} {m' : jMem} : lWr cf dv k (some (x, m')) = some (.inl (some (.inl x)), (hp cf dv m', if x = 0 then k else thr k)) := Eq.trans rfl rfl
theorem lWd_some {x : Int} {d : UInt64} : lWd cf m k (some (x, d)) = some (.inl (some (.inl x)), (hp cf d m, if x = 0 then k else thr k)) := Eq.trans rfl rfl
theorem lT_t {C : jMem → UInt64 → jM → jR} {m : jMem} {d : UInt64} {x : Int} : lT cf k C (some (true, (m, (d, x)))) = C m d (if x = 0 then k else thr k) := Eq.trans rfl rfl
theorem lT_f {C : jMem → UInt64 → jM → jR} {m : jMem} {d : UInt64} {x : Int} : lT cf k C (some (false, (m, (d, x)))) = some (.inl (some (.inl 0)), (hp cf d m, if x = 0 then k else thr k)) := Eq.trans rfl rfl
end Lifts
section Cells
variable {cf : jCf} {dv : UInt64} {m : jMem} {k : jM}
theorem go_0 (r : jR) : jgo (hp cf dv m, k) (jn cf + 0) 6 (fun _ => r) = r := jgo_hp 0 6 rfl _
theorem gf_0_0 (f : jV → jR) : jgf (hp cf dv m, k) (jn cf + 0) 6 0 f = f (jr (jn cf + 1)) := jgo_hp 0 6 rfl _
theorem gf_0_1 (f : jV → jR) : jgf (hp cf dv m, k) (jn cf + 0) 6 1 f = f (jr (jn cf + 13)) := jgo_hp 0 6 rfl _
theorem gf_0_2 (f : jV → jR) : jgf (hp cf dv m, k) (jn cf + 0) 6 2 f = f (jr (jn cf + 14)) := jgo_hp 0 6 rfl _
theorem gf_0_3 (f : jV → jR) : jgf (hp cf dv m, k) (jn cf + 0) 6 3 f = f (jr (jn cf + 17)) := jgo_hp 0 6 rfl _
theorem gf_0_4 (f : jV → jR) : jgf (hp cf dv m, k) (jn cf + 0) 6 4 f = f (jr (jn cf + 127)) := jgo_hp 0 6 rfl _
theorem gf_0_5 (f : jV → jR) : jgf (hp cf dv m, k) (jn cf + 0) 6 5 f = f (.inl (m 0 5)) := jgo_hp 0 6 rfl _
theorem pf_0_5 (x : Int) (f : jH → jR) : jpf (hp cf dv m, k) (jn cf + 0) 6 5 .boolean (.inl x) f = obt x (f (hp cf dv (mset m 0 5 x), k)) := (jpf_hp 0 6 5 rfl rfl (Nat.le_of_ble_eq_true rfl) f).trans (jbit _ _)
theorem gf_0_6 (f : jV → jR) : jgf (hp cf dv m, k) (jn cf + 0) 6 6 f = f (jr (jn cf + 139)) := jgo_hp 0 6 rfl _
theorem gf_0_7 (f : jV → jR) : jgf (hp cf dv m, k) (jn cf + 0) 6 7 f = f (jr (jn cf + 145)) := jgo_hp 0 6 rfl _
theorem gf_0_8 (f : jV → jR) : jgf (hp cf dv m, k) (jn cf + 0) 6 8 f = f (.inl (m 0 8)) := jgo_hp 0 6 rfl _
theorem pf_0_8 (x : Int) (f : jH → jR) : jpf (hp cf dv m, k) (jn cf + 0) 6 8 .int (.inl x) f = f (hp cf dv (mset m 0 8 x), k) := (jpf_hp 0 6 8 rfl rfl (Nat.le_of_ble_eq_true rfl) f).trans (jint _ _)
theorem gf_0_9 (f : jV → jR) : jgf (hp cf dv m, k) (jn cf + 0) 6 9 f = f (.inl (m 0 9)) := jgo_hp 0 6 rfl _
theorem pf_0_9 (x : Int) (f : jH → jR) : jpf (hp cf dv m, k) (jn cf + 0) 6 9 .int (.inl x) f = f (hp cf dv (mset m 0 9 x), k) := (jpf_hp 0 6 9 rfl rfl (Nat.le_of_ble_eq_true rfl) f).trans (jint _ _)
theorem gf_0_10 (f : jV → jR) : jgf (hp cf dv m, k) (jn cf + 0) 6 10 f = f (.inl (m 0 10)) := jgo_hp 0 6 rfl _
theorem pf_0_10 (x : Int) (f : jH → jR) : jpf (hp cf dv m, k) (jn cf + 0) 6 10 .int (.inl x) f = f (hp cf dv (mset m 0 10 x), k) := (jpf_hp 0 6 10 rfl rfl (Nat.le_of_ble_eq_true rfl) f).trans (jint _ _)
theorem gf_0_11 (f : jV → jR) : jgf (hp cf dv m, k) (jn cf + 0) 6 11 f = f (.inl (m 0 11)) := jgo_hp 0 6 rfl _
theorem pf_0_11 (x : Int) (f : jH → jR) : jpf (hp cf dv m, k) (jn cf + 0) 6 11 .int (.inl x) f = f (hp cf dv (mset m 0 11 x), k) := (jpf_hp 0 6 11 rfl rfl (Nat.le_of_ble_eq_true rfl) f).trans (jint _ _)
theorem go_1 (r : jR) : jgo (hp cf dv m, k) (jn cf + 1) 7 (fun _ => r) = r := jgo_hp 1 7 rfl _
theorem gf_1_0 (f : jV → jR) : jgf (hp cf dv m, k) (jn cf + 1) 7 0 f = f (jr (jn cf + 2)) := jgo_hp 1 7 rfl _
theorem gf_1_1 (f : jV → jR) : jgf (hp cf dv m, k) (jn cf + 1) 7 1 f = f (jr (jn cf + 7)) := jgo_hp 1 7 rfl _
theorem gf_1_2 (f : jV → jR) : jgf (hp cf dv m, k) (jn cf + 1) 7 2 f = f (.inl (m 1 2)) := jgo_hp 1 7 rfl _
theorem pf_1_2 (x : Int) (f : jH → jR) : jpf (hp cf dv m, k) (jn cf + 1) 7 2 .int (.inl x) f = f (hp cf dv (mset m 1 2 x), k) := (jpf_hp 1 7 2 rfl rfl (Nat.le_of_ble_eq_true rfl) f).trans (jint _ _)
theorem go_2 (r : jR) : jgo (hp cf dv m, k) (jn cf + 2) 0 (fun _ => r) = r := jgo_hp 2 0 rfl _
theorem gf_2_0 (f : jV → jR) : jgf (hp cf dv m, k) (jn cf + 2) 0 0 f = f (jr (jn cf + 3)) := jgo_hp 2 0 rfl _
theorem gf_2_1 (f : jV → jR) : jgf (hp cf dv m, k) (jn cf + 2) 0 1 f = f (jr (jn cf + 4)) := jgo_hp 2 0 rfl _
theorem gf_2_2 (f : jV → jR) : jgf (hp cf dv m, k) (jn cf + 2) 0 2 f = f (jr (jn cf + 5)) := jgo_hp 2 0 rfl _
theorem gf_2_3 (f : jV → jR) : jgf (hp cf dv m, k) (jn cf + 2) 0 3 f = f (jr (jn cf + 6)) := jgo_hp 2 0 rfl _
theorem gf_2_4 (f : jV → jR) : jgf (hp cf dv m, k) (jn cf + 2) 0 4 f = f (.inl (m 2 4)) := jgo_hp 2 0 rfl _
theorem pf_2_4 (x : Int) (f : jH → jR) : jpf (hp cf dv m, k) (jn cf + 2) 0 4 .int (.inl x) f = f (hp cf dv (mset m 2 4 x), k) := (jpf_hp 2 0 4 rfl rfl (Nat.le_of_ble_eq_true rfl) f).trans (jint _ _)
theorem ai_3 (x : Int) (f : Int → jR) : jlda (hp cf dv m, k) (jn cf + 3) x f = oix x 16 (f (m 3 x.toNat)) := jlda_hp 3 rfl x f
theorem as_3 (x y : Int) (f : jH → jR) : jai (hp cf dv m, k) (jn cf + 3) .int x y f = oix x 16 (f (hp cf dv (mset m 3 x.toNat y), k)) := (jai_hp 3 rfl x y f).trans (congrArg (oix x 16) (jint _ _))
theorem ai_4 (x : Int) (f : Int → jR) : jlda (hp cf dv m, k) (jn cf + 4) x f = oix x 16 (f (m 4 x.toNat)) := jlda_hp 4 rfl x f
theorem as_4 (x y : Int) (f : jH → jR) : jai (hp cf dv m, k) (jn cf + 4) .int x y f = oix x 16 (f (hp cf dv (mset m 4 x.toNat y), k)) := (jai_hp 4 rfl x y f).trans (congrArg (oix x 16) (jint _ _))
theorem ai_5 (x : Int) (f : Int → jR) : jgi (hp cf dv m, k) (jn cf + 5) .boolean x f = oix x 16 (f (m 5 x.toNat)) := jgi_hp 5 rfl x f
theorem as_5 (x y : Int) (f : jH → jR) : jai (hp cf dv m, k) (jn cf + 5) .boolean x y f = oix x 16 (obt y (f (hp cf dv (mset m 5 x.toNat y), k))) := (jai_hp 5 rfl x y f).trans (congrArg (oix x 16) (jbit _ _))
theorem ai_6 (x : Int) (f : Int → jR) : jlda (hp cf dv m, k) (jn cf + 6) x f = oix x 16 (f (m 6 x.toNat)) := jlda_hp 6 rfl x f
theorem as_6 (x y : Int) (f : jH → jR) : jai (hp cf dv m, k) (jn cf + 6) .int x y f = oix x 16 (f (hp cf dv (mset m 6 x.toNat y), k)) := (jai_hp 6 rfl x y f).trans (congrArg (oix x 16) (jint _ _))
theorem go_7 (r : jR) : jgo (hp cf dv m, k) (jn cf + 7) 1 (fun _ => r) = r := jgo_hp 7 1 rfl _
theorem gf_7_0 (f : jV → jR) : jgf (hp cf dv m, k) (jn cf + 7) 1 0 f = f (jr (jn cf + 8)) := jgo_hp 7 1 rfl _
theorem gf_7_1 (f : jV → jR) : jgf (hp cf dv m, k) (jn cf + 7) 1 1 f = f (jr (jn cf + 9)) := jgo_hp 7 1 rfl _
theorem gf_7_2 (f : jV → jR) : jgf (hp cf dv m, k) (jn cf + 7) 1 2 f = f (jr (jn cf + 10)) := jgo_hp 7 1 rfl _
theorem gf_7_3 (f : jV → jR) : jgf (hp cf dv m, k) (jn cf + 7) 1 3 f = f (jr (jn cf + 11)) := jgo_hp 7 1 rfl _
theorem gf_7_4 (f : jV → jR) : jgf (hp cf dv m, k) (jn cf + 7) 1 4 f = f (jr (jn cf + 12)) := jgo_hp 7 1 rfl _
theorem gf_7_5 (f : jV → jR) : jgf (hp cf dv m, k) (jn cf + 7) 1 5 f = f (.inl (m 7 5)) := jgo_hp 7 1 rfl _
theorem pf_7_5 (x : Int) (f : jH → jR) : jpf (hp cf dv m, k) (jn cf + 7) 1 5 .int (.inl x) f = f (hp cf dv (mset m 7 5 x), k) := (jpf_hp 7 1 5 rfl rfl (Nat.le_of_ble_eq_true rfl) f).trans (jint _ _)
theorem gf_7_6 (f : jV → jR) : jgf (hp cf dv m, k) (jn cf + 7) 1 6 f = f (.inl (m 7 6)) := jgo_hp 7 1 rfl _
theorem pf_7_6 (x : Int) (f : jH → jR) : jpf (hp cf dv m, k) (jn cf + 7) 1 6 .int (.inl x) f = f (hp cf dv (mset m 7 6 x), k) := (jpf_hp 7 1 6 rfl rfl (Nat.le_of_ble_eq_true rfl) f).trans (jint _ _)
theorem gf_7_7 (f : jV → jR) : jgf (hp cf dv m, k) (jn cf + 7) 1 7 f = f (.inl (m 7 7)) := jgo_hp 7 1 rfl _
theorem pf_7_7 (x : Int) (f : jH → jR) : jpf (hp cf dv m, k) (jn cf + 7) 1 7 .int (.inl x) f = f (hp cf dv (mset m 7 7 x), k) := (jpf_hp 7 1 7 rfl rfl (Nat.le_of_ble_eq_true rfl) f).trans (jint _ _)
theorem gf_7_8 (f : jV → jR) : jgf (hp cf dv m, k) (jn cf + 7) 1 8 f = f (.inl (m 7 8)) := jgo_hp 7 1 rfl _
theorem pf_7_8 (x : Int) (f : jH → jR) : jpf (hp cf dv m, k) (jn cf + 7) 1 8 .int (.inl x) f = f (hp cf dv (mset m 7 8 x), k) := (jpf_hp 7 1 8 rfl rfl (Nat.le_of_ble_eq_true rfl) f).trans (jint _ _)
theorem ai_8 (x : Int) (f : Int → jR) : jgi (hp cf dv m, k) (jn cf + 8) .char x f = oix x 20 (f (m 8 x.toNat)) := jgi_hp 8 rfl x f
theorem as_8 (x y : Int) (f : jH → jR) : jai (hp cf dv m, k) (jn cf + 8) .char x y f = oix x 20 (och y (f (hp cf dv (mset m 8 x.toNat y), k))) := (jai_hp 8 rfl x y f).trans (congrArg (oix x 20) (jchr _ _))
theorem ai_9 (x : Int) (f : Int → jR) : jlda (hp cf dv m, k) (jn cf + 9) x f = oix x 20 (f (m 9 x.toNat)) := jlda_hp 9 rfl x f
theorem as_9 (x y : Int) (f : jH → jR) : jai (hp cf dv m, k) (jn cf + 9) .int x y f = oix x 20 (f (hp cf dv (mset m 9 x.toNat y), k)) := (jai_hp 9 rfl x y f).trans (congrArg (oix x 20) (jint _ _))
theorem ai_10 (x : Int) (f : Int → jR) : jlda (hp cf dv m, k) (jn cf + 10) x f = oix x 20 (f (m 10 x.toNat)) := jlda_hp 10 rfl x f
theorem as_10 (x y : Int) (f : jH → jR) : jai (hp cf dv m, k) (jn cf + 10) .int x y f = oix x 20 (f (hp cf dv (mset m 10 x.toNat y), k)) := (jai_hp 10 rfl x y f).trans (congrArg (oix x 20) (jint _ _))
theorem ai_11 (x : Int) (f : Int → jR) : jgi (hp cf dv m, k) (jn cf + 11) .boolean x f = oix x 20 (f (m 11 x.toNat)) := jgi_hp 11 rfl x f
theorem as_11 (x y : Int) (f : jH → jR) : jai (hp cf dv m, k) (jn cf + 11) .boolean x y f = oix x 20 (obt y (f (hp cf dv (mset m 11 x.toNat y), k))) := (jai_hp 11 rfl x y f).trans (congrArg (oix x 20) (jbit _ _))
theorem ai_12 (x : Int) (f : Int → jR) : jgi (hp cf dv m, k) (jn cf + 12) .boolean x f = oix x 20 (f (m 12 x.toNat)) := jgi_hp 12 rfl x f
theorem as_12 (x y : Int) (f : jH → jR) : jai (hp cf dv m, k) (jn cf + 12) .boolean x y f = oix x 20 (obt y (f (hp cf dv (mset m 12 x.toNat y), k))) := (jai_hp 12 rfl x y f).trans (congrArg (oix x 20) (jbit _ _))
theorem go_13 (r : jR) : jgo (hp cf dv m, k) (jn cf + 13) 3 (fun _ => r) = r := jgo_hp 13 3 rfl _
theorem gf_13_0 (f : jV → jR) : jgf (hp cf dv m, k) (jn cf + 13) 3 0 f = f (jr (jn cf + 2)) := jgo_hp 13 3 rfl _
theorem gf_13_1 (f : jV → jR) : jgf (hp cf dv m, k) (jn cf + 13) 3 1 f = f (jr (jn cf + 7)) := jgo_hp 13 3 rfl _
theorem gf_13_2 (f : jV → jR) : jgf (hp cf dv m, k) (jn cf + 13) 3 2 f = f (jr (jn cf + 1)) := jgo_hp 13 3 rfl _
theorem gf_13_3 (f : jV → jR) : jgf (hp cf dv m, k) (jn cf + 13) 3 3 f = f (.inl (m 13 3)) := jgo_hp 13 3 rfl _
theorem pf_13_3 (x : Int) (f : jH → jR) : jpf (hp cf dv m, k) (jn cf + 13) 3 3 .int (.inl x) f = f (hp cf dv (mset m 13 3 x), k) := (jpf_hp 13 3 3 rfl rfl (Nat.le_of_ble_eq_true rfl) f).trans (jint _ _)
theorem gf_13_4 (f : jV → jR) : jgf (hp cf dv m, k) (jn cf + 13) 3 4 f = f (.inl (m 13 4)) := jgo_hp 13 3 rfl _
theorem pf_13_4 (x : Int) (f : jH → jR) : jpf (hp cf dv m, k) (jn cf + 13) 3 4 .int (.inl x) f = f (hp cf dv (mset m 13 4 x), k) := (jpf_hp 13 3 4 rfl rfl (Nat.le_of_ble_eq_true rfl) f).trans (jint _ _)
theorem go_14 (r : jR) : jgo (hp cf dv m, k) (jn cf + 14) 2 (fun _ => r) = r := jgo_hp 14 2 rfl _
theorem gf_14_0 (f : jV → jR) : jgf (hp cf dv m, k) (jn cf + 14) 2 0 f = f (jr (jn cf + 15)) := jgo_hp 14 2 rfl _
theorem gf_14_1 (f : jV → jR) : jgf (hp cf dv m, k) (jn cf + 14) 2 1 f = f (jr (jn cf + 16)) := jgo_hp 14 2 rfl _
theorem gf_14_2 (f : jV → jR) : jgf (hp cf dv m, k) (jn cf + 14) 2 2 f = f (.inl (m 14 2)) := jgo_hp 14 2 rfl _
theorem pf_14_2 (x : Int) (f : jH → jR) : jpf (hp cf dv m, k) (jn cf + 14) 2 2 .int (.inl x) f = f (hp cf dv (mset m 14 2 x), k) := (jpf_hp 14 2 2 rfl rfl (Nat.le_of_ble_eq_true rfl) f).trans (jint _ _)
theorem ai_15 (x : Int) (f : Int → jR) : jlda (hp cf dv m, k) (jn cf + 15) x f = oix x 16 (f (m 15 x.toNat)) := jlda_hp 15 rfl x f
theorem as_15 (x y : Int) (f : jH → jR) : jai (hp cf dv m, k) (jn cf + 15) .int x y f = oix x 16 (f (hp cf dv (mset m 15 x.toNat y), k)) := (jai_hp 15 rfl x y f).trans (congrArg (oix x 16) (jint _ _))
theorem ai_16 (x : Int) (f : Int → jR) : jlda (hp cf dv m, k) (jn cf + 16) x f = oix x 16 (f (m 16 x.toNat)) := jlda_hp 16 rfl x f
theorem as_16 (x y : Int) (f : jH → jR) : jai (hp cf dv m, k) (jn cf + 16) .int x y f = oix x 16 (f (hp cf dv (mset m 16 x.toNat y), k)) := (jai_hp 16 rfl x y f).trans (congrArg (oix x 16) (jint _ _))
theorem go_17 (r : jR) : jgo (hp cf dv m, k) (jn cf + 17) 8 (fun _ => r) = r := jgo_hp 17 8 rfl _
theorem gf_17_0 (f : jV → jR) : jgf (hp cf dv m, k) (jn cf + 17) 8 0 f = f (jr (jn cf + 18)) := jgo_hp 17 8 rfl _
theorem gf_17_1 (f : jV → jR) : jgf (hp cf dv m, k) (jn cf + 17) 8 1 f = f (.inl (m 17 1)) := jgo_hp 17 8 rfl _
theorem pf_17_1 (x : Int) (f : jH → jR) : jpf (hp cf dv m, k) (jn cf + 17) 8 1 .int (.inl x) f = f (hp cf dv (mset m 17 1 x), k) := (jpf_hp 17 8 1 rfl rfl (Nat.le_of_ble_eq_true rfl) f).trans (jint _ _)
theorem gf_17_2 (f : jV → jR) : jgf (hp cf dv m, k) (jn cf + 17) 8 2 f = f (.inl (m 17 2)) := jgo_hp 17 8 rfl _
theorem pf_17_2 (x : Int) (f : jH → jR) : jpf (hp cf dv m, k) (jn cf + 17) 8 2 .int (.inl x) f = f (hp cf dv (mset m 17 2 x), k) := (jpf_hp 17 8 2 rfl rfl (Nat.le_of_ble_eq_true rfl) f).trans (jint _ _)
theorem go_139 (r : jR) : jgo (hp cf dv m, k) (jn cf + 139) 5 (fun _ => r) = r := jgo_hp 139 5 rfl _
theorem gf_139_0 (f : jV → jR) : jgf (hp cf dv m, k) (jn cf + 139) 5 0 f = f (jr (jn cf + 140)) := jgo_hp 139 5 rfl _
theorem gf_139_1 (f : jV → jR) : jgf (hp cf dv m, k) (jn cf + 139) 5 1 f = f (.inl (m 139 1)) := jgo_hp 139 5 rfl _
theorem pf_139_1 (x : Int) (f : jH → jR) : jpf (hp cf dv m, k) (jn cf + 139) 5 1 .int (.inl x) f = f (hp cf dv (mset m 139 1 x), k) := (jpf_hp 139 5 1 rfl rfl (Nat.le_of_ble_eq_true rfl) f).trans (jint _ _)
theorem gf_139_2 (f : jV → jR) : jgf (hp cf dv m, k) (jn cf + 139) 5 2 f = f (.inl (m 139 2)) := jgo_hp 139 5 rfl _
theorem pf_139_2 (x : Int) (f : jH → jR) : jpf (hp cf dv m, k) (jn cf + 139) 5 2 .int (.inl x) f = f (hp cf dv (mset m 139 2 x), k) := (jpf_hp 139 5 2 rfl rfl (Nat.le_of_ble_eq_true rfl) f).trans (jint _ _)
theorem gf_139_3 (f : jV → jR) : jgf (hp cf dv m, k) (jn cf + 139) 5 3 f = f (jr (jn cf + 141)) := jgo_hp 139 5 rfl _
theorem gf_139_4 (f : jV → jR) : jgf (hp cf dv m, k) (jn cf + 139) 5 4 f = f (jr (jn cf + 142)) := jgo_hp 139 5 rfl _
theorem gf_139_5 (f : jV → jR) : jgf (hp cf dv m, k) (jn cf + 139) 5 5 f = f (jr (jn cf + 143)) := jgo_hp 139 5 rfl _
theorem gf_139_6 (f : jV → jR) : jgf (hp cf dv m, k) (jn cf + 139) 5 6 f = f (jr (jn cf + 144)) := jgo_hp 139 5 rfl _
theorem gf_139_7 (f : jV → jR) : jgf (hp cf dv m, k) (jn cf + 139) 5 7 f = f (.inl (m 139 7)) := jgo_hp 139 5 rfl _
theorem pf_139_7 (x : Int) (f : jH → jR) : jpf (hp cf dv m, k) (jn cf + 139) 5 7 .int (.inl x) f = f (hp cf dv (mset m 139 7 x), k) := (jpf_hp 139 5 7 rfl rfl (Nat.le_of_ble_eq_true rfl) f).trans (jint _ _)
theorem ai_140 (x : Int) (f : Int → jR) : jgi (hp cf dv m, k) (jn cf + 140) .char x f = oix x 60 (f (m 140 x.toNat)) := jgi_hp 140 rfl x f
theorem as_140 (x y : Int) (f : jH → jR) : jai (hp cf dv m, k) (jn cf + 140) .char x y f = oix x 60 (och y (f (hp cf dv (mset m 140 x.toNat y), k))) := (jai_hp 140 rfl x y f).trans (congrArg (oix x 60) (jchr _ _))
theorem ai_141 (x : Int) (f : Int → jR) : jlda (hp cf dv m, k) (jn cf + 141) x f = oix x 60 (f (m 141 x.toNat)) := jlda_hp 141 rfl x f
theorem as_141 (x y : Int) (f : jH → jR) : jai (hp cf dv m, k) (jn cf + 141) .int x y f = oix x 60 (f (hp cf dv (mset m 141 x.toNat y), k)) := (jai_hp 141 rfl x y f).trans (congrArg (oix x 60) (jint _ _))
theorem ai_142 (x : Int) (f : Int → jR) : jlda (hp cf dv m, k) (jn cf + 142) x f = oix x 60 (f (m 142 x.toNat)) := jlda_hp 142 rfl x f
theorem as_142 (x y : Int) (f : jH → jR) : jai (hp cf dv m, k) (jn cf + 142) .int x y f = oix x 60 (f (hp cf dv (mset m 142 x.toNat y), k)) := (jai_hp 142 rfl x y f).trans (congrArg (oix x 60) (jint _ _))
theorem ai_143 (x : Int) (f : Int → jR) : jgi (hp cf dv m, k) (jn cf + 143) .char x f = oix x 60 (f (m 143 x.toNat)) := jgi_hp 143 rfl x f
theorem as_143 (x y : Int) (f : jH → jR) : jai (hp cf dv m, k) (jn cf + 143) .char x y f = oix x 60 (och y (f (hp cf dv (mset m 143 x.toNat y), k))) := (jai_hp 143 rfl x y f).trans (congrArg (oix x 60) (jchr _ _))
theorem ai_144 (x : Int) (f : Int → jR) : jlda (hp cf dv m, k) (jn cf + 144) x f = oix x 60 (f (m 144 x.toNat)) := jlda_hp 144 rfl x f
theorem as_144 (x y : Int) (f : jH → jR) : jai (hp cf dv m, k) (jn cf + 144) .int x y f = oix x 60 (f (hp cf dv (mset m 144 x.toNat y), k)) := (jai_hp 144 rfl x y f).trans (congrArg (oix x 60) (jint _ _))
theorem go_145 (r : jR) : jgo (hp cf dv m, k) (jn cf + 145) 4 (fun _ => r) = r := jgo_hp 145 4 rfl _
theorem gf_145_0 (f : jV → jR) : jgf (hp cf dv m, k) (jn cf + 145) 4 0 f = f (jr (jn cf + 146)) := jgo_hp 145 4 rfl _
theorem gf_145_1 (f : jV → jR) : jgf (hp cf dv m, k) (jn cf + 145) 4 1 f = f (.inl (m 145 1)) := jgo_hp 145 4 rfl _
theorem pf_145_1 (x : Int) (f : jH → jR) : jpf (hp cf dv m, k) (jn cf + 145) 4 1 .int (.inl x) f = f (hp cf dv (mset m 145 1 x), k) := (jpf_hp 145 4 1 rfl rfl (Nat.le_of_ble_eq_true rfl) f).trans (jint _ _)
theorem ai_146 (x : Int) (f : Int → jR) : jgi (hp cf dv m, k) (jn cf + 146) .char x f = oix x 60 (f (m 146 x.toNat)) := jgi_hp 146 rfl x f
theorem as_146 (x y : Int) (f : jH → jR) : jai (hp cf dv m, k) (jn cf + 146) .char x y f = oix x 60 (och y (f (hp cf dv (mset m 146 x.toNat y), k))) := (jai_hp 146 rfl x y f).trans (congrArg (oix x 60) (jchr _ _))
theorem go_147 (r : jR) : jgo (hp cf dv m, k) (jn cf + 147) 9 (fun _ => r) = r := jgo_hp 147 9 rfl _
theorem gf_147_0 (f : jV → jR) : jgf (hp cf dv m, k) (jn cf + 147) 9 0 f = f (jr (jn cf + 148)) := jgo_hp 147 9 rfl _
theorem gf_147_1 (f : jV → jR) : jgf (hp cf dv m, k) (jn cf + 147) 9 1 f = f (jr (jn cf + 149)) := jgo_hp 147 9 rfl _
theorem gf_147_2 (f : jV → jR) : jgf (hp cf dv m, k) (jn cf + 147) 9 2 f = f (jr (jn cf + 150)) := jgo_hp 147 9 rfl _
theorem gf_147_3 (f : jV → jR) : jgf (hp cf dv m, k) (jn cf + 147) 9 3 f = f (jr (jn cf + 151)) := jgo_hp 147 9 rfl _
theorem gf_147_4 (f : jV → jR) : jgf (hp cf dv m, k) (jn cf + 147) 9 4 f = f (.inl (m 147 4)) := jgo_hp 147 9 rfl _
theorem pf_147_4 (x : Int) (f : jH → jR) : jpf (hp cf dv m, k) (jn cf + 147) 9 4 .boolean (.inl x) f = obt x (f (hp cf dv (mset m 147 4 x), k)) := (jpf_hp 147 9 4 rfl rfl (Nat.le_of_ble_eq_true rfl) f).trans (jbit _ _)
theorem gf_147_5 (f : jV → jR) : jgf (hp cf dv m, k) (jn cf + 147) 9 5 f = f (.inl (m 147 5)) := jgo_hp 147 9 rfl _
theorem pf_147_5 (x : Int) (f : jH → jR) : jpf (hp cf dv m, k) (jn cf + 147) 9 5 .int (.inl x) f = f (hp cf dv (mset m 147 5 x), k) := (jpf_hp 147 9 5 rfl rfl (Nat.le_of_ble_eq_true rfl) f).trans (jint _ _)
theorem gf_147_6 (f : jV → jR) : jgf (hp cf dv m, k) (jn cf + 147) 9 6 f = f (.inl (m 147 6)) := jgo_hp 147 9 rfl _
theorem pf_147_6 (x : Int) (f : jH → jR) : jpf (hp cf dv m, k) (jn cf + 147) 9 6 .boolean (.inl x) f = obt x (f (hp cf dv (mset m 147 6 x), k)) := (jpf_hp 147 9 6 rfl rfl (Nat.le_of_ble_eq_true rfl) f).trans (jbit _ _)
theorem gf_147_7 (f : jV → jR) : jgf (hp cf dv m, k) (jn cf + 147) 9 7 f = f (.inl (m 147 7)) := jgo_hp 147 9 rfl _
theorem pf_147_7 (x : Int) (f : jH → jR) : jpf (hp cf dv m, k) (jn cf + 147) 9 7 .boolean (.inl x) f = obt x (f (hp cf dv (mset m 147 7 x), k)) := (jpf_hp 147 9 7 rfl rfl (Nat.le_of_ble_eq_true rfl) f).trans (jbit _ _)
theorem gf_147_8 (f : jV → jR) : jgf (hp cf dv m, k) (jn cf + 147) 9 8 f = f (.inl (m 147 8)) := jgo_hp 147 9 rfl _
theorem pf_147_8 (x : Int) (f : jH → jR) : jpf (hp cf dv m, k) (jn cf + 147) 9 8 .int (.inl x) f = f (hp cf dv (mset m 147 8 x), k) := (jpf_hp 147 9 8 rfl rfl (Nat.le_of_ble_eq_true rfl) f).trans (jint _ _)
theorem gf_147_9 (f : jV → jR) : jgf (hp cf dv m, k) (jn cf + 147) 9 9 f = f (.inl (m 147 9)) := jgo_hp 147 9 rfl _
theorem pf_147_9 (x : Int) (f : jH → jR) : jpf (hp cf dv m, k) (jn cf + 147) 9 9 .int (.inl x) f = f (hp cf dv (mset m 147 9 x), k) := (jpf_hp 147 9 9 rfl rfl (Nat.le_of_ble_eq_true rfl) f).trans (jint _ _)
theorem gf_147_10 (f : jV → jR) : jgf (hp cf dv m, k) (jn cf + 147) 9 10 f = f (.inl (m 147 10)) := jgo_hp 147 9 rfl _
theorem pf_147_10 (x : Int) (f : jH → jR) : jpf (hp cf dv m, k) (jn cf + 147) 9 10 .int (.inl x) f = f (hp cf dv (mset m 147 10 x), k) := (jpf_hp 147 9 10 rfl rfl (Nat.le_of_ble_eq_true rfl) f).trans (jint _ _)
theorem gf_147_11 (f : jV → jR) : jgf (hp cf dv m, k) (jn cf + 147) 9 11 f = f (.inl (m 147 11)) := jgo_hp 147 9 rfl _
theorem pf_147_11 (x : Int) (f : jH → jR) : jpf (hp cf dv m, k) (jn cf + 147) 9 11 .int (.inl x) f = f (hp cf dv (mset m 147 11 x), k) := (jpf_hp 147 9 11 rfl rfl (Nat.le_of_ble_eq_true rfl) f).trans (jint _ _)
theorem gf_147_12 (f : jV → jR) : jgf (hp cf dv m, k) (jn cf + 147) 9 12 f = f (jr (jn cf + 152)) := jgo_hp 147 9 rfl _
theorem gf_147_13 (f : jV → jR) : jgf (hp cf dv m, k) (jn cf + 147) 9 13 f = f (.inl (m 147 13)) := jgo_hp 147 9 rfl _
theorem pf_147_13 (x : Int) (f : jH → jR) : jpf (hp cf dv m, k) (jn cf + 147) 9 13 .int (.inl x) f = f (hp cf dv (mset m 147 13 x), k) := (jpf_hp 147 9 13 rfl rfl (Nat.le_of_ble_eq_true rfl) f).trans (jint _ _)
theorem gf_147_14 (f : jV → jR) : jgf (hp cf dv m, k) (jn cf + 147) 9 14 f = f (.inl (m 147 14)) := jgo_hp 147 9 rfl _
theorem pf_147_14 (x : Int) (f : jH → jR) : jpf (hp cf dv m, k) (jn cf + 147) 9 14 .int (.inl x) f = f (hp cf dv (mset m 147 14 x), k) := (jpf_hp 147 9 14 rfl rfl (Nat.le_of_ble_eq_true rfl) f).trans (jint _ _)
theorem gf_147_15 (f : jV → jR) : jgf (hp cf dv m, k) (jn cf + 147) 9 15 f = f (jr (jn cf + 153)) := jgo_hp 147 9 rfl _
theorem gf_147_16 (f : jV → jR) : jgf (hp cf dv m, k) (jn cf + 147) 9 16 f = f (.inl (m 147 16)) := jgo_hp 147 9 rfl _
theorem pf_147_16 (x : Int) (f : jH → jR) : jpf (hp cf dv m, k) (jn cf + 147) 9 16 .int (.inl x) f = f (hp cf dv (mset m 147 16 x), k) := (jpf_hp 147 9 16 rfl rfl (Nat.le_of_ble_eq_true rfl) f).trans (jint _ _)
theorem gf_147_17 (f : jV → jR) : jgf (hp cf dv m, k) (jn cf + 147) 9 17 f = f (.inl (m 147 17)) := jgo_hp 147 9 rfl _
theorem pf_147_17 (x : Int) (f : jH → jR) : jpf (hp cf dv m, k) (jn cf + 147) 9 17 .int (.inl x) f = f (hp cf dv (mset m 147 17 x), k) := (jpf_hp 147 9 17 rfl rfl (Nat.le_of_ble_eq_true rfl) f).trans (jint _ _)
theorem gf_147_18 (f : jV → jR) : jgf (hp cf dv m, k) (jn cf + 147) 9 18 f = f (jr (jn cf + 154)) := jgo_hp 147 9 rfl _
theorem gf_147_19 (f : jV → jR) : jgf (hp cf dv m, k) (jn cf + 147) 9 19 f = f (.inl (m 147 19)) := jgo_hp 147 9 rfl _
theorem pf_147_19 (x : Int) (f : jH → jR) : jpf (hp cf dv m, k) (jn cf + 147) 9 19 .int (.inl x) f = f (hp cf dv (mset m 147 19 x), k) := (jpf_hp 147 9 19 rfl rfl (Nat.le_of_ble_eq_true rfl) f).trans (jint _ _)
theorem ai_148 (x : Int) (f : Int → jR) : jlda (hp cf dv m, k) (jn cf + 148) x f = oix x 138 (f (m 148 x.toNat)) := jlda_hp 148 rfl x f
theorem as_148 (x y : Int) (f : jH → jR) : jai (hp cf dv m, k) (jn cf + 148) .int x y f = oix x 138 (f (hp cf dv (mset m 148 x.toNat y), k)) := (jai_hp 148 rfl x y f).trans (congrArg (oix x 138) (jint _ _))
theorem ai_149 (x : Int) (f : Int → jR) : jlda (hp cf dv m, k) (jn cf + 149) x f = oix x 1104 (f (m 149 x.toNat)) := jlda_hp 149 rfl x f
theorem as_149 (x y : Int) (f : jH → jR) : jai (hp cf dv m, k) (jn cf + 149) .int x y f = oix x 1104 (f (hp cf dv (mset m 149 x.toNat y), k)) := (jai_hp 149 rfl x y f).trans (congrArg (oix x 1104) (jint _ _))
theorem ai_150 (x : Int) (f : Int → jR) : jlda (hp cf dv m, k) (jn cf + 150) x f = oix x 138 (f (m 150 x.toNat)) := jlda_hp 150 rfl x f
theorem as_150 (x y : Int) (f : jH → jR) : jai (hp cf dv m, k) (jn cf + 150) .int x y f = oix x 138 (f (hp cf dv (mset m 150 x.toNat y), k)) := (jai_hp 150 rfl x y f).trans (congrArg (oix x 138) (jint _ _))
theorem ai_151 (x : Int) (f : Int → jR) : jlda (hp cf dv m, k) (jn cf + 151) x f = oix x 138 (f (m 151 x.toNat)) := jlda_hp 151 rfl x f
theorem as_151 (x y : Int) (f : jH → jR) : jai (hp cf dv m, k) (jn cf + 151) .int x y f = oix x 138 (f (hp cf dv (mset m 151 x.toNat y), k)) := (jai_hp 151 rfl x y f).trans (congrArg (oix x 138) (jint _ _))
theorem ai_152 (x : Int) (f : Int → jR) : jlda (hp cf dv m, k) (jn cf + 152) x f = oix x 60 (f (m 152 x.toNat)) := jlda_hp 152 rfl x f
theorem as_152 (x y : Int) (f : jH → jR) : jai (hp cf dv m, k) (jn cf + 152) .int x y f = oix x 60 (f (hp cf dv (mset m 152 x.toNat y), k)) := (jai_hp 152 rfl x y f).trans (congrArg (oix x 60) (jint _ _))
theorem ai_153 (x : Int) (f : Int → jR) : jgi (hp cf dv m, k) (jn cf + 153) .char x f = oix x 60 (f (m 153 x.toNat)) := jgi_hp 153 rfl x f
theorem as_153 (x y : Int) (f : jH → jR) : jai (hp cf dv m, k) (jn cf + 153) .char x y f = oix x 60 (och y (f (hp cf dv (mset m 153 x.toNat y), k))) := (jai_hp 153 rfl x y f).trans (congrArg (oix x 60) (jchr _ _))
theorem ai_154 (x : Int) (f : Int → jR) : jlda (hp cf dv m, k) (jn cf + 154) x f = oix x 124 (f (m 154 x.toNat)) := jlda_hp 154 rfl x f
theorem as_154 (x y : Int) (f : jH → jR) : jai (hp cf dv m, k) (jn cf + 154) .int x y f = oix x 124 (f (hp cf dv (mset m 154 x.toNat y), k)) := (jai_hp 154 rfl x y f).trans (congrArg (oix x 124) (jint _ _))
theorem ai_155 (x : Int) (f : Int → jR) : jgi (hp cf dv m, k) (jn cf + 155) .long x f = oix x 1 (f (m 155 x.toNat)) := jgi_hp 155 rfl x f
theorem as_155 (x y : Int) (f : jH → jR) : jal (hp cf dv m, k) (jn cf + 155) x y f = oix x 1 (f (hp cf dv (mset m 155 x.toNat y), k)) := jal_hp 155 rfl x y f
def jgd (w : jH) (a : Nat) (x : Int) (f : UInt64 → jR) : jR := jgq w a fun ty k g => if ty = .double then jix x k (jvD (g x.toNat) f) else none
def jad (w : jH) (a : Nat) (x : Int) (y : UInt64) (f : jH → jR) : jR := jgq w a fun ty k g => if ty = .double then jix x k (f (jset w a (.inr (.inr (.double, (k, juv g x.toNat (.double y))))))) else none
theorem lay_d (q : Nat) (h : jlay[q]? = some (.inr (.inr false))) : q = 156 := by
  have hq : q < 157 := Nat.lt_of_lt_of_le (List.getElem?_eq_some_iff.mp h).1 (by decide +kernel : jlay.length ≤ 157)
  have h1 := List.all_eq_true.mp (by decide +kernel : ((List.range 157).all fun q => match jlay[q]? with | some (.inr (.inr false)) => Nat.beq q 156 | _ => true) = true) q (List.mem_range.mpr hq)
  rw [h] at h1
  exact Nat.eq_of_beq_eq_true h1
theorem jgd_hp (x : Int) (f : UInt64 → jR) : jgd (hp cf dv m, k) (jn cf + 156) x f = oix x 1 (f dv) := by
  unfold jgd jgq
  show (match hp cf dv m (jn cf + 156) with | some (.inr (.inr (t, (n, g)))) => (if t = FieldType.double then jix x n (jvD (g x.toNat) f) else none) | _ => none) = _
  rw [hp_at 156 rfl]
  show jix x 1 (jvD (if x.toNat = 0 then .double dv else .double 0) f) = _
  by_cases hx : 0 ≤ x ∧ x < ((1 : Nat) : Int)
  · have h0 : x = 0 := by omega
    subst h0
    rfl
  · unfold jix oix
    rw [if_neg hx, if_neg hx]
theorem jad_hp (x : Int) (y : UInt64) (f : jH → jR) : jad (hp cf dv m, k) (jn cf + 156) x y f = oix x 1 (f (hp cf y m, k)) := by
  unfold jad jgq
  show (match hp cf dv m (jn cf + 156) with | some (.inr (.inr (t, (n, g)))) => (if t = FieldType.double then jix x n (f (jset (hp cf dv m, k) (jn cf + 156) (.inr (.inr (.double, (n, juv g x.toNat (.double y))))))) else none) | _ => none) = _
  rw [hp_at 156 rfl]
  show jix x 1 (f _) = _
  by_cases hx : 0 ≤ x ∧ x < ((1 : Nat) : Int)
  · have h0 : x = 0 := by omega
    subst h0
    refine congrArg (fun w => jix 0 1 (f w)) ?_
    refine Prod.ext ?_ rfl
    funext p
    show (if p = jn cf + 156 then some (.inr (.inr (.double, (1, juv (fun j => if j = 0 then .double dv else .double 0) 0 (.double y))))) else hp cf dv m p) = hp cf y m p
    by_cases hp' : p = jn cf + 156
    · rw [if_pos hp', hp', hp_at 156 rfl]
      refine congrArg (fun g : Nat → Value => (some (Sum.inr (Sum.inr (FieldType.double, (1, g)))) : Option jE)) ?_
      funext j
      unfold juv
      by_cases hj : j = 0
      · rw [if_pos hj, if_pos hj]
      · rw [if_neg hj, if_neg hj]
        exact if_neg hj
    · rw [if_neg hp']
      unfold hp
      cases hb : Nat.blt p (jn cf) with
      | true => rfl
      | false =>
        have h1 : ¬ p < jn cf := by
          intro h2
          rw [← Nat.blt_eq] at h2
          rw [h2] at hb
          cases hb
        show Option.map _ _ = Option.map _ _
        cases hl : jlay[p - jn cf]? with
        | none => rfl
        | some sh =>
          rcases sh with ⟨t, n⟩ | ⟨c, l⟩ | t
          · rfl
          · rfl
          · cases t with
            | true => rfl
            | false => exact absurd (lay_d _ hl) (by omega)
  · unfold jix oix
    rw [if_neg hx, if_neg hx]
end Cells

/-! ===== the small interpreter: values, cells, heaps ===== -/
/-- an int, a long, or another value of the machine's -/
abbrev jV : Type := Int ⊕ (Int ⊕ Value)
/-- an array of ints (or chars, booleans, longs); an object; an array of other values -/
abbrev jE : Type := (FieldType × (Nat × (Nat → Int))) ⊕ ((Nat × List jV) ⊕ (FieldType × (Nat × (Nat → Value))))
/-- the heap's size where it is known; cells and slots made so far -/
abbrev jM : Type := Option Nat × (Nat × Nat)
abbrev jH : Type := (Nat → Option jE) × jM
abbrev jL : Type := List (Option jV)
/-- returned, or threw an exception of this class -/
abbrev jO : Type := Option jV ⊕ String
abbrev jR : Type := Option (jO × jH)
abbrev jr (a : Nat) : jV := .inr (.inr (.ref a))
def jw (z : Int) : Int := Int.bmod z 4294967296
def jset (w : jH) (a : Nat) (e : jE) : jH := (fun q => if q = a then some e else w.1 q, w.2)
def jthr (w : jH) : jH := (w.1, (none, (w.2.2.1 + 1, w.2.2.2 + 6)))
def jfits (ty : FieldType) (x : Int) : Bool := match ty with
  | .int => true
  | .boolean => x == 0 || x == 1
  | .char => Nat.ble 0 x.toNat && (decide (0 ≤ x) && decide (x < 65536))
  | _ => false
def jlI (ls : jL) (k : Nat) (f : Int → jR) : jR := match ls[k]? with
  | some (some (.inl x)) => f x
  | _ => none
def jlR (ls : jL) (k : Nat) (f : Nat → jR) : jR := match ls[k]? with
  | some (some (.inr (.inr (.ref a)))) => f a
  | _ => none
def jlF (ls : jL) (k : Nat) (f : UInt32 → jR) : jR := match ls[k]? with
  | some (some (.inr (.inr (.float a)))) => f a
  | _ => none
def jlD (ls : jL) (k : Nat) (f : UInt64 → jR) : jR := match ls[k]? with
  | some (some (.inr (.inr (.double a)))) => f a
  | _ => none
/-- a value of one slot of its own, laid into local k (doubles lie in local 7 alone) -/
def jst1 (ls : jL) (k : Nat) (v : jV) (f : jL → jR) : jR := match Nat.blt k ls.length && !(Nat.beq k 8) with
  | true => f (ls.set k (some v))
  | false => none
/-- a double, laid into locals 7 and 8 -/
def jst2 (ls : jL) (k : Nat) (v : jV) (f : jL → jR) : jR := match Nat.blt 8 ls.length && Nat.beq k 7 with
  | true => f ((ls.set 7 (some v)).set 8 none)
  | false => none
def jp0 (st : List jV) (f : Int → List jV → jR) : jR := match st with
  | .inl x :: r => f x r
  | _ => none
def jp2 (st : List jV) (f : Int → Int → List jV → jR) : jR := match st with
  | .inl y :: .inl x :: r => f x y r
  | _ => none
def jpL (st : List jV) (f : Int → Int → List jV → jR) : jR := match st with
  | .inr (.inl y) :: .inr (.inl x) :: r => f x y r
  | _ => none
def jpR (st : List jV) (f : Nat → List jV → jR) : jR := match st with
  | .inr (.inr (.ref a)) :: r => f a r
  | _ => none
def jpF (st : List jV) (f : UInt32 → List jV → jR) : jR := match st with
  | .inr (.inr (.float a)) :: r => f a r
  | _ => none
def jpD (st : List jV) (f : UInt64 → List jV → jR) : jR := match st with
  | .inr (.inr (.double a)) :: r => f a r
  | _ => none
/-- index and array -/
def jpA (st : List jV) (f : Nat → Int → List jV → jR) : jR := match st with
  | .inl i :: .inr (.inr (.ref a)) :: r => f a i r
  | _ => none
/-- value, index and array -/
def jpS (st : List jV) (f : Nat → Int → jV → List jV → jR) : jR := match st with
  | v :: .inl i :: .inr (.inr (.ref a)) :: r => f a i v r
  | _ => none
/-- an array of ints of this type -/
def jga (w : jH) (a : Nat) (ty : FieldType) (f : Nat → (Nat → Int) → jR) : jR := match w.1 a with
  | some (.inl (t, (n, g))) => if t = ty then f n g else none
  | _ => none
def jgq (w : jH) (a : Nat) (f : FieldType → Nat → (Nat → Value) → jR) : jR := match w.1 a with
  | some (.inr (.inr (t, (n, g)))) => f t n g
  | _ => none
def jgo (w : jH) (a : Nat) (ci : Nat) (f : List jV → jR) : jR := match w.1 a with
  | some (.inr (.inl (c, fs))) => if c = ci then f fs else none
  | _ => none
def jup (g : Nat → Int) (k : Nat) (x : Int) : Nat → Int := fun j => if j = k then x else g j
def juv (g : Nat → Value) (k : Nat) (x : Value) : Nat → Value := fun j => if j = k then x else g j
def jix (i : Int) (n : Nat) (r : jR) : jR := if 0 ≤ i ∧ i < (n : Int) then r else none
def jald (w : jH) (ty : FieldType) (st : List jV) (f : Int → List jV → jR) : jR := jpA st fun a i r => jga w a ty fun n g => jix i n (f (g i.toNat) r)
def jast (w : jH) (ty : FieldType) (st : List jV) (f : List jV → jH → jR) : jR := jpS st fun a i v r => match v with
  | .inl x => jga w a ty fun n g => jix i n (if jfits ty x = true then f r (jset w a (.inl (ty, (n, jup g i.toNat x)))) else none)
  | _ => none
def jfld (fs : List jV) (k : Nat) (f : jV → jR) : jR := match fs, k with
  | v :: _, 0 => f v
  | _ :: r, k + 1 => jfld r k f
  | [], _ => none
def jlda (w : jH) (a : Nat) (i : Int) (f : Int → jR) : jR := match w.1 a with
  | some (.inl (.int, (n, g))) => jix i n (f (g i.toNat))
  | some (.inr (.inr (.int, (n, g)))) => jix i n (match g i.toNat with | .int x => f x.toInt | _ => none)
  | _ => none
def jleng (w : jH) (a : Nat) (f : Int → jR) : jR := match w.1 a with
  | some (.inr (.inr (_, (n, _)))) => f (n : Int)
  | _ => none
def jvD (v : Value) (f : UInt64 → jR) : jR := match v with
  | .double x => f x
  | _ => none
def jvR (v : Value) (f : Nat → jR) : jR := match v with
  | .ref x => f x
  | _ => none
def jsgn (x y : Int) : Int := if x < y then -1 else if x = y then 0 else 1
def jpush (v : Option jV) (st : List jV) : List jV := match v with
  | some x => x :: st
  | none => st
def jcl (r : jR) (kr : Option jV → jH → jR) (kx : String → jH → jR) : jR := match r with
  | some (.inl v, w) => kr v w
  | some (.inr E, w) => kx E w
  | none => none
def jret (v : Option jV) (w : jH) : jR := some (.inl v, w)
def jtgt (pc : Nat) (off : Int) : Nat := ((pc : Int) + off).toNat
/-- what an int compared with another decides -/
def jic (c : ClassFile.Cond) (x y : Int) (s t : jR) : jR := match c with
  | .eq => if x = y then s else t
  | .ne => if x = y then t else s
  | .lt => if x < y then s else t
  | .ge => if x < y then t else s
  | .gt => if y < x then s else t
  | .le => if y < x then t else s
/-- the values of a call's parameters off the stack -/
def jpop : Nat → List jV → List jV → Option (List jV × List jV)
  | 0, acc, st => some (acc, st)
  | n + 1, acc, v :: st => jpop n (v :: acc) st
  | _ + 1, _, [] => none
/-- how a call is resolved: kind (0: an instance's method, 1: static, 2: a constructor, 3: max, 4: min), the method's number, how many parameters -/
abbrev jMR : Type := Nat × (Nat × Nat)
/-- the tables: code, calls, fields (class number, place, type), classes made (number, fresh fields, exception?), int constants, catching, the type of the answer -/
abbrev jT : Type := (Nat → Nat → Option Instr) × ((Nat → Nat → Option jMR) × ((Nat → Nat → Option (Nat × (Nat × FieldType))) × ((Nat → Nat → Option ((Nat × List jV) ⊕ String)) × ((Nat → Nat → Option Int) × ((Nat → String → Option (Nat × Nat)) × ((Nat → Option FieldType) × ((Nat → Nat) × (Nat → Nat → Bool))))))))
def jcode (t : jT) : Nat → Nat → Option Instr := t.1
def jmres (t : jT) : Nat → Nat → Option jMR := t.2.1
def jfres (t : jT) : Nat → Nat → Option (Nat × (Nat × FieldType)) := t.2.2.1
def jkres (t : jT) : Nat → Nat → Option ((Nat × List jV) ⊕ String) := t.2.2.2.1
def jcres (t : jT) : Nat → Nat → Option Int := t.2.2.2.2.1
def jhres (t : jT) : Nat → String → Option (Nat × Nat) := t.2.2.2.2.2.1
def jtres (t : jT) : Nat → Option FieldType := t.2.2.2.2.2.2.1
def jores (t : jT) : Nat → Nat := t.2.2.2.2.2.2.2.1
/-- points where a stretch ends: loops' heads, and others -/
def jcut (t : jT) : Nat → Nat → Bool := t.2.2.2.2.2.2.2.2
/-- a call of an instance's method asks for an object of the method's own class -/
def jrc (kd : Nat) (w : jH) (a ci : Nat) (r : jR) : jR := match kd with
  | 0 => jgo w a ci fun _ => r
  | _ => r
def jb8 (n : Int) : Bool := match n with
  | .ofNat k => Nat.blt k 128
  | .negSucc k => Nat.blt k 128
def jb16 (n : Int) : Bool := match n with
  | .ofNat k => Nat.blt k 32768
  | .negSucc k => Nat.blt k 32768
def jsv (ty : FieldType) (v : jV) : Bool := match v with
  | .inl x => jfits ty x
  | .inr (.inr (.ref _)) => (match ty with | .object _ => true | .array _ => true | _ => false)
  | _ => false
/-- the slots that a value takes on the stack -/
def jcat (v : jV) : Nat := match v with
  | .inl _ => 1
  | .inr (.inl _) => 2
  | .inr (.inr (.double _)) => 2
  | _ => 1
def jcats : List jV → Nat
  | [] => 0
  | v :: r => jcat v + jcats r
/-- what lies below a call's parameters is small -/
def jsh (st : List jV) (r : jR) : jR := match Nat.ble (jcats st) 8 with
  | true => r
  | false => none
def jinv (t : jT) (mu : Nat) (cl : Nat → List jV → jH → jR) (go : Nat → jL → List jV → jH → jR) (pc idx : Nat) (ls : jL) (st : List jV) (w : jH) (inst : Bool) : jR := match jmres t mu idx with
  | some (kd, (mu', n)) => (match jpop n [] st with
    | some (as, st') => (match inst with
      | true => jpR st' fun a r => jsh r (jrc kd w a (jores t mu') (jcl (cl mu' (jr a :: as) w) (fun v w' => go (pc + 3) ls (jpush v r) w') (fun E w' => match jhres t mu E with
        | some (h, k) => go h (ls.set k none) [] w'
        | none => some (.inr E, w'))))
      | false => (match kd, as with
        | 3, [.inl x, .inl y] => jsh st' (go (pc + 3) ls (.inl (if x < y then y else x) :: st') w)
        | 4, [.inl x, .inl y] => jsh st' (go (pc + 3) ls (.inl (if y < x then y else x) :: st') w)
        | 1, as => jsh st' (jcl (cl mu' as w) (fun v w' => go (pc + 3) ls (jpush v st') w') (fun E w' => match jhres t mu E with
          | some _ => none
          | none => some (.inr E, w')))
        | _, _ => none))
    | none => none)
  | none => none
/-- the place of a sign in "fcbapnekgy" -/
def jidx (x : Int) : Int := if x = 102 then 0 else if x = 99 then 1 else if x = 98 then 2 else if x = 97 then 3 else if x = 112 then 4 else if x = 110 then 5 else if x = 101 then 6 else if x = 107 then 7 else if x = 103 then 8 else if x = 121 then 9 else -1
def jzero (aty : ArrayType) : jE := match aty with
  | .int => .inl (.int, (0, fun _ => 0))
  | .char => .inl (.char, (0, fun _ => 0))
  | .boolean => .inl (.boolean, (0, fun _ => 0))
  | .long => .inl (.long, (0, fun _ => 0))
  | .double => .inr (.inr (.double, (0, fun _ => .double 0)))
  | _ => .inr (.inr (.byte, (0, fun _ => .null)))
def jlen0 (e : jE) (n : Nat) : jE := match e with
  | .inl (t, (_, g)) => .inl (t, (n, g))
  | .inr (.inr (t, (_, g))) => .inr (.inr (t, (n, g)))
  | e => e
/-- one more cell, with n slots -/
def jnew (w : jH) (e : jE) (n : Nat) (f : Nat → jH → jR) : jR := match w.2.1 with
  | some a => f a ((fun q => if q = a then some e else w.1 q), (some (a + 1), (w.2.2.1 + 1, w.2.2.2 + n)))
  | none => none
def jst (t : jT) (mu : Nat) (cl : Nat → List jV → jH → jR) (go : Nat → jL → List jV → jH → jR) (pc : Nat) (i : Instr) (ls : jL) (st : List jV) (w : jH) : jR := match i with
  | .aload_n k => jlR ls k.val fun a => go (pc + 1) ls (jr a :: st) w
  | .aload k => jlR ls k fun a => go (pc + 2) ls (jr a :: st) w
  | .iload_n k => jlI ls k.val fun x => go (pc + 1) ls (.inl x :: st) w
  | .iload k => jlI ls k fun x => go (pc + 2) ls (.inl x :: st) w
  | .fload k => jlF ls k fun x => go (pc + 2) ls (.inr (.inr (.float x)) :: st) w
  | .dload k => jlD ls k fun x => go (pc + 2) ls (.inr (.inr (.double x)) :: st) w
  | .astore_n k => jpR st fun a r => jst1 ls k.val (jr a) fun ls' => go (pc + 1) ls' r w
  | .astore k => jpR st fun a r => jst1 ls k (jr a) fun ls' => go (pc + 2) ls' r w
  | .istore_n k => jp0 st fun x r => jst1 ls k.val (.inl x) fun ls' => go (pc + 1) ls' r w
  | .istore k => jp0 st fun x r => jst1 ls k (.inl x) fun ls' => go (pc + 2) ls' r w
  | .fstore k => jpF st fun x r => jst1 ls k (.inr (.inr (.float x))) fun ls' => go (pc + 2) ls' r w
  | .dstore k => jpD st fun x r => jst2 ls k (.inr (.inr (.double x))) fun ls' => go (pc + 2) ls' r w
  | .iconst n => (match jb8 n with | true => go (pc + 1) ls (.inl n :: st) w | false => none)
  | .bipush n => (match jb8 n with | true => go (pc + 2) ls (.inl n :: st) w | false => none)
  | .sipush n => (match jb16 n with | true => go (pc + 3) ls (.inl n :: st) w | false => none)
  | .lconst n => go (pc + 1) ls (.inr (.inl (n.val : Int)) :: st) w
  | .fconst n => (match n.val with | 0 => go (pc + 1) ls (.inr (.inr (.float 0)) :: st) w | _ => none)
  | .dconst n => (match n.val with | 0 => go (pc + 1) ls (.inr (.inr (.double 0)) :: st) w | _ => none)
  | .iinc k n => jlI ls k fun x => jst1 ls k (.inl (jw (x + n))) fun ls' => go (pc + 3) ls' st w
  | .iadd => jp2 st fun x y r => go (pc + 1) ls (.inl (jw (x + y)) :: r) w
  | .isub => jp2 st fun x y r => go (pc + 1) ls (.inl (jw (x - y)) :: r) w
  | .imul => jp2 st fun x y r => go (pc + 1) ls (.inl (jw (x * y)) :: r) w
  | .idiv => jp2 st fun x y r => if 0 < y ∧ 0 ≤ x then go (pc + 1) ls (.inl (x / y) :: r) w else none
  | .irem => jp2 st fun x y r => if 0 < y ∧ 0 ≤ x then go (pc + 1) ls (.inl (x % y) :: r) w else none
  | .iand => jp2 st fun x y r => if y = 63 then go (pc + 1) ls (.inl (x % 64) :: r) w else none
  | .i2c => jp0 st fun x r => go (pc + 1) ls (.inl (x % 65536) :: r) w
  | .i2l => jp0 st fun x r => go (pc + 1) ls (.inr (.inl x) :: r) w
  | .i2d => jp0 st fun x r => go (pc + 1) ls (.inr (.inr (.double (FP.i2d (Int32.ofInt x)))) :: r) w
  | .i2f => jp0 st fun x r => go (pc + 1) ls (.inr (.inr (.float (FP.i2f (Int32.ofInt x)))) :: r) w
  | .lcmp => jpL st fun x y r => go (pc + 1) ls (.inl (jsgn x y) :: r) w
  | .dup => (match st with | v :: r => (match v with | .inl _ => go (pc + 1) ls (v :: v :: r) w | .inr (.inr (.ref _)) => go (pc + 1) ls (v :: v :: r) w | _ => none) | _ => none)
  | .dup2 => (match st with | .inl x :: .inr (.inr (.ref a)) :: r => go (pc + 1) ls (.inl x :: jr a :: .inl x :: jr a :: r) w | _ => none)
  | .pop => jp0 st fun _ r => go (pc + 1) ls r w
  | .ifCond c off => jp0 st fun x r => jic c x 0 (go (jtgt pc off) ls r w) (go (pc + 3) ls r w)
  | .if_icmp c off => jp2 st fun x y r => jic c x y (go (jtgt pc off) ls r w) (go (pc + 3) ls r w)
  | .goto off => go (jtgt pc off) ls st w
  | .ifnull _ => jpR st fun _ r => go (pc + 3) ls r w
  | .ifnonnull off => jpR st fun _ r => go (jtgt pc off) ls r w
  | .tableswitch d lo hi offs => jp0 st fun x r => if x < lo ∨ hi < x then go (jtgt pc d) ls r w else (match offs[(x - lo).toNat]? with | some off => go (jtgt pc off) ls r w | none => none)
  | .lookupswitch d ps => jp0 st fun x r => go (jtgt pc (Op.lookupswitch.offset ps.toList d x)) ls r w
  | .iaload => jpA st fun a i r => jlda w a i fun x => go (pc + 1) ls (.inl x :: r) w
  | .baload => jald w .boolean st fun x r => go (pc + 1) ls (.inl x :: r) w
  | .caload => jald w .char st fun x r => go (pc + 1) ls (.inl x :: r) w
  | .laload => jald w .long st fun x r => go (pc + 1) ls (.inr (.inl x) :: r) w
  | .daload => jpA st fun a i r => jgq w a fun ty n g => if ty = .double then jix i n (jvD (g i.toNat) fun x => go (pc + 1) ls (.inr (.inr (.double x)) :: r) w) else none
  | .aaload => jpA st fun a i r => jgq w a fun ty n g => if ty = .object "HabitRegistry$State" then jix i n (jvR (g i.toNat) fun x => go (pc + 1) ls (jr x :: r) w) else none
  | .iastore => jast w .int st fun r w' => go (pc + 1) ls r w'
  | .bastore => jast w .boolean st fun r w' => go (pc + 1) ls r w'
  | .castore => jast w .char st fun r w' => go (pc + 1) ls r w'
  | .lastore => jpS st fun a i v r => (match v with
    | .inr (.inl x) => jga w a .long fun n g => jix i n (go (pc + 1) ls r (jset w a (.inl (.long, (n, jup g i.toNat x)))))
    | _ => none)
  | .dastore => jpS st fun a i v r => (match v with
    | .inr (.inr (.double x)) => jgq w a fun ty n g => if ty = .double then jix i n (go (pc + 1) ls r (jset w a (.inr (.inr (.double, (n, juv g i.toNat (.double x))))))) else none
    | _ => none)
  | .aastore => jpS st fun a i v r => (match v with
    | .inr (.inr (.ref x)) => jgq w a fun ty n g => if ty = .object "HabitRegistry$State" then jix i n (jgo w x 7 fun _ => go (pc + 1) ls r (jset w a (.inr (.inr (ty, (n, juv g i.toNat (.ref x))))))) else none
    | _ => none)
  | .arraylength => jpR st fun a r => jleng w a fun x => go (pc + 1) ls (.inl x :: r) w
  | .getfield idx => (match jfres t mu idx with
    | some (ci, (k, _)) => jpR st fun a r => jgo w a ci fun fs => jfld fs k fun v => go (pc + 3) ls (v :: r) w
    | none => none)
  | .putfield idx => (match jfres t mu idx with
    | some (ci, (k, ty)) => (match st with
      | v :: .inr (.inr (.ref a)) :: r => jgo w a ci fun fs => if k < fs.length ∧ jsv ty v = true then go (pc + 3) ls r (jset w a (.inr (.inl (ci, fs.set k v)))) else none
      | _ => none)
    | none => none)
  | .ldc idx => (match jcres t mu idx with
    | some k => jlI ls k.toNat fun x => jsh st (go (pc + 6) ls (.inl (jidx x) :: st) w)
    | none => none)
  | .new idx => (match jkres t mu idx with
    | some (.inr E) => jsh st (some (.inr E, jthr w))
    | some (.inl (ci, fs)) => jnew w (.inr (.inl (ci, fs))) fs.length fun a w' => go (pc + 3) ls (jr a :: st) w'
    | none => none)
  | .newarray aty => jp0 st fun x r => if 0 ≤ x ∧ x < 2000 then jnew w (jlen0 (jzero aty) x.toNat) x.toNat fun a w' => go (pc + 2) ls (jr a :: r) w' else none
  | .anewarray _ => jp0 st fun x r => if x = 9 then jnew w (.inr (.inr (.object "HabitRegistry$State", (9, fun _ => .null)))) 9 fun a w' => go (pc + 3) ls (jr a :: r) w' else none
  | .invokevirtual idx => (match jmres t mu idx with
    | some (0, _) => jinv t mu cl go pc idx ls st w true
    | _ => none)
  | .invokestatic idx => jinv t mu cl go pc idx ls st w false
  | .invokespecial idx => (match jmres t mu idx with
    | some (5, _) => jpR st fun _ r => jsh r (go (pc + 3) ls r w)
    | some (2, _) => jinv t mu cl go pc idx ls st w true
    | _ => none)
  | .ireturn => (match st, jtres t mu with | [.inl x], some ty => if jfits ty x = true then jret (some (.inl x)) w else none | _, _ => none)
  | .areturn => (match st, jtres t mu with | [.inr (.inr (.ref a))], some (.object _) => jret (some (jr a)) w | [.inr (.inr (.ref a))], some (.array _) => jret (some (jr a)) w | _, _ => none)
  | .freturn => (match st, jtres t mu with | [.inr (.inr (.float a))], some .float => jret (some (.inr (.inr (.float a)))) w | _, _ => none)
  | .dreturn => (match st, jtres t mu with | [.inr (.inr (.double a))], some .double => jret (some (.inr (.inr (.double a)))) w | _, _ => none)
  | .return_ => (match st, jtres t mu with | [], none => jret none w | _, _ => none)
  | .ddiv => (match st with | .inr (.inr (.double y)) :: .inr (.inr (.double x)) :: r => if FP.ddiv x y &&& 0x7fffffffffffffff ≤ 0x7ff0000000000000 then go (pc + 1) ls (.inr (.inr (.double (FP.ddiv x y))) :: r) w else none | _ => none)
  | .fdiv => (match st with | .inr (.inr (.float y)) :: .inr (.inr (.float x)) :: r => if FP.fdiv x y &&& 0x7fffffff ≤ 0x7f800000 then go (pc + 1) ls (.inr (.inr (.float (FP.fdiv x y))) :: r) w else none | _ => none)
  | .f2d => jpF st fun x r => if FP.f2d x &&& 0x7fffffffffffffff ≤ 0x7ff0000000000000 then go (pc + 1) ls (.inr (.inr (.double (FP.f2d x))) :: r) w else none
  | .dcmp op => (match st with | .inr (.inr (.double y)) :: .inr (.inr (.double x)) :: r => go (pc + 1) ls (.inl (Op.cmpValue (FP.dcmp x y) op).toInt :: r) w | _ => none)
  | .fcmp op => (match st with | .inr (.inr (.float y)) :: .inr (.inr (.float x)) :: r => go (pc + 1) ls (.inl (Op.cmpValue (FP.fcmp x y) op).toInt :: r) w | _ => none)
  | _ => none
def jblk (t : jT) (mu : Nat) (cl : Nat → List jV → jH → jR) (bk : Nat → jL → List jV → jH → jR) : Nat → Nat → jL → List jV → jH → jR
  | 0, _, _, _, _ => none
  | n + 1, pc, ls, st, w => match jcode t mu pc with
    | some i => jst t mu cl (fun pc' ls' st' w' => match Nat.blt pc pc' && !(jcut t mu pc') with
      | true => jblk t mu cl bk n pc' ls' st' w'
      | false => bk pc' ls' st' w') pc i ls st w
    | none => none
def jlp (t : jT) (mu : Nat) (cl : Nat → List jV → jH → jR) : Nat → Nat → jL → List jV → jH → jR
  | 0, _, _, _, _ => none
  | n + 1, pc, ls, st, w => jblk t mu cl (jlp t mu cl n) 4000 pc ls st w
/-- each of one slot -/
def jone : List jV → Bool
  | [] => true
  | v :: r => Nat.beq (jcat v) 1 && jone r
/-- the locals at a method's entry: its parameters, then what is unset -/
def jme (t : jT) (mx : Nat → Nat) : Nat → Nat → List jV → jH → jR
  | 0, _, _, _ => none
  | d + 1, mu, as, w => (match Nat.ble as.length (mx mu) && jone as with
    | true => jlp t mu (jme t mx d) 100000 0 (as.map some ++ List.replicate (mx mu - as.length) none) [] w
    | false => none)

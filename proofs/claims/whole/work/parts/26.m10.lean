/-! ===== the model 10 ===== -/
section
variable (cl : Nat → List jV → jH → jR) (bk : Nat → jL → List jV → jH → jR) (n : Nat)
theorem E277_0 (a : Nat) (st : List jV) (l1 l2 : Option jV) (w : jH) : jblk jT0 277 cl bk (n + 1) 0 [some (jr a), l1, l2] st w = jblk jT0 277 cl bk n 1 [some (jr a), l1, l2] (jr a :: st) w := rfl
theorem E277_1 (a : Nat) (st : List jV) (l0 l1 l2 : Option jV) (w : jH) : jblk jT0 277 cl bk (n + 1) 1 [l0, l1, l2] (jr a :: st) w = jgf w a 9 18 fun v => jblk jT0 277 cl bk n 4 [l0, l1, l2] (v :: st) w := rfl
theorem E277_4 (x : Int) (st : List jV) (l0 l2 : Option jV) (w : jH) : jblk jT0 277 cl bk (n + 1) 4 [l0, some (.inl x), l2] st w = jblk jT0 277 cl bk n 5 [l0, some (.inl x), l2] (.inl x :: st) w := rfl
theorem E277_5 (st : List jV) (l0 l1 l2 : Option jV) (w : jH) : jblk jT0 277 cl bk (n + 1) 5 [l0, l1, l2] st w = jblk jT0 277 cl bk n 6 [l0, l1, l2] (.inl 1 :: st) w := rfl
theorem E277_6 (x : Int) (y : Int) (st : List jV) (l0 l1 l2 : Option jV) (w : jH) : jblk jT0 277 cl bk (n + 1) 6 [l0, l1, l2] (.inl y :: .inl x :: st) w = jblk jT0 277 cl bk n 7 [l0, l1, l2] (.inl (jw (x + y)) :: st) w := rfl
theorem E277_7 (x : Int) (a : Nat) (st : List jV) (l0 l1 l2 : Option jV) (w : jH) : jblk jT0 277 cl bk (n + 1) 7 [l0, l1, l2] (.inl x :: jr a :: st) w = jlda w a x (fun z => jblk jT0 277 cl bk n 8 [l0, l1, l2] (.inl z :: st) w) := rfl
theorem E277_8 (x : Int) (st : List jV) (l0 l1 l2 : Option jV) (w : jH) : jblk jT0 277 cl bk (n + 1) 8 [l0, l1, l2] (.inl x :: st) w = jblk jT0 277 cl bk n 9 [l0, l1, some (.inl x)] st w := rfl
theorem E277_9 (a : Nat) (st : List jV) (l1 l2 : Option jV) (w : jH) : jblk jT0 277 cl bk (n + 1) 9 [some (jr a), l1, l2] st w = jblk jT0 277 cl bk n 10 [some (jr a), l1, l2] (jr a :: st) w := rfl
theorem E277_10 (a : Nat) (st : List jV) (l0 l1 l2 : Option jV) (w : jH) : jblk jT0 277 cl bk (n + 1) 10 [l0, l1, l2] (jr a :: st) w = jgf w a 9 18 fun v => jblk jT0 277 cl bk n 13 [l0, l1, l2] (v :: st) w := rfl
theorem E277_13 (x : Int) (st : List jV) (l0 l2 : Option jV) (w : jH) : jblk jT0 277 cl bk (n + 1) 13 [l0, some (.inl x), l2] st w = jblk jT0 277 cl bk n 14 [l0, some (.inl x), l2] (.inl x :: st) w := rfl
theorem E277_14 (x : Int) (a : Nat) (st : List jV) (l0 l1 l2 : Option jV) (w : jH) : jblk jT0 277 cl bk (n + 1) 14 [l0, l1, l2] (.inl x :: jr a :: st) w = jlda w a x (fun z => jblk jT0 277 cl bk n 15 [l0, l1, l2] (.inl z :: st) w) := rfl
theorem E277_15 (x : Int) (st : List jV) (l0 l1 l2 : Option jV) (w : jH) : jblk jT0 277 cl bk (n + 1) 15 [l0, l1, l2] (.inl x :: st) w = if x = 97 then jblk jT0 277 cl bk n 109 [l0, l1, l2] st w else if x = 98 then jblk jT0 277 cl bk n 103 [l0, l1, l2] st w else if x = 99 then jblk jT0 277 cl bk n 97 [l0, l1, l2] st w else if x = 100 then jblk jT0 277 cl bk n 170 [l0, l1, l2] st w else if x = 101 then jblk jT0 277 cl bk n 144 [l0, l1, l2] st w else if x = 102 then jblk jT0 277 cl bk n 92 [l0, l1, l2] st w else if x = 103 then jblk jT0 277 cl bk n 156 [l0, l1, l2] st w else if x = 104 then jblk jT0 277 cl bk n 170 [l0, l1, l2] st w else if x = 105 then jblk jT0 277 cl bk n 170 [l0, l1, l2] st w else if x = 106 then jblk jT0 277 cl bk n 170 [l0, l1, l2] st w else if x = 107 then jblk jT0 277 cl bk n 150 [l0, l1, l2] st w else if x = 108 then jblk jT0 277 cl bk n 170 [l0, l1, l2] st w else if x = 109 then jblk jT0 277 cl bk n 170 [l0, l1, l2] st w else if x = 110 then jblk jT0 277 cl bk n 138 [l0, l1, l2] st w else if x = 111 then jblk jT0 277 cl bk n 170 [l0, l1, l2] st w else if x = 112 then jblk jT0 277 cl bk n 132 [l0, l1, l2] st w else jblk jT0 277 cl bk n 170 [l0, l1, l2] st w := by
  refine (show _ = (if x < 97 ∨ 112 < x then (fun off : Int => (match Nat.blt 15 (jtgt 15 off) && !(jct 277 (jtgt 15 off)) with | true => jblk jT0 277 cl bk n (jtgt 15 off) [l0, l1, l2] st w | false => bk (jtgt 15 off) [l0, l1, l2] st w)) 155 else (match (#[94, 88, 82, 155, 129, 77, 141, 155, 155, 155, 135, 155, 155, 123, 155, 117] : Array Int)[(x - 97).toNat]? with | some off => (fun off : Int => (match Nat.blt 15 (jtgt 15 off) && !(jct 277 (jtgt 15 off)) with | true => jblk jT0 277 cl bk n (jtgt 15 off) [l0, l1, l2] st w | false => bk (jtgt 15 off) [l0, l1, l2] st w)) off | none => none)) from rfl).trans ?_
  refine (jtsw 97 112 [94, 88, 82, 155, 129, 77, 141, 155, 155, 155, 135, 155, 155, 123, 155, 117] 155 x (fun off : Int => (match Nat.blt 15 (jtgt 15 off) && !(jct 277 (jtgt 15 off)) with | true => jblk jT0 277 cl bk n (jtgt 15 off) [l0, l1, l2] st w | false => bk (jtgt 15 off) [l0, l1, l2] st w)) (by decide)).trans ?_
  rfl
theorem E277_92 (a : Nat) (st : List jV) (l1 l2 : Option jV) (w : jH) : jblk jT0 277 cl bk (n + 1) 92 [some (jr a), l1, l2] st w = jblk jT0 277 cl bk n 93 [some (jr a), l1, l2] (jr a :: st) w := rfl
theorem E277_93 (a : Nat) (st : List jV) (l0 l1 l2 : Option jV) (w : jH) : jblk jT0 277 cl bk (n + 1) 93 [l0, l1, l2] (jr a :: st) w = jsh st (jgo w a 9 fun _ => jcl (cl 189 [jr a] w) (fun v w' => jblk jT0 277 cl bk n 96 [l0, l1, l2] (jpush v st) w') (fun E w' => some (.inr E, w'))) := rfl
theorem E277_96 (x : Int) (l0 l1 l2 : Option jV) (w : jH) : jblk jT0 277 cl bk (n + 1) 96 [l0, l1, l2] [.inl x] w = if jfits .int x = true then some (.inl (some (.inl x)), w) else none := rfl
theorem E277_97 (a : Nat) (st : List jV) (l1 l2 : Option jV) (w : jH) : jblk jT0 277 cl bk (n + 1) 97 [some (jr a), l1, l2] st w = jblk jT0 277 cl bk n 98 [some (jr a), l1, l2] (jr a :: st) w := rfl
theorem E277_98 (x : Int) (st : List jV) (l0 l1 : Option jV) (w : jH) : jblk jT0 277 cl bk (n + 1) 98 [l0, l1, some (.inl x)] st w = jblk jT0 277 cl bk n 99 [l0, l1, some (.inl x)] (.inl x :: st) w := rfl
theorem E277_99 (a : Nat) (v0 : jV) (st : List jV) (l0 l1 l2 : Option jV) (w : jH) : jblk jT0 277 cl bk (n + 1) 99 [l0, l1, l2] (v0 :: jr a :: st) w = jsh st (jgo w a 9 fun _ => jcl (cl 190 [jr a, v0] w) (fun v w' => jblk jT0 277 cl bk n 102 [l0, l1, l2] (jpush v st) w') (fun E w' => some (.inr E, w'))) := rfl
theorem E277_102 (x : Int) (l0 l1 l2 : Option jV) (w : jH) : jblk jT0 277 cl bk (n + 1) 102 [l0, l1, l2] [.inl x] w = if jfits .int x = true then some (.inl (some (.inl x)), w) else none := rfl
theorem E277_103 (a : Nat) (st : List jV) (l1 l2 : Option jV) (w : jH) : jblk jT0 277 cl bk (n + 1) 103 [some (jr a), l1, l2] st w = jblk jT0 277 cl bk n 104 [some (jr a), l1, l2] (jr a :: st) w := rfl
theorem E277_104 (x : Int) (st : List jV) (l0 l1 : Option jV) (w : jH) : jblk jT0 277 cl bk (n + 1) 104 [l0, l1, some (.inl x)] st w = jblk jT0 277 cl bk n 105 [l0, l1, some (.inl x)] (.inl x :: st) w := rfl
theorem E277_105 (a : Nat) (v0 : jV) (st : List jV) (l0 l1 l2 : Option jV) (w : jH) : jblk jT0 277 cl bk (n + 1) 105 [l0, l1, l2] (v0 :: jr a :: st) w = jsh st (jgo w a 9 fun _ => jcl (cl 196 [jr a, v0] w) (fun v w' => jblk jT0 277 cl bk n 108 [l0, l1, l2] (jpush v st) w') (fun E w' => some (.inr E, w'))) := rfl
theorem E277_108 (x : Int) (l0 l1 l2 : Option jV) (w : jH) : jblk jT0 277 cl bk (n + 1) 108 [l0, l1, l2] [.inl x] w = if jfits .int x = true then some (.inl (some (.inl x)), w) else none := rfl
theorem E277_109 (a : Nat) (st : List jV) (l1 l2 : Option jV) (w : jH) : jblk jT0 277 cl bk (n + 1) 109 [some (jr a), l1, l2] st w = jblk jT0 277 cl bk n 110 [some (jr a), l1, l2] (jr a :: st) w := rfl
theorem E277_110 (x : Int) (st : List jV) (l0 l1 : Option jV) (w : jH) : jblk jT0 277 cl bk (n + 1) 110 [l0, l1, some (.inl x)] st w = jblk jT0 277 cl bk n 111 [l0, l1, some (.inl x)] (.inl x :: st) w := rfl
theorem E277_111 (a : Nat) (st : List jV) (l1 l2 : Option jV) (w : jH) : jblk jT0 277 cl bk (n + 1) 111 [some (jr a), l1, l2] st w = jblk jT0 277 cl bk n 112 [some (jr a), l1, l2] (jr a :: st) w := rfl
theorem E277_112 (a : Nat) (st : List jV) (l0 l1 l2 : Option jV) (w : jH) : jblk jT0 277 cl bk (n + 1) 112 [l0, l1, l2] (jr a :: st) w = jgf w a 9 18 fun v => jblk jT0 277 cl bk n 115 [l0, l1, l2] (v :: st) w := rfl
theorem E277_115 (x : Int) (st : List jV) (l0 l2 : Option jV) (w : jH) : jblk jT0 277 cl bk (n + 1) 115 [l0, some (.inl x), l2] st w = jblk jT0 277 cl bk n 116 [l0, some (.inl x), l2] (.inl x :: st) w := rfl
theorem E277_116 (st : List jV) (l0 l1 l2 : Option jV) (w : jH) : jblk jT0 277 cl bk (n + 1) 116 [l0, l1, l2] st w = jblk jT0 277 cl bk n 117 [l0, l1, l2] (.inl 2 :: st) w := rfl
theorem E277_117 (x : Int) (y : Int) (st : List jV) (l0 l1 l2 : Option jV) (w : jH) : jblk jT0 277 cl bk (n + 1) 117 [l0, l1, l2] (.inl y :: .inl x :: st) w = jblk jT0 277 cl bk n 118 [l0, l1, l2] (.inl (jw (x + y)) :: st) w := rfl
theorem E277_118 (x : Int) (a : Nat) (st : List jV) (l0 l1 l2 : Option jV) (w : jH) : jblk jT0 277 cl bk (n + 1) 118 [l0, l1, l2] (.inl x :: jr a :: st) w = jlda w a x (fun z => jblk jT0 277 cl bk n 119 [l0, l1, l2] (.inl z :: st) w) := rfl
theorem E277_119 (x : Int) (st : List jV) (l0 l1 l2 : Option jV) (w : jH) : jblk jT0 277 cl bk (n + 1) 119 [l0, l1, l2] (.inl x :: st) w = jblk jT0 277 cl bk n 120 [l0, l1, l2] (.inl (x % 65536) :: st) w := rfl
theorem E277_120 (a : Nat) (st : List jV) (l1 l2 : Option jV) (w : jH) : jblk jT0 277 cl bk (n + 1) 120 [some (jr a), l1, l2] st w = jblk jT0 277 cl bk n 121 [some (jr a), l1, l2] (jr a :: st) w := rfl
theorem E277_121 (a : Nat) (st : List jV) (l0 l1 l2 : Option jV) (w : jH) : jblk jT0 277 cl bk (n + 1) 121 [l0, l1, l2] (jr a :: st) w = jgf w a 9 18 fun v => jblk jT0 277 cl bk n 124 [l0, l1, l2] (v :: st) w := rfl
theorem E277_124 (x : Int) (st : List jV) (l0 l2 : Option jV) (w : jH) : jblk jT0 277 cl bk (n + 1) 124 [l0, some (.inl x), l2] st w = jblk jT0 277 cl bk n 125 [l0, some (.inl x), l2] (.inl x :: st) w := rfl
theorem E277_125 (st : List jV) (l0 l1 l2 : Option jV) (w : jH) : jblk jT0 277 cl bk (n + 1) 125 [l0, l1, l2] st w = jblk jT0 277 cl bk n 126 [l0, l1, l2] (.inl 3 :: st) w := rfl
theorem E277_126 (x : Int) (y : Int) (st : List jV) (l0 l1 l2 : Option jV) (w : jH) : jblk jT0 277 cl bk (n + 1) 126 [l0, l1, l2] (.inl y :: .inl x :: st) w = jblk jT0 277 cl bk n 127 [l0, l1, l2] (.inl (jw (x + y)) :: st) w := rfl
theorem E277_127 (x : Int) (a : Nat) (st : List jV) (l0 l1 l2 : Option jV) (w : jH) : jblk jT0 277 cl bk (n + 1) 127 [l0, l1, l2] (.inl x :: jr a :: st) w = jlda w a x (fun z => jblk jT0 277 cl bk n 128 [l0, l1, l2] (.inl z :: st) w) := rfl
theorem E277_128 (a : Nat) (v0 : jV) (v1 : jV) (v2 : jV) (st : List jV) (l0 l1 l2 : Option jV) (w : jH) : jblk jT0 277 cl bk (n + 1) 128 [l0, l1, l2] (v2 :: v1 :: v0 :: jr a :: st) w = jsh st (jgo w a 9 fun _ => jcl (cl 230 [jr a, v0, v1, v2] w) (fun v w' => jblk jT0 277 cl bk n 131 [l0, l1, l2] (jpush v st) w') (fun E w' => some (.inr E, w'))) := rfl
theorem E277_131 (x : Int) (l0 l1 l2 : Option jV) (w : jH) : jblk jT0 277 cl bk (n + 1) 131 [l0, l1, l2] [.inl x] w = if jfits .int x = true then some (.inl (some (.inl x)), w) else none := rfl
theorem E277_132 (a : Nat) (st : List jV) (l1 l2 : Option jV) (w : jH) : jblk jT0 277 cl bk (n + 1) 132 [some (jr a), l1, l2] st w = jblk jT0 277 cl bk n 133 [some (jr a), l1, l2] (jr a :: st) w := rfl
theorem E277_133 (x : Int) (st : List jV) (l0 l1 : Option jV) (w : jH) : jblk jT0 277 cl bk (n + 1) 133 [l0, l1, some (.inl x)] st w = jblk jT0 277 cl bk n 134 [l0, l1, some (.inl x)] (.inl x :: st) w := rfl
theorem E277_134 (a : Nat) (v0 : jV) (st : List jV) (l0 l1 l2 : Option jV) (w : jH) : jblk jT0 277 cl bk (n + 1) 134 [l0, l1, l2] (v0 :: jr a :: st) w = jsh st (jgo w a 9 fun _ => jcl (cl 231 [jr a, v0] w) (fun v w' => jblk jT0 277 cl bk n 137 [l0, l1, l2] (jpush v st) w') (fun E w' => some (.inr E, w'))) := rfl
theorem E277_137 (x : Int) (l0 l1 l2 : Option jV) (w : jH) : jblk jT0 277 cl bk (n + 1) 137 [l0, l1, l2] [.inl x] w = if jfits .int x = true then some (.inl (some (.inl x)), w) else none := rfl
theorem E277_138 (a : Nat) (st : List jV) (l1 l2 : Option jV) (w : jH) : jblk jT0 277 cl bk (n + 1) 138 [some (jr a), l1, l2] st w = jblk jT0 277 cl bk n 139 [some (jr a), l1, l2] (jr a :: st) w := rfl
theorem E277_139 (x : Int) (st : List jV) (l0 l1 : Option jV) (w : jH) : jblk jT0 277 cl bk (n + 1) 139 [l0, l1, some (.inl x)] st w = jblk jT0 277 cl bk n 140 [l0, l1, some (.inl x)] (.inl x :: st) w := rfl
theorem E277_140 (a : Nat) (v0 : jV) (st : List jV) (l0 l1 l2 : Option jV) (w : jH) : jblk jT0 277 cl bk (n + 1) 140 [l0, l1, l2] (v0 :: jr a :: st) w = jsh st (jgo w a 9 fun _ => jcl (cl 233 [jr a, v0] w) (fun v w' => jblk jT0 277 cl bk n 143 [l0, l1, l2] (jpush v st) w') (fun E w' => some (.inr E, w'))) := rfl
theorem E277_143 (x : Int) (l0 l1 l2 : Option jV) (w : jH) : jblk jT0 277 cl bk (n + 1) 143 [l0, l1, l2] [.inl x] w = if jfits .int x = true then some (.inl (some (.inl x)), w) else none := rfl
theorem E277_144 (a : Nat) (st : List jV) (l1 l2 : Option jV) (w : jH) : jblk jT0 277 cl bk (n + 1) 144 [some (jr a), l1, l2] st w = jblk jT0 277 cl bk n 145 [some (jr a), l1, l2] (jr a :: st) w := rfl
theorem E277_145 (x : Int) (st : List jV) (l0 l1 : Option jV) (w : jH) : jblk jT0 277 cl bk (n + 1) 145 [l0, l1, some (.inl x)] st w = jblk jT0 277 cl bk n 146 [l0, l1, some (.inl x)] (.inl x :: st) w := rfl
theorem E277_146 (a : Nat) (v0 : jV) (st : List jV) (l0 l1 l2 : Option jV) (w : jH) : jblk jT0 277 cl bk (n + 1) 146 [l0, l1, l2] (v0 :: jr a :: st) w = jsh st (jgo w a 9 fun _ => jcl (cl 234 [jr a, v0] w) (fun v w' => jblk jT0 277 cl bk n 149 [l0, l1, l2] (jpush v st) w') (fun E w' => some (.inr E, w'))) := rfl
theorem E277_149 (x : Int) (l0 l1 l2 : Option jV) (w : jH) : jblk jT0 277 cl bk (n + 1) 149 [l0, l1, l2] [.inl x] w = if jfits .int x = true then some (.inl (some (.inl x)), w) else none := rfl
theorem E277_150 (a : Nat) (st : List jV) (l1 l2 : Option jV) (w : jH) : jblk jT0 277 cl bk (n + 1) 150 [some (jr a), l1, l2] st w = jblk jT0 277 cl bk n 151 [some (jr a), l1, l2] (jr a :: st) w := rfl
theorem E277_151 (x : Int) (st : List jV) (l0 l1 : Option jV) (w : jH) : jblk jT0 277 cl bk (n + 1) 151 [l0, l1, some (.inl x)] st w = jblk jT0 277 cl bk n 152 [l0, l1, some (.inl x)] (.inl x :: st) w := rfl
theorem E277_152 (a : Nat) (v0 : jV) (st : List jV) (l0 l1 l2 : Option jV) (w : jH) : jblk jT0 277 cl bk (n + 1) 152 [l0, l1, l2] (v0 :: jr a :: st) w = jsh st (jgo w a 9 fun _ => jcl (cl 235 [jr a, v0] w) (fun v w' => jblk jT0 277 cl bk n 155 [l0, l1, l2] (jpush v st) w') (fun E w' => some (.inr E, w'))) := rfl
theorem E277_155 (x : Int) (l0 l1 l2 : Option jV) (w : jH) : jblk jT0 277 cl bk (n + 1) 155 [l0, l1, l2] [.inl x] w = if jfits .int x = true then some (.inl (some (.inl x)), w) else none := rfl
theorem E277_156 (a : Nat) (st : List jV) (l1 l2 : Option jV) (w : jH) : jblk jT0 277 cl bk (n + 1) 156 [some (jr a), l1, l2] st w = jblk jT0 277 cl bk n 157 [some (jr a), l1, l2] (jr a :: st) w := rfl
theorem E277_157 (x : Int) (st : List jV) (l0 l1 : Option jV) (w : jH) : jblk jT0 277 cl bk (n + 1) 157 [l0, l1, some (.inl x)] st w = jblk jT0 277 cl bk n 158 [l0, l1, some (.inl x)] (.inl x :: st) w := rfl
theorem E277_158 (a : Nat) (st : List jV) (l1 l2 : Option jV) (w : jH) : jblk jT0 277 cl bk (n + 1) 158 [some (jr a), l1, l2] st w = jblk jT0 277 cl bk n 159 [some (jr a), l1, l2] (jr a :: st) w := rfl
theorem E277_159 (a : Nat) (st : List jV) (l0 l1 l2 : Option jV) (w : jH) : jblk jT0 277 cl bk (n + 1) 159 [l0, l1, l2] (jr a :: st) w = jgf w a 9 18 fun v => jblk jT0 277 cl bk n 162 [l0, l1, l2] (v :: st) w := rfl
theorem E277_162 (x : Int) (st : List jV) (l0 l2 : Option jV) (w : jH) : jblk jT0 277 cl bk (n + 1) 162 [l0, some (.inl x), l2] st w = jblk jT0 277 cl bk n 163 [l0, some (.inl x), l2] (.inl x :: st) w := rfl
theorem E277_163 (st : List jV) (l0 l1 l2 : Option jV) (w : jH) : jblk jT0 277 cl bk (n + 1) 163 [l0, l1, l2] st w = jblk jT0 277 cl bk n 164 [l0, l1, l2] (.inl 2 :: st) w := rfl
theorem E277_164 (x : Int) (y : Int) (st : List jV) (l0 l1 l2 : Option jV) (w : jH) : jblk jT0 277 cl bk (n + 1) 164 [l0, l1, l2] (.inl y :: .inl x :: st) w = jblk jT0 277 cl bk n 165 [l0, l1, l2] (.inl (jw (x + y)) :: st) w := rfl
theorem E277_165 (x : Int) (a : Nat) (st : List jV) (l0 l1 l2 : Option jV) (w : jH) : jblk jT0 277 cl bk (n + 1) 165 [l0, l1, l2] (.inl x :: jr a :: st) w = jlda w a x (fun z => jblk jT0 277 cl bk n 166 [l0, l1, l2] (.inl z :: st) w) := rfl
theorem E277_166 (a : Nat) (v0 : jV) (v1 : jV) (st : List jV) (l0 l1 l2 : Option jV) (w : jH) : jblk jT0 277 cl bk (n + 1) 166 [l0, l1, l2] (v1 :: v0 :: jr a :: st) w = jsh st (jgo w a 9 fun _ => jcl (cl 236 [jr a, v0, v1] w) (fun v w' => jblk jT0 277 cl bk n 169 [l0, l1, l2] (jpush v st) w') (fun E w' => some (.inr E, w'))) := rfl
theorem E277_169 (x : Int) (l0 l1 l2 : Option jV) (w : jH) : jblk jT0 277 cl bk (n + 1) 169 [l0, l1, l2] [.inl x] w = if jfits .int x = true then some (.inl (some (.inl x)), w) else none := rfl
theorem E277_170 (a : Nat) (st : List jV) (l1 l2 : Option jV) (w : jH) : jblk jT0 277 cl bk (n + 1) 170 [some (jr a), l1, l2] st w = jblk jT0 277 cl bk n 171 [some (jr a), l1, l2] (jr a :: st) w := rfl
theorem E277_171 (x : Int) (st : List jV) (l0 l1 : Option jV) (w : jH) : jblk jT0 277 cl bk (n + 1) 171 [l0, l1, some (.inl x)] st w = jblk jT0 277 cl bk n 172 [l0, l1, some (.inl x)] (.inl x :: st) w := rfl
theorem E277_172 (a : Nat) (v0 : jV) (st : List jV) (l0 l1 l2 : Option jV) (w : jH) : jblk jT0 277 cl bk (n + 1) 172 [l0, l1, l2] (v0 :: jr a :: st) w = jsh st (jgo w a 9 fun _ => jcl (cl 249 [jr a, v0] w) (fun v w' => jblk jT0 277 cl bk n 175 [l0, l1, l2] (jpush v st) w') (fun E w' => some (.inr E, w'))) := rfl
theorem E277_175 (x : Int) (l0 l1 l2 : Option jV) (w : jH) : jblk jT0 277 cl bk (n + 1) 175 [l0, l1, l2] [.inl x] w = if jfits .int x = true then some (.inl (some (.inl x)), w) else none := rfl
theorem E278_0 (a : Nat) (st : List jV) (l1 l2 : Option jV) (w : jH) : jblk jT0 278 cl bk (n + 1) 0 [some (jr a), l1, l2] st w = jblk jT0 278 cl bk n 1 [some (jr a), l1, l2] (jr a :: st) w := rfl
theorem E278_1 (a : Nat) (st : List jV) (l0 l1 l2 : Option jV) (w : jH) : jblk jT0 278 cl bk (n + 1) 1 [l0, l1, l2] (jr a :: st) w = jgf w a 9 9 fun v => jblk jT0 278 cl bk n 4 [l0, l1, l2] (v :: st) w := rfl
theorem E278_4 (x : Int) (st : List jV) (l0 l1 l2 : Option jV) (w : jH) : jblk jT0 278 cl bk (n + 1) 4 [l0, l1, l2] (.inl x :: st) w = jblk jT0 278 cl bk n 5 [l0, l1, some (.inl x)] st w := rfl
theorem E278_5 (a : Nat) (st : List jV) (l1 l2 : Option jV) (w : jH) : jblk jT0 278 cl bk (n + 1) 5 [some (jr a), l1, l2] st w = jblk jT0 278 cl bk n 6 [some (jr a), l1, l2] (jr a :: st) w := rfl
theorem E278_6 (st : List jV) (l0 l1 l2 : Option jV) (w : jH) : jblk jT0 278 cl bk (n + 1) 6 [l0, l1, l2] st w = jblk jT0 278 cl bk n 7 [l0, l1, l2] (.inl 3 :: st) w := rfl
theorem E278_7 (st : List jV) (l0 l1 l2 : Option jV) (w : jH) : jblk jT0 278 cl bk (n + 1) 7 [l0, l1, l2] st w = jblk jT0 278 cl bk n 9 [l0, l1, l2] (.inl 12 :: st) w := rfl
theorem E278_9 (x : Int) (st : List jV) (l0 l2 : Option jV) (w : jH) : jblk jT0 278 cl bk (n + 1) 9 [l0, some (.inl x), l2] st w = jblk jT0 278 cl bk n 10 [l0, some (.inl x), l2] (.inl x :: st) w := rfl
theorem E278_10 (a : Nat) (v0 : jV) (v1 : jV) (v2 : jV) (st : List jV) (l0 l1 l2 : Option jV) (w : jH) : jblk jT0 278 cl bk (n + 1) 10 [l0, l1, l2] (v2 :: v1 :: v0 :: jr a :: st) w = jsh st (jgo w a 9 fun _ => jcl (cl 179 [jr a, v0, v1, v2] w) (fun v w' => jblk jT0 278 cl bk n 13 [l0, l1, l2] (jpush v st) w') (fun E w' => some (.inr E, w'))) := rfl
theorem E278_13 (x : Int) (st : List jV) (l0 l1 l2 : Option jV) (w : jH) : jblk jT0 278 cl bk (n + 1) 13 [l0, l1, l2] (.inl x :: st) w = jblk jT0 278 cl bk n 14 [l0, l1, l2] st w := rfl
theorem E278_14 (a : Nat) (st : List jV) (l1 l2 : Option jV) (w : jH) : jblk jT0 278 cl bk (n + 1) 14 [some (jr a), l1, l2] st w = jblk jT0 278 cl bk n 15 [some (jr a), l1, l2] (jr a :: st) w := rfl
theorem E278_15 (x : Int) (st : List jV) (l0 l1 : Option jV) (w : jH) : jblk jT0 278 cl bk (n + 1) 15 [l0, l1, some (.inl x)] st w = jblk jT0 278 cl bk n 16 [l0, l1, some (.inl x)] (.inl x :: st) w := rfl
theorem E278_16 (a : Nat) (v : jV) (st : List jV) (l0 l1 l2 : Option jV) (w : jH) : jblk jT0 278 cl bk (n + 1) 16 [l0, l1, l2] (v :: jr a :: st) w = jpf w a 9 11 .int v fun w' => jblk jT0 278 cl bk n 19 [l0, l1, l2] st w' := rfl
theorem E278_19 (st : List jV) (l0 l1 l2 : Option jV) (w : jH) : jblk jT0 278 cl bk (n + 1) 19 [l0, l1, l2] st w = jblk jT0 278 cl bk n 20 [l0, l1, l2] (.inl 0 :: st) w := rfl
theorem E278_20 (x : Int) (l0 l1 l2 : Option jV) (w : jH) : jblk jT0 278 cl bk (n + 1) 20 [l0, l1, l2] [.inl x] w = if jfits .int x = true then some (.inl (some (.inl x)), w) else none := rfl
theorem E279_0 (a : Nat) (st : List jV) (l1 l2 l3 : Option jV) (w : jH) : jblk jT0 279 cl bk (n + 1) 0 [some (jr a), l1, l2, l3] st w = jblk jT0 279 cl bk n 1 [some (jr a), l1, l2, l3] (jr a :: st) w := rfl
theorem E279_1 (a : Nat) (st : List jV) (l0 l1 l2 l3 : Option jV) (w : jH) : jblk jT0 279 cl bk (n + 1) 1 [l0, l1, l2, l3] (jr a :: st) w = jsh st (jgo w a 9 fun _ => jcl (cl 276 [jr a] w) (fun v w' => jblk jT0 279 cl bk n 4 [l0, l1, l2, l3] (jpush v st) w') (fun E w' => some (.inr E, w'))) := rfl
theorem E279_4 (x : Int) (st : List jV) (l0 l1 l2 l3 : Option jV) (w : jH) : jblk jT0 279 cl bk (n + 1) 4 [l0, l1, l2, l3] (.inl x :: st) w = jblk jT0 279 cl bk n 5 [l0, some (.inl x), l2, l3] st w := rfl
theorem E279_5 (x : Int) (st : List jV) (l0 l2 l3 : Option jV) (w : jH) : jblk jT0 279 cl bk (n + 1) 5 [l0, some (.inl x), l2, l3] st w = jblk jT0 279 cl bk n 6 [l0, some (.inl x), l2, l3] (.inl x :: st) w := rfl
theorem E279_6 (x : Int) (st : List jV) (l0 l1 l2 l3 : Option jV) (w : jH) : jblk jT0 279 cl bk (n + 1) 6 [l0, l1, l2, l3] (.inl x :: st) w = if x = 0 then jblk jT0 279 cl bk n 9 [l0, l1, l2, l3] st w else jblk jT0 279 cl bk n 17 [l0, l1, l2, l3] st w := rfl
theorem E279_9 (a : Nat) (st : List jV) (l1 l2 l3 : Option jV) (w : jH) : jblk jT0 279 cl bk (n + 1) 9 [some (jr a), l1, l2, l3] st w = jblk jT0 279 cl bk n 10 [some (jr a), l1, l2, l3] (jr a :: st) w := rfl
theorem E279_10 (a : Nat) (st : List jV) (l1 l2 l3 : Option jV) (w : jH) : jblk jT0 279 cl bk (n + 1) 10 [some (jr a), l1, l2, l3] st w = jblk jT0 279 cl bk n 11 [some (jr a), l1, l2, l3] (jr a :: st) w := rfl
theorem E279_11 (a : Nat) (st : List jV) (l0 l1 l2 l3 : Option jV) (w : jH) : jblk jT0 279 cl bk (n + 1) 11 [l0, l1, l2, l3] (jr a :: st) w = jgf w a 9 17 fun v => jblk jT0 279 cl bk n 14 [l0, l1, l2, l3] (v :: st) w := rfl
theorem E279_14 (a : Nat) (v : jV) (st : List jV) (l0 l1 l2 l3 : Option jV) (w : jH) : jblk jT0 279 cl bk (n + 1) 14 [l0, l1, l2, l3] (v :: jr a :: st) w = jpf w a 9 14 .int v fun w' => jblk jT0 279 cl bk n 17 [l0, l1, l2, l3] st w' := rfl
theorem E279_17 (a : Nat) (st : List jV) (l1 l2 l3 : Option jV) (w : jH) : jblk jT0 279 cl bk (n + 1) 17 [some (jr a), l1, l2, l3] st w = jblk jT0 279 cl bk n 18 [some (jr a), l1, l2, l3] (jr a :: st) w := rfl
theorem E279_18 (st : List jV) (l0 l1 l2 l3 : Option jV) (w : jH) : jblk jT0 279 cl bk (n + 1) 18 [l0, l1, l2, l3] st w = jblk jT0 279 cl bk n 19 [l0, l1, l2, l3] (.inl 0 :: st) w := rfl
theorem E279_19 (a : Nat) (v : jV) (st : List jV) (l0 l1 l2 l3 : Option jV) (w : jH) : jblk jT0 279 cl bk (n + 1) 19 [l0, l1, l2, l3] (v :: jr a :: st) w = jpf w a 9 13 .int v fun w' => jblk jT0 279 cl bk n 22 [l0, l1, l2, l3] st w' := rfl
theorem E279_22 (a : Nat) (st : List jV) (l1 l2 l3 : Option jV) (w : jH) : jblk jT0 279 cl bk (n + 1) 22 [some (jr a), l1, l2, l3] st w = jblk jT0 279 cl bk n 23 [some (jr a), l1, l2, l3] (jr a :: st) w := rfl
theorem E279_23 (x : Int) (st : List jV) (l0 l2 l3 : Option jV) (w : jH) : jblk jT0 279 cl bk (n + 1) 23 [l0, some (.inl x), l2, l3] st w = jblk jT0 279 cl bk n 24 [l0, some (.inl x), l2, l3] (.inl x :: st) w := rfl
theorem E279_24 (x : Int) (st : List jV) (l0 l1 l2 l3 : Option jV) (w : jH) : jblk jT0 279 cl bk (n + 1) 24 [l0, l1, l2, l3] (.inl x :: st) w = if x = 0 then jblk jT0 279 cl bk n 31 [l0, l1, l2, l3] st w else jblk jT0 279 cl bk n 27 [l0, l1, l2, l3] st w := rfl
theorem E279_27 (st : List jV) (l0 l1 l2 l3 : Option jV) (w : jH) : jblk jT0 279 cl bk (n + 1) 27 [l0, l1, l2, l3] st w = jblk jT0 279 cl bk n 28 [l0, l1, l2, l3] (.inl 0 :: st) w := rfl
theorem E279_28 (st : List jV) (l0 l1 l2 l3 : Option jV) (w : jH) : jblk jT0 279 cl bk (n + 1) 28 [l0, l1, l2, l3] st w = jblk jT0 279 cl bk n 32 [l0, l1, l2, l3] st w := rfl
theorem E279_31 (st : List jV) (l0 l1 l2 l3 : Option jV) (w : jH) : jblk jT0 279 cl bk (n + 1) 31 [l0, l1, l2, l3] st w = jblk jT0 279 cl bk n 32 [l0, l1, l2, l3] (.inl 1 :: st) w := rfl
theorem E279_32 (a : Nat) (v0 : jV) (st : List jV) (l0 l1 l2 l3 : Option jV) (w : jH) : jblk jT0 279 cl bk (n + 1) 32 [l0, l1, l2, l3] (v0 :: jr a :: st) w = jsh st (jgo w a 9 fun _ => jcl (cl 178 [jr a, v0] w) (fun v w' => jblk jT0 279 cl bk n 35 [l0, l1, l2, l3] (jpush v st) w') (fun E w' => some (.inr E, w'))) := rfl
theorem E279_35 (x : Int) (st : List jV) (l0 l1 l2 l3 : Option jV) (w : jH) : jblk jT0 279 cl bk (n + 1) 35 [l0, l1, l2, l3] (.inl x :: st) w = if x = 0 then jblk jT0 279 cl bk n 40 [l0, l1, l2, l3] st w else jblk jT0 279 cl bk n 38 [l0, l1, l2, l3] st w := rfl
theorem E279_38 (st : List jV) (l0 l1 l2 l3 : Option jV) (w : jH) : jblk jT0 279 cl bk (n + 1) 38 [l0, l1, l2, l3] st w = jblk jT0 279 cl bk n 39 [l0, l1, l2, l3] (.inl 0 :: st) w := rfl
theorem E279_39 (x : Int) (l0 l1 l2 l3 : Option jV) (w : jH) : jblk jT0 279 cl bk (n + 1) 39 [l0, l1, l2, l3] [.inl x] w = if jfits .int x = true then some (.inl (some (.inl x)), w) else none := rfl
theorem E279_40 (a : Nat) (st : List jV) (l1 l2 l3 : Option jV) (w : jH) : jblk jT0 279 cl bk (n + 1) 40 [some (jr a), l1, l2, l3] st w = jblk jT0 279 cl bk n 41 [some (jr a), l1, l2, l3] (jr a :: st) w := rfl
theorem E279_41 (a : Nat) (st : List jV) (l0 l1 l2 l3 : Option jV) (w : jH) : jblk jT0 279 cl bk (n + 1) 41 [l0, l1, l2, l3] (jr a :: st) w = jgf w a 9 0 fun v => jblk jT0 279 cl bk n 44 [l0, l1, l2, l3] (v :: st) w := rfl
theorem E279_44 (st : List jV) (l0 l1 l2 l3 : Option jV) (w : jH) : jblk jT0 279 cl bk (n + 1) 44 [l0, l1, l2, l3] st w = jblk jT0 279 cl bk n 45 [l0, l1, l2, l3] (.inl 0 :: st) w := rfl
theorem E279_45 (a : Nat) (st : List jV) (l1 l2 l3 : Option jV) (w : jH) : jblk jT0 279 cl bk (n + 1) 45 [some (jr a), l1, l2, l3] st w = jblk jT0 279 cl bk n 46 [some (jr a), l1, l2, l3] (jr a :: st) w := rfl
theorem E279_46 (a : Nat) (st : List jV) (l0 l1 l2 l3 : Option jV) (w : jH) : jblk jT0 279 cl bk (n + 1) 46 [l0, l1, l2, l3] (jr a :: st) w = jgf w a 9 3 fun v => jblk jT0 279 cl bk n 49 [l0, l1, l2, l3] (v :: st) w := rfl
theorem E279_49 (st : List jV) (l0 l1 l2 l3 : Option jV) (w : jH) : jblk jT0 279 cl bk (n + 1) 49 [l0, l1, l2, l3] st w = jblk jT0 279 cl bk n 50 [l0, l1, l2, l3] (.inl 0 :: st) w := rfl
theorem E279_50 (v0 : jV) (v1 : jV) (v2 : jV) (v3 : jV) (st : List jV) (l0 l1 l2 l3 : Option jV) (w : jH) : jblk jT0 279 cl bk (n + 1) 50 [l0, l1, l2, l3] (v3 :: v2 :: v1 :: v0 :: st) w = jsh st (jcl (cl 182 [v0, v1, v2, v3] w) (fun v w' => jblk jT0 279 cl bk n 53 [l0, l1, l2, l3] (jpush v st) w') (fun E w' => some (.inr E, w'))) := rfl
theorem E279_53 (a : Nat) (st : List jV) (l1 l2 l3 : Option jV) (w : jH) : jblk jT0 279 cl bk (n + 1) 53 [some (jr a), l1, l2, l3] st w = jblk jT0 279 cl bk n 54 [some (jr a), l1, l2, l3] (jr a :: st) w := rfl
theorem E279_54 (st : List jV) (l0 l1 l2 l3 : Option jV) (w : jH) : jblk jT0 279 cl bk (n + 1) 54 [l0, l1, l2, l3] st w = jblk jT0 279 cl bk n 55 [l0, l1, l2, l3] (.inl 1 :: st) w := rfl
theorem E279_55 (a : Nat) (v : jV) (st : List jV) (l0 l1 l2 l3 : Option jV) (w : jH) : jblk jT0 279 cl bk (n + 1) 55 [l0, l1, l2, l3] (v :: jr a :: st) w = jpf w a 9 6 .boolean v fun w' => jblk jT0 279 cl bk n 58 [l0, l1, l2, l3] st w' := rfl
theorem E279_58 (st : List jV) (l0 l1 l2 l3 : Option jV) (w : jH) : jblk jT0 279 cl bk (n + 1) 58 [l0, l1, l2, l3] st w = jblk jT0 279 cl bk n 59 [l0, l1, l2, l3] (.inl 0 :: st) w := rfl
theorem E279_59 (x : Int) (st : List jV) (l0 l1 l2 l3 : Option jV) (w : jH) : jblk jT0 279 cl bk (n + 1) 59 [l0, l1, l2, l3] (.inl x :: st) w = jblk jT0 279 cl bk n 60 [l0, l1, some (.inl x), l3] st w := rfl
theorem E279_60 (st : List jV) (l0 l1 l2 l3 : Option jV) (w : jH) : jblk jT0 279 cl bk (n + 1) 60 [l0, l1, l2, l3] st w = jblk jT0 279 cl bk n 61 [l0, l1, l2, l3] (.inl 0 :: st) w := rfl
theorem E279_61 (x : Int) (st : List jV) (l0 l1 l2 l3 : Option jV) (w : jH) : jblk jT0 279 cl bk (n + 1) 61 [l0, l1, l2, l3] (.inl x :: st) w = bk 62 [l0, l1, l2, some (.inl x)] st w := rfl
theorem E279_62 (x : Int) (st : List jV) (l0 l1 l3 : Option jV) (w : jH) : jblk jT0 279 cl bk (n + 1) 62 [l0, l1, some (.inl x), l3] st w = jblk jT0 279 cl bk n 63 [l0, l1, some (.inl x), l3] (.inl x :: st) w := rfl
theorem E279_63 (a : Nat) (st : List jV) (l1 l2 l3 : Option jV) (w : jH) : jblk jT0 279 cl bk (n + 1) 63 [some (jr a), l1, l2, l3] st w = jblk jT0 279 cl bk n 64 [some (jr a), l1, l2, l3] (jr a :: st) w := rfl
theorem E279_64 (a : Nat) (st : List jV) (l0 l1 l2 l3 : Option jV) (w : jH) : jblk jT0 279 cl bk (n + 1) 64 [l0, l1, l2, l3] (jr a :: st) w = jgf w a 9 19 fun v => jblk jT0 279 cl bk n 67 [l0, l1, l2, l3] (v :: st) w := rfl
theorem E279_67 (x : Int) (y : Int) (st : List jV) (l0 l1 l2 l3 : Option jV) (w : jH) : jblk jT0 279 cl bk (n + 1) 67 [l0, l1, l2, l3] (.inl y :: .inl x :: st) w = if x < y then jblk jT0 279 cl bk n 70 [l0, l1, l2, l3] st w else jblk jT0 279 cl bk n 98 [l0, l1, l2, l3] st w := rfl
theorem E279_70 (a : Nat) (st : List jV) (l1 l2 l3 : Option jV) (w : jH) : jblk jT0 279 cl bk (n + 1) 70 [some (jr a), l1, l2, l3] st w = jblk jT0 279 cl bk n 71 [some (jr a), l1, l2, l3] (jr a :: st) w := rfl
theorem E279_71 (a : Nat) (st : List jV) (l0 l1 l2 l3 : Option jV) (w : jH) : jblk jT0 279 cl bk (n + 1) 71 [l0, l1, l2, l3] (jr a :: st) w = jgf w a 9 8 fun v => jblk jT0 279 cl bk n 74 [l0, l1, l2, l3] (v :: st) w := rfl
theorem E279_74 (x : Int) (st : List jV) (l0 l1 l2 l3 : Option jV) (w : jH) : jblk jT0 279 cl bk (n + 1) 74 [l0, l1, l2, l3] (.inl x :: st) w = if x = 0 then jblk jT0 279 cl bk n 77 [l0, l1, l2, l3] st w else jblk jT0 279 cl bk n 98 [l0, l1, l2, l3] st w := rfl
theorem E279_77 (a : Nat) (st : List jV) (l1 l2 l3 : Option jV) (w : jH) : jblk jT0 279 cl bk (n + 1) 77 [some (jr a), l1, l2, l3] st w = jblk jT0 279 cl bk n 78 [some (jr a), l1, l2, l3] (jr a :: st) w := rfl
theorem E279_78 (st : List jV) (l0 l1 l2 l3 : Option jV) (w : jH) : jblk jT0 279 cl bk (n + 1) 78 [l0, l1, l2, l3] st w = jblk jT0 279 cl bk n 79 [l0, l1, l2, l3] (.inl 4 :: st) w := rfl
theorem E279_79 (x : Int) (st : List jV) (l0 l1 l3 : Option jV) (w : jH) : jblk jT0 279 cl bk (n + 1) 79 [l0, l1, some (.inl x), l3] st w = jblk jT0 279 cl bk n 80 [l0, l1, some (.inl x), l3] (.inl x :: st) w := rfl
theorem E279_80 (x : Int) (y : Int) (st : List jV) (l0 l1 l2 l3 : Option jV) (w : jH) : jblk jT0 279 cl bk (n + 1) 80 [l0, l1, l2, l3] (.inl y :: .inl x :: st) w = jblk jT0 279 cl bk n 81 [l0, l1, l2, l3] (.inl (jw (x * y)) :: st) w := rfl
theorem E279_81 (a : Nat) (v0 : jV) (st : List jV) (l0 l1 l2 l3 : Option jV) (w : jH) : jblk jT0 279 cl bk (n + 1) 81 [l0, l1, l2, l3] (v0 :: jr a :: st) w = jsh st (jgo w a 9 fun _ => jcl (cl 277 [jr a, v0] w) (fun v w' => jblk jT0 279 cl bk n 84 [l0, l1, l2, l3] (jpush v st) w') (fun E w' => some (.inr E, w'))) := rfl
theorem E279_84 (x : Int) (st : List jV) (l0 l1 l2 l3 : Option jV) (w : jH) : jblk jT0 279 cl bk (n + 1) 84 [l0, l1, l2, l3] (.inl x :: st) w = jblk jT0 279 cl bk n 85 [l0, l1, l2, some (.inl x)] st w := rfl
theorem E279_85 (a : Nat) (st : List jV) (l1 l2 l3 : Option jV) (w : jH) : jblk jT0 279 cl bk (n + 1) 85 [some (jr a), l1, l2, l3] st w = jblk jT0 279 cl bk n 86 [some (jr a), l1, l2, l3] (jr a :: st) w := rfl
theorem E279_86 (a : Nat) (st : List jV) (l0 l1 l2 l3 : Option jV) (w : jH) : jblk jT0 279 cl bk (n + 1) 86 [l0, l1, l2, l3] (jr a :: st) w = jgf w a 9 8 fun v => jblk jT0 279 cl bk n 89 [l0, l1, l2, l3] (v :: st) w := rfl
theorem E279_89 (x : Int) (st : List jV) (l0 l1 l2 l3 : Option jV) (w : jH) : jblk jT0 279 cl bk (n + 1) 89 [l0, l1, l2, l3] (.inl x :: st) w = if x = 0 then jblk jT0 279 cl bk n 92 [l0, l1, l2, l3] st w else bk 62 [l0, l1, l2, l3] st w := rfl
theorem E279_92 (x : Int) (st : List jV) (l0 l1 l3 : Option jV) (w : jH) : jblk jT0 279 cl bk (n + 1) 92 [l0, l1, some (.inl x), l3] st w = jblk jT0 279 cl bk n 95 [l0, l1, some (.inl (jw (x + 1))), l3] st w := rfl
theorem E279_95 (st : List jV) (l0 l1 l2 l3 : Option jV) (w : jH) : jblk jT0 279 cl bk (n + 1) 95 [l0, l1, l2, l3] st w = bk 62 [l0, l1, l2, l3] st w := rfl
theorem E279_98 (a : Nat) (st : List jV) (l1 l2 l3 : Option jV) (w : jH) : jblk jT0 279 cl bk (n + 1) 98 [some (jr a), l1, l2, l3] st w = jblk jT0 279 cl bk n 99 [some (jr a), l1, l2, l3] (jr a :: st) w := rfl
theorem E279_99 (st : List jV) (l0 l1 l2 l3 : Option jV) (w : jH) : jblk jT0 279 cl bk (n + 1) 99 [l0, l1, l2, l3] st w = jblk jT0 279 cl bk n 100 [l0, l1, l2, l3] (.inl 0 :: st) w := rfl
theorem E279_100 (a : Nat) (v : jV) (st : List jV) (l0 l1 l2 l3 : Option jV) (w : jH) : jblk jT0 279 cl bk (n + 1) 100 [l0, l1, l2, l3] (v :: jr a :: st) w = jpf w a 9 6 .boolean v fun w' => jblk jT0 279 cl bk n 103 [l0, l1, l2, l3] st w' := rfl
theorem E279_103 (a : Nat) (st : List jV) (l1 l2 l3 : Option jV) (w : jH) : jblk jT0 279 cl bk (n + 1) 103 [some (jr a), l1, l2, l3] st w = jblk jT0 279 cl bk n 104 [some (jr a), l1, l2, l3] (jr a :: st) w := rfl
theorem E279_104 (a : Nat) (st : List jV) (l0 l1 l2 l3 : Option jV) (w : jH) : jblk jT0 279 cl bk (n + 1) 104 [l0, l1, l2, l3] (jr a :: st) w = jgf w a 9 8 fun v => jblk jT0 279 cl bk n 107 [l0, l1, l2, l3] (v :: st) w := rfl
theorem E279_107 (x : Int) (st : List jV) (l0 l1 l2 l3 : Option jV) (w : jH) : jblk jT0 279 cl bk (n + 1) 107 [l0, l1, l2, l3] (.inl x :: st) w = if 0 < x then jblk jT0 279 cl bk n 110 [l0, l1, l2, l3] st w else jblk jT0 279 cl bk n 151 [l0, l1, l2, l3] st w := rfl
theorem E279_110 (a : Nat) (st : List jV) (l1 l2 l3 : Option jV) (w : jH) : jblk jT0 279 cl bk (n + 1) 110 [some (jr a), l1, l2, l3] st w = jblk jT0 279 cl bk n 111 [some (jr a), l1, l2, l3] (jr a :: st) w := rfl
theorem E279_111 (a : Nat) (st : List jV) (l0 l1 l2 l3 : Option jV) (w : jH) : jblk jT0 279 cl bk (n + 1) 111 [l0, l1, l2, l3] (jr a :: st) w = jgf w a 9 3 fun v => jblk jT0 279 cl bk n 114 [l0, l1, l2, l3] (v :: st) w := rfl
theorem E279_114 (st : List jV) (l0 l1 l2 l3 : Option jV) (w : jH) : jblk jT0 279 cl bk (n + 1) 114 [l0, l1, l2, l3] st w = jblk jT0 279 cl bk n 115 [l0, l1, l2, l3] (.inl 0 :: st) w := rfl
theorem E279_115 (a : Nat) (st : List jV) (l1 l2 l3 : Option jV) (w : jH) : jblk jT0 279 cl bk (n + 1) 115 [some (jr a), l1, l2, l3] st w = jblk jT0 279 cl bk n 116 [some (jr a), l1, l2, l3] (jr a :: st) w := rfl
theorem E279_116 (a : Nat) (st : List jV) (l0 l1 l2 l3 : Option jV) (w : jH) : jblk jT0 279 cl bk (n + 1) 116 [l0, l1, l2, l3] (jr a :: st) w = jgf w a 9 0 fun v => jblk jT0 279 cl bk n 119 [l0, l1, l2, l3] (v :: st) w := rfl
theorem E279_119 (st : List jV) (l0 l1 l2 l3 : Option jV) (w : jH) : jblk jT0 279 cl bk (n + 1) 119 [l0, l1, l2, l3] st w = jblk jT0 279 cl bk n 120 [l0, l1, l2, l3] (.inl 0 :: st) w := rfl
theorem E279_120 (v0 : jV) (v1 : jV) (v2 : jV) (v3 : jV) (st : List jV) (l0 l1 l2 l3 : Option jV) (w : jH) : jblk jT0 279 cl bk (n + 1) 120 [l0, l1, l2, l3] (v3 :: v2 :: v1 :: v0 :: st) w = jsh st (jcl (cl 182 [v0, v1, v2, v3] w) (fun v w' => jblk jT0 279 cl bk n 123 [l0, l1, l2, l3] (jpush v st) w') (fun E w' => some (.inr E, w'))) := rfl
theorem E279_123 (a : Nat) (st : List jV) (l1 l2 l3 : Option jV) (w : jH) : jblk jT0 279 cl bk (n + 1) 123 [some (jr a), l1, l2, l3] st w = jblk jT0 279 cl bk n 124 [some (jr a), l1, l2, l3] (jr a :: st) w := rfl
theorem E279_124 (a : Nat) (st : List jV) (l0 l1 l2 l3 : Option jV) (w : jH) : jblk jT0 279 cl bk (n + 1) 124 [l0, l1, l2, l3] (jr a :: st) w = jgf w a 9 7 fun v => jblk jT0 279 cl bk n 127 [l0, l1, l2, l3] (v :: st) w := rfl
theorem E279_127 (x : Int) (st : List jV) (l0 l1 l2 l3 : Option jV) (w : jH) : jblk jT0 279 cl bk (n + 1) 127 [l0, l1, l2, l3] (.inl x :: st) w = if x = 0 then jblk jT0 279 cl bk n 136 [l0, l1, l2, l3] st w else jblk jT0 279 cl bk n 130 [l0, l1, l2, l3] st w := rfl
theorem E279_130 (a : Nat) (st : List jV) (l1 l2 l3 : Option jV) (w : jH) : jblk jT0 279 cl bk (n + 1) 130 [some (jr a), l1, l2, l3] st w = jblk jT0 279 cl bk n 131 [some (jr a), l1, l2, l3] (jr a :: st) w := rfl
theorem E279_131 (x : Int) (st : List jV) (l0 l1 l3 : Option jV) (w : jH) : jblk jT0 279 cl bk (n + 1) 131 [l0, l1, some (.inl x), l3] st w = jblk jT0 279 cl bk n 132 [l0, l1, some (.inl x), l3] (.inl x :: st) w := rfl
theorem E279_132 (a : Nat) (v0 : jV) (st : List jV) (l0 l1 l2 l3 : Option jV) (w : jH) : jblk jT0 279 cl bk (n + 1) 132 [l0, l1, l2, l3] (v0 :: jr a :: st) w = jsh st (jgo w a 9 fun _ => jcl (cl 278 [jr a, v0] w) (fun v w' => jblk jT0 279 cl bk n 135 [l0, l1, l2, l3] (jpush v st) w') (fun E w' => some (.inr E, w'))) := rfl
theorem E279_135 (x : Int) (l0 l1 l2 l3 : Option jV) (w : jH) : jblk jT0 279 cl bk (n + 1) 135 [l0, l1, l2, l3] [.inl x] w = if jfits .int x = true then some (.inl (some (.inl x)), w) else none := rfl
theorem E279_136 (a : Nat) (st : List jV) (l1 l2 l3 : Option jV) (w : jH) : jblk jT0 279 cl bk (n + 1) 136 [some (jr a), l1, l2, l3] st w = jblk jT0 279 cl bk n 137 [some (jr a), l1, l2, l3] (jr a :: st) w := rfl
theorem E279_137 (st : List jV) (l0 l1 l2 l3 : Option jV) (w : jH) : jblk jT0 279 cl bk (n + 1) 137 [l0, l1, l2, l3] st w = jblk jT0 279 cl bk n 138 [l0, l1, l2, l3] (.inl 2 :: st) w := rfl
theorem E279_138 (a : Nat) (v : jV) (st : List jV) (l0 l1 l2 l3 : Option jV) (w : jH) : jblk jT0 279 cl bk (n + 1) 138 [l0, l1, l2, l3] (v :: jr a :: st) w = jpf w a 9 8 .int v fun w' => jblk jT0 279 cl bk n 141 [l0, l1, l2, l3] st w' := rfl
theorem E279_141 (x : Int) (st : List jV) (l0 l1 l2 : Option jV) (w : jH) : jblk jT0 279 cl bk (n + 1) 141 [l0, l1, l2, some (.inl x)] st w = jblk jT0 279 cl bk n 142 [l0, l1, l2, some (.inl x)] (.inl x :: st) w := rfl
theorem E279_142 (x : Int) (st : List jV) (l0 l1 l2 l3 : Option jV) (w : jH) : jblk jT0 279 cl bk (n + 1) 142 [l0, l1, l2, l3] (.inl x :: st) w = if 0 < x then jblk jT0 279 cl bk n 145 [l0, l1, l2, l3] st w else jblk jT0 279 cl bk n 149 [l0, l1, l2, l3] st w := rfl
theorem E279_145 (st : List jV) (l0 l1 l2 l3 : Option jV) (w : jH) : jblk jT0 279 cl bk (n + 1) 145 [l0, l1, l2, l3] st w = jblk jT0 279 cl bk n 146 [l0, l1, l2, l3] (.inl 0 :: st) w := rfl
theorem E279_146 (st : List jV) (l0 l1 l2 l3 : Option jV) (w : jH) : jblk jT0 279 cl bk (n + 1) 146 [l0, l1, l2, l3] st w = jblk jT0 279 cl bk n 150 [l0, l1, l2, l3] st w := rfl
theorem E279_149 (x : Int) (st : List jV) (l0 l1 l2 : Option jV) (w : jH) : jblk jT0 279 cl bk (n + 1) 149 [l0, l1, l2, some (.inl x)] st w = jblk jT0 279 cl bk n 150 [l0, l1, l2, some (.inl x)] (.inl x :: st) w := rfl
theorem E279_150 (x : Int) (l0 l1 l2 l3 : Option jV) (w : jH) : jblk jT0 279 cl bk (n + 1) 150 [l0, l1, l2, l3] [.inl x] w = if jfits .int x = true then some (.inl (some (.inl x)), w) else none := rfl
theorem E279_151 (a : Nat) (st : List jV) (l1 l2 l3 : Option jV) (w : jH) : jblk jT0 279 cl bk (n + 1) 151 [some (jr a), l1, l2, l3] st w = jblk jT0 279 cl bk n 152 [some (jr a), l1, l2, l3] (jr a :: st) w := rfl
theorem E279_152 (a : Nat) (st : List jV) (l1 l2 l3 : Option jV) (w : jH) : jblk jT0 279 cl bk (n + 1) 152 [some (jr a), l1, l2, l3] st w = jblk jT0 279 cl bk n 153 [some (jr a), l1, l2, l3] (jr a :: st) w := rfl
theorem E279_153 (a : Nat) (st : List jV) (l0 l1 l2 l3 : Option jV) (w : jH) : jblk jT0 279 cl bk (n + 1) 153 [l0, l1, l2, l3] (jr a :: st) w = jgf w a 9 3 fun v => jblk jT0 279 cl bk n 156 [l0, l1, l2, l3] (v :: st) w := rfl
theorem E279_156 (a : Nat) (v0 : jV) (st : List jV) (l0 l1 l2 l3 : Option jV) (w : jH) : jblk jT0 279 cl bk (n + 1) 156 [l0, l1, l2, l3] (v0 :: jr a :: st) w = jsh st (jgo w a 9 fun _ => jcl (cl 183 [jr a, v0] w) (fun v w' => jblk jT0 279 cl bk n 159 [l0, l1, l2, l3] (jpush v st) w') (fun E w' => some (.inr E, w'))) := rfl
theorem E279_159 (a : Nat) (st : List jV) (l1 l2 l3 : Option jV) (w : jH) : jblk jT0 279 cl bk (n + 1) 159 [some (jr a), l1, l2, l3] st w = jblk jT0 279 cl bk n 160 [some (jr a), l1, l2, l3] (jr a :: st) w := rfl
theorem E279_160 (a : Nat) (st : List jV) (l0 l1 l2 l3 : Option jV) (w : jH) : jblk jT0 279 cl bk (n + 1) 160 [l0, l1, l2, l3] (jr a :: st) w = jgf w a 9 19 fun v => jblk jT0 279 cl bk n 163 [l0, l1, l2, l3] (v :: st) w := rfl
theorem E279_163 (x : Int) (l0 l1 l2 l3 : Option jV) (w : jH) : jblk jT0 279 cl bk (n + 1) 163 [l0, l1, l2, l3] [.inl x] w = if jfits .int x = true then some (.inl (some (.inl x)), w) else none := rfl
theorem E280_0 (a : Nat) (st : List jV) (w : jH) : jblk jT0 280 cl bk (n + 1) 0 [some (jr a)] st w = jblk jT0 280 cl bk n 1 [some (jr a)] (jr a :: st) w := rfl
theorem E280_1 (a : Nat) (st : List jV) (w : jH) : jblk jT0 280 cl bk (n + 1) 1 [some (jr a)] st w = jblk jT0 280 cl bk n 2 [some (jr a)] (jr a :: st) w := rfl
theorem E280_2 (a : Nat) (st : List jV) (l0 : Option jV) (w : jH) : jblk jT0 280 cl bk (n + 1) 2 [l0] (jr a :: st) w = jgf w a 9 14 fun v => jblk jT0 280 cl bk n 5 [l0] (v :: st) w := rfl
theorem E280_5 (x : Int) (st : List jV) (l0 : Option jV) (w : jH) : jblk jT0 280 cl bk (n + 1) 5 [l0] (.inl x :: st) w = if x < 0 then jblk jT0 280 cl bk n 8 [l0] st w else jblk jT0 280 cl bk n 12 [l0] st w := rfl
theorem E280_8 (st : List jV) (l0 : Option jV) (w : jH) : jblk jT0 280 cl bk (n + 1) 8 [l0] st w = jblk jT0 280 cl bk n 9 [l0] (.inl 1 :: st) w := rfl
theorem E280_9 (st : List jV) (l0 : Option jV) (w : jH) : jblk jT0 280 cl bk (n + 1) 9 [l0] st w = jblk jT0 280 cl bk n 13 [l0] st w := rfl
theorem E280_12 (st : List jV) (l0 : Option jV) (w : jH) : jblk jT0 280 cl bk (n + 1) 12 [l0] st w = jblk jT0 280 cl bk n 13 [l0] (.inl 0 :: st) w := rfl
theorem E280_13 (a : Nat) (v0 : jV) (st : List jV) (l0 : Option jV) (w : jH) : jblk jT0 280 cl bk (n + 1) 13 [l0] (v0 :: jr a :: st) w = jsh st (jgo w a 9 fun _ => jcl (cl 178 [jr a, v0] w) (fun v w' => jblk jT0 280 cl bk n 16 [l0] (jpush v st) w') (fun E w' => some (.inr E, w'))) := rfl
theorem E280_16 (x : Int) (st : List jV) (l0 : Option jV) (w : jH) : jblk jT0 280 cl bk (n + 1) 16 [l0] (.inl x :: st) w = if x = 0 then jblk jT0 280 cl bk n 23 [l0] st w else jblk jT0 280 cl bk n 19 [l0] st w := rfl
theorem E280_19 (st : List jV) (l0 : Option jV) (w : jH) : jblk jT0 280 cl bk (n + 1) 19 [l0] st w = jblk jT0 280 cl bk n 20 [l0] (.inl 0 :: st) w := rfl
theorem E280_20 (st : List jV) (l0 : Option jV) (w : jH) : jblk jT0 280 cl bk (n + 1) 20 [l0] st w = jblk jT0 280 cl bk n 27 [l0] st w := rfl
theorem E280_23 (a : Nat) (st : List jV) (w : jH) : jblk jT0 280 cl bk (n + 1) 23 [some (jr a)] st w = jblk jT0 280 cl bk n 24 [some (jr a)] (jr a :: st) w := rfl
theorem E280_24 (a : Nat) (st : List jV) (l0 : Option jV) (w : jH) : jblk jT0 280 cl bk (n + 1) 24 [l0] (jr a :: st) w = jgf w a 9 14 fun v => jblk jT0 280 cl bk n 27 [l0] (v :: st) w := rfl
theorem E280_27 (x : Int) (l0 : Option jV) (w : jH) : jblk jT0 280 cl bk (n + 1) 27 [l0] [.inl x] w = if jfits .int x = true then some (.inl (some (.inl x)), w) else none := rfl
theorem E281_0 (a : Nat) (st : List jV) (w : jH) : jblk jT0 281 cl bk (n + 1) 0 [some (jr a)] st w = jblk jT0 281 cl bk n 1 [some (jr a)] (jr a :: st) w := rfl
theorem E281_1 (a : Nat) (st : List jV) (w : jH) : jblk jT0 281 cl bk (n + 1) 1 [some (jr a)] st w = jblk jT0 281 cl bk n 2 [some (jr a)] (jr a :: st) w := rfl
theorem E281_2 (a : Nat) (st : List jV) (l0 : Option jV) (w : jH) : jblk jT0 281 cl bk (n + 1) 2 [l0] (jr a :: st) w = jgf w a 9 9 fun v => jblk jT0 281 cl bk n 5 [l0] (v :: st) w := rfl
theorem E281_5 (x : Int) (st : List jV) (l0 : Option jV) (w : jH) : jblk jT0 281 cl bk (n + 1) 5 [l0] (.inl x :: st) w = if x = 0 then jblk jT0 281 cl bk n 8 [l0] st w else jblk jT0 281 cl bk n 12 [l0] st w := rfl
theorem E281_8 (st : List jV) (l0 : Option jV) (w : jH) : jblk jT0 281 cl bk (n + 1) 8 [l0] st w = jblk jT0 281 cl bk n 9 [l0] (.inl 1 :: st) w := rfl
theorem E281_9 (st : List jV) (l0 : Option jV) (w : jH) : jblk jT0 281 cl bk (n + 1) 9 [l0] st w = jblk jT0 281 cl bk n 13 [l0] st w := rfl
theorem E281_12 (st : List jV) (l0 : Option jV) (w : jH) : jblk jT0 281 cl bk (n + 1) 12 [l0] st w = jblk jT0 281 cl bk n 13 [l0] (.inl 0 :: st) w := rfl
theorem E281_13 (a : Nat) (v0 : jV) (st : List jV) (l0 : Option jV) (w : jH) : jblk jT0 281 cl bk (n + 1) 13 [l0] (v0 :: jr a :: st) w = jsh st (jgo w a 9 fun _ => jcl (cl 178 [jr a, v0] w) (fun v w' => jblk jT0 281 cl bk n 16 [l0] (jpush v st) w') (fun E w' => some (.inr E, w'))) := rfl
theorem E281_16 (x : Int) (st : List jV) (l0 : Option jV) (w : jH) : jblk jT0 281 cl bk (n + 1) 16 [l0] (.inl x :: st) w = if x = 0 then jblk jT0 281 cl bk n 23 [l0] st w else jblk jT0 281 cl bk n 19 [l0] st w := rfl
theorem E281_19 (st : List jV) (l0 : Option jV) (w : jH) : jblk jT0 281 cl bk (n + 1) 19 [l0] st w = jblk jT0 281 cl bk n 20 [l0] (.inl 0 :: st) w := rfl
theorem E281_20 (st : List jV) (l0 : Option jV) (w : jH) : jblk jT0 281 cl bk (n + 1) 20 [l0] st w = jblk jT0 281 cl bk n 27 [l0] st w := rfl
theorem E281_23 (a : Nat) (st : List jV) (w : jH) : jblk jT0 281 cl bk (n + 1) 23 [some (jr a)] st w = jblk jT0 281 cl bk n 24 [some (jr a)] (jr a :: st) w := rfl
theorem E281_24 (a : Nat) (st : List jV) (l0 : Option jV) (w : jH) : jblk jT0 281 cl bk (n + 1) 24 [l0] (jr a :: st) w = jgf w a 9 9 fun v => jblk jT0 281 cl bk n 27 [l0] (v :: st) w := rfl
theorem E281_27 (x : Int) (l0 : Option jV) (w : jH) : jblk jT0 281 cl bk (n + 1) 27 [l0] [.inl x] w = if jfits .int x = true then some (.inl (some (.inl x)), w) else none := rfl
theorem E282_0 (a : Nat) (st : List jV) (w : jH) : jblk jT0 282 cl bk (n + 1) 0 [some (jr a)] st w = jblk jT0 282 cl bk n 1 [some (jr a)] (jr a :: st) w := rfl
theorem E282_1 (a : Nat) (st : List jV) (w : jH) : jblk jT0 282 cl bk (n + 1) 1 [some (jr a)] st w = jblk jT0 282 cl bk n 2 [some (jr a)] (jr a :: st) w := rfl
theorem E282_2 (a : Nat) (st : List jV) (l0 : Option jV) (w : jH) : jblk jT0 282 cl bk (n + 1) 2 [l0] (jr a :: st) w = jgf w a 9 9 fun v => jblk jT0 282 cl bk n 5 [l0] (v :: st) w := rfl
theorem E282_5 (x : Int) (st : List jV) (l0 : Option jV) (w : jH) : jblk jT0 282 cl bk (n + 1) 5 [l0] (.inl x :: st) w = if x = 0 then jblk jT0 282 cl bk n 8 [l0] st w else jblk jT0 282 cl bk n 12 [l0] st w := rfl
theorem E282_8 (st : List jV) (l0 : Option jV) (w : jH) : jblk jT0 282 cl bk (n + 1) 8 [l0] st w = jblk jT0 282 cl bk n 9 [l0] (.inl 1 :: st) w := rfl
theorem E282_9 (st : List jV) (l0 : Option jV) (w : jH) : jblk jT0 282 cl bk (n + 1) 9 [l0] st w = jblk jT0 282 cl bk n 13 [l0] st w := rfl
theorem E282_12 (st : List jV) (l0 : Option jV) (w : jH) : jblk jT0 282 cl bk (n + 1) 12 [l0] st w = jblk jT0 282 cl bk n 13 [l0] (.inl 0 :: st) w := rfl
theorem E282_13 (a : Nat) (v0 : jV) (st : List jV) (l0 : Option jV) (w : jH) : jblk jT0 282 cl bk (n + 1) 13 [l0] (v0 :: jr a :: st) w = jsh st (jgo w a 9 fun _ => jcl (cl 178 [jr a, v0] w) (fun v w' => jblk jT0 282 cl bk n 16 [l0] (jpush v st) w') (fun E w' => some (.inr E, w'))) := rfl
theorem E282_16 (x : Int) (st : List jV) (l0 : Option jV) (w : jH) : jblk jT0 282 cl bk (n + 1) 16 [l0] (.inl x :: st) w = if x = 0 then jblk jT0 282 cl bk n 23 [l0] st w else jblk jT0 282 cl bk n 19 [l0] st w := rfl
theorem E282_19 (st : List jV) (l0 : Option jV) (w : jH) : jblk jT0 282 cl bk (n + 1) 19 [l0] st w = jblk jT0 282 cl bk n 20 [l0] (.inl 0 :: st) w := rfl
theorem E282_20 (st : List jV) (l0 : Option jV) (w : jH) : jblk jT0 282 cl bk (n + 1) 20 [l0] st w = jblk jT0 282 cl bk n 27 [l0] st w := rfl
theorem E282_23 (a : Nat) (st : List jV) (w : jH) : jblk jT0 282 cl bk (n + 1) 23 [some (jr a)] st w = jblk jT0 282 cl bk n 24 [some (jr a)] (jr a :: st) w := rfl
theorem E282_24 (a : Nat) (st : List jV) (l0 : Option jV) (w : jH) : jblk jT0 282 cl bk (n + 1) 24 [l0] (jr a :: st) w = jgf w a 9 10 fun v => jblk jT0 282 cl bk n 27 [l0] (v :: st) w := rfl
theorem E282_27 (x : Int) (l0 : Option jV) (w : jH) : jblk jT0 282 cl bk (n + 1) 27 [l0] [.inl x] w = if jfits .int x = true then some (.inl (some (.inl x)), w) else none := rfl
theorem E283_0 (a : Nat) (st : List jV) (w : jH) : jblk jT0 283 cl bk (n + 1) 0 [some (jr a)] st w = jblk jT0 283 cl bk n 1 [some (jr a)] (jr a :: st) w := rfl
theorem E283_1 (a : Nat) (st : List jV) (w : jH) : jblk jT0 283 cl bk (n + 1) 1 [some (jr a)] st w = jblk jT0 283 cl bk n 2 [some (jr a)] (jr a :: st) w := rfl
theorem E283_2 (a : Nat) (st : List jV) (l0 : Option jV) (w : jH) : jblk jT0 283 cl bk (n + 1) 2 [l0] (jr a :: st) w = jgf w a 9 11 fun v => jblk jT0 283 cl bk n 5 [l0] (v :: st) w := rfl
theorem E283_5 (x : Int) (st : List jV) (l0 : Option jV) (w : jH) : jblk jT0 283 cl bk (n + 1) 5 [l0] (.inl x :: st) w = if x = 0 then jblk jT0 283 cl bk n 8 [l0] st w else jblk jT0 283 cl bk n 12 [l0] st w := rfl
theorem E283_8 (st : List jV) (l0 : Option jV) (w : jH) : jblk jT0 283 cl bk (n + 1) 8 [l0] st w = jblk jT0 283 cl bk n 9 [l0] (.inl 1 :: st) w := rfl
theorem E283_9 (st : List jV) (l0 : Option jV) (w : jH) : jblk jT0 283 cl bk (n + 1) 9 [l0] st w = jblk jT0 283 cl bk n 13 [l0] st w := rfl
theorem E283_12 (st : List jV) (l0 : Option jV) (w : jH) : jblk jT0 283 cl bk (n + 1) 12 [l0] st w = jblk jT0 283 cl bk n 13 [l0] (.inl 0 :: st) w := rfl
theorem E283_13 (a : Nat) (v0 : jV) (st : List jV) (l0 : Option jV) (w : jH) : jblk jT0 283 cl bk (n + 1) 13 [l0] (v0 :: jr a :: st) w = jsh st (jgo w a 9 fun _ => jcl (cl 178 [jr a, v0] w) (fun v w' => jblk jT0 283 cl bk n 16 [l0] (jpush v st) w') (fun E w' => some (.inr E, w'))) := rfl
theorem E283_16 (x : Int) (st : List jV) (l0 : Option jV) (w : jH) : jblk jT0 283 cl bk (n + 1) 16 [l0] (.inl x :: st) w = if x = 0 then jblk jT0 283 cl bk n 23 [l0] st w else jblk jT0 283 cl bk n 19 [l0] st w := rfl
theorem E283_19 (st : List jV) (l0 : Option jV) (w : jH) : jblk jT0 283 cl bk (n + 1) 19 [l0] st w = jblk jT0 283 cl bk n 20 [l0] (.inl 0 :: st) w := rfl
theorem E283_20 (st : List jV) (l0 : Option jV) (w : jH) : jblk jT0 283 cl bk (n + 1) 20 [l0] st w = jblk jT0 283 cl bk n 27 [l0] st w := rfl
theorem E283_23 (a : Nat) (st : List jV) (w : jH) : jblk jT0 283 cl bk (n + 1) 23 [some (jr a)] st w = jblk jT0 283 cl bk n 24 [some (jr a)] (jr a :: st) w := rfl
theorem E283_24 (a : Nat) (st : List jV) (l0 : Option jV) (w : jH) : jblk jT0 283 cl bk (n + 1) 24 [l0] (jr a :: st) w = jgf w a 9 11 fun v => jblk jT0 283 cl bk n 27 [l0] (v :: st) w := rfl
theorem E283_27 (x : Int) (l0 : Option jV) (w : jH) : jblk jT0 283 cl bk (n + 1) 27 [l0] [.inl x] w = if jfits .int x = true then some (.inl (some (.inl x)), w) else none := rfl
theorem E284_0 (a : Nat) (st : List jV) (w : jH) : jblk jT0 284 cl bk (n + 1) 0 [some (jr a)] st w = jblk jT0 284 cl bk n 1 [some (jr a)] (jr a :: st) w := rfl
theorem E284_1 (a : Nat) (st : List jV) (w : jH) : jblk jT0 284 cl bk (n + 1) 1 [some (jr a)] st w = jblk jT0 284 cl bk n 2 [some (jr a)] (jr a :: st) w := rfl
theorem E284_2 (a : Nat) (st : List jV) (l0 : Option jV) (w : jH) : jblk jT0 284 cl bk (n + 1) 2 [l0] (jr a :: st) w = jgf w a 9 5 fun v => jblk jT0 284 cl bk n 5 [l0] (v :: st) w := rfl
theorem E284_5 (x : Int) (st : List jV) (l0 : Option jV) (w : jH) : jblk jT0 284 cl bk (n + 1) 5 [l0] (.inl x :: st) w = if x = 0 then jblk jT0 284 cl bk n 8 [l0] st w else jblk jT0 284 cl bk n 12 [l0] st w := rfl
theorem E284_8 (st : List jV) (l0 : Option jV) (w : jH) : jblk jT0 284 cl bk (n + 1) 8 [l0] st w = jblk jT0 284 cl bk n 9 [l0] (.inl 1 :: st) w := rfl
theorem E284_9 (st : List jV) (l0 : Option jV) (w : jH) : jblk jT0 284 cl bk (n + 1) 9 [l0] st w = jblk jT0 284 cl bk n 13 [l0] st w := rfl
theorem E284_12 (st : List jV) (l0 : Option jV) (w : jH) : jblk jT0 284 cl bk (n + 1) 12 [l0] st w = jblk jT0 284 cl bk n 13 [l0] (.inl 0 :: st) w := rfl
theorem E284_13 (a : Nat) (v0 : jV) (st : List jV) (l0 : Option jV) (w : jH) : jblk jT0 284 cl bk (n + 1) 13 [l0] (v0 :: jr a :: st) w = jsh st (jgo w a 9 fun _ => jcl (cl 178 [jr a, v0] w) (fun v w' => jblk jT0 284 cl bk n 16 [l0] (jpush v st) w') (fun E w' => some (.inr E, w'))) := rfl
theorem E284_16 (x : Int) (st : List jV) (l0 : Option jV) (w : jH) : jblk jT0 284 cl bk (n + 1) 16 [l0] (.inl x :: st) w = if x = 0 then jblk jT0 284 cl bk n 21 [l0] st w else jblk jT0 284 cl bk n 19 [l0] st w := rfl
theorem E284_19 (st : List jV) (l0 : Option jV) (w : jH) : jblk jT0 284 cl bk (n + 1) 19 [l0] st w = jblk jT0 284 cl bk n 20 [l0] (.inl 0 :: st) w := rfl
theorem E284_20 (x : Int) (l0 : Option jV) (w : jH) : jblk jT0 284 cl bk (n + 1) 20 [l0] [.inl x] w = if jfits .int x = true then some (.inl (some (.inl x)), w) else none := rfl
theorem E284_21 (a : Nat) (st : List jV) (w : jH) : jblk jT0 284 cl bk (n + 1) 21 [some (jr a)] st w = jblk jT0 284 cl bk n 22 [some (jr a)] (jr a :: st) w := rfl
theorem E284_22_0 (x : Int) (st : List jV) (l0 : Option jV) (w : jH) : jblk jT0 284 cl bk (n + 1) 22 [l0] (.inl x :: st) w = jblk jT0 284 cl bk n 23 [l0] (.inl x :: .inl x :: st) w := rfl
theorem E284_22_1 (a : Nat) (st : List jV) (l0 : Option jV) (w : jH) : jblk jT0 284 cl bk (n + 1) 22 [l0] (jr a :: st) w = jblk jT0 284 cl bk n 23 [l0] (jr a :: jr a :: st) w := rfl
theorem E284_23 (a : Nat) (st : List jV) (l0 : Option jV) (w : jH) : jblk jT0 284 cl bk (n + 1) 23 [l0] (jr a :: st) w = jgf w a 9 5 fun v => jblk jT0 284 cl bk n 26 [l0] (v :: st) w := rfl
theorem E284_26 (st : List jV) (l0 : Option jV) (w : jH) : jblk jT0 284 cl bk (n + 1) 26 [l0] st w = jblk jT0 284 cl bk n 27 [l0] (.inl 1 :: st) w := rfl
theorem E284_27 (x : Int) (y : Int) (st : List jV) (l0 : Option jV) (w : jH) : jblk jT0 284 cl bk (n + 1) 27 [l0] (.inl y :: .inl x :: st) w = jblk jT0 284 cl bk n 28 [l0] (.inl (jw (x - y)) :: st) w := rfl
theorem E284_28 (a : Nat) (v : jV) (st : List jV) (l0 : Option jV) (w : jH) : jblk jT0 284 cl bk (n + 1) 28 [l0] (v :: jr a :: st) w = jpf w a 9 5 .int v fun w' => jblk jT0 284 cl bk n 31 [l0] st w' := rfl
theorem E284_31 (a : Nat) (st : List jV) (w : jH) : jblk jT0 284 cl bk (n + 1) 31 [some (jr a)] st w = jblk jT0 284 cl bk n 32 [some (jr a)] (jr a :: st) w := rfl
theorem E284_32 (a : Nat) (st : List jV) (l0 : Option jV) (w : jH) : jblk jT0 284 cl bk (n + 1) 32 [l0] (jr a :: st) w = jgf w a 9 1 fun v => jblk jT0 284 cl bk n 35 [l0] (v :: st) w := rfl
theorem E284_35 (st : List jV) (l0 : Option jV) (w : jH) : jblk jT0 284 cl bk (n + 1) 35 [l0] st w = jblk jT0 284 cl bk n 38 [l0] (.inl 138 :: st) w := rfl
theorem E284_38 (a : Nat) (st : List jV) (w : jH) : jblk jT0 284 cl bk (n + 1) 38 [some (jr a)] st w = jblk jT0 284 cl bk n 39 [some (jr a)] (jr a :: st) w := rfl
theorem E284_39 (a : Nat) (st : List jV) (l0 : Option jV) (w : jH) : jblk jT0 284 cl bk (n + 1) 39 [l0] (jr a :: st) w = jgf w a 9 5 fun v => jblk jT0 284 cl bk n 42 [l0] (v :: st) w := rfl
theorem E284_42 (x : Int) (y : Int) (st : List jV) (l0 : Option jV) (w : jH) : jblk jT0 284 cl bk (n + 1) 42 [l0] (.inl y :: .inl x :: st) w = jblk jT0 284 cl bk n 43 [l0] (.inl (jw (x * y)) :: st) w := rfl
theorem E284_43 (a : Nat) (st : List jV) (w : jH) : jblk jT0 284 cl bk (n + 1) 43 [some (jr a)] st w = jblk jT0 284 cl bk n 44 [some (jr a)] (jr a :: st) w := rfl
theorem E284_44 (a : Nat) (st : List jV) (l0 : Option jV) (w : jH) : jblk jT0 284 cl bk (n + 1) 44 [l0] (jr a :: st) w = jgf w a 9 0 fun v => jblk jT0 284 cl bk n 47 [l0] (v :: st) w := rfl
theorem E284_47 (st : List jV) (l0 : Option jV) (w : jH) : jblk jT0 284 cl bk (n + 1) 47 [l0] st w = jblk jT0 284 cl bk n 48 [l0] (.inl 0 :: st) w := rfl
theorem E284_48 (v0 : jV) (v1 : jV) (v2 : jV) (v3 : jV) (st : List jV) (l0 : Option jV) (w : jH) : jblk jT0 284 cl bk (n + 1) 48 [l0] (v3 :: v2 :: v1 :: v0 :: st) w = jsh st (jcl (cl 182 [v0, v1, v2, v3] w) (fun v w' => jblk jT0 284 cl bk n 51 [l0] (jpush v st) w') (fun E w' => some (.inr E, w'))) := rfl
theorem E284_51 (a : Nat) (st : List jV) (w : jH) : jblk jT0 284 cl bk (n + 1) 51 [some (jr a)] st w = jblk jT0 284 cl bk n 52 [some (jr a)] (jr a :: st) w := rfl
theorem E284_52 (a : Nat) (st : List jV) (l0 : Option jV) (w : jH) : jblk jT0 284 cl bk (n + 1) 52 [l0] (jr a :: st) w = jgf w a 9 5 fun v => jblk jT0 284 cl bk n 55 [l0] (v :: st) w := rfl
theorem E284_55 (x : Int) (l0 : Option jV) (w : jH) : jblk jT0 284 cl bk (n + 1) 55 [l0] [.inl x] w = if jfits .int x = true then some (.inl (some (.inl x)), w) else none := rfl
theorem E285_0 (a : Nat) (st : List jV) (w : jH) : jblk jT0 285 cl bk (n + 1) 0 [some (jr a)] st w = jblk jT0 285 cl bk n 1 [some (jr a)] (jr a :: st) w := rfl
theorem E285_1 (st : List jV) (l0 : Option jV) (w : jH) : jblk jT0 285 cl bk (n + 1) 1 [l0] st w = jblk jT0 285 cl bk n 2 [l0] (.inl 0 :: st) w := rfl
theorem E285_2 (a : Nat) (v : jV) (st : List jV) (l0 : Option jV) (w : jH) : jblk jT0 285 cl bk (n + 1) 2 [l0] (v :: jr a :: st) w = jpf w a 9 8 .int v fun w' => jblk jT0 285 cl bk n 5 [l0] st w' := rfl
theorem E285_5 (a : Nat) (st : List jV) (w : jH) : jblk jT0 285 cl bk (n + 1) 5 [some (jr a)] st w = jblk jT0 285 cl bk n 6 [some (jr a)] (jr a :: st) w := rfl
theorem E285_6 (a : Nat) (st : List jV) (l0 : Option jV) (w : jH) : jblk jT0 285 cl bk (n + 1) 6 [l0] (jr a :: st) w = jgf w a 9 5 fun v => jblk jT0 285 cl bk n 9 [l0] (v :: st) w := rfl
theorem E285_9 (x : Int) (l0 : Option jV) (w : jH) : jblk jT0 285 cl bk (n + 1) 9 [l0] [.inl x] w = if jfits .int x = true then some (.inl (some (.inl x)), w) else none := rfl
theorem E286_0 (a : Nat) (st : List jV) (w : jH) : jblk jT0 286 cl bk (n + 1) 0 [some (jr a)] st w = jblk jT0 286 cl bk n 1 [some (jr a)] (jr a :: st) w := rfl
theorem E286_1 (st : List jV) (l0 : Option jV) (w : jH) : jblk jT0 286 cl bk (n + 1) 1 [l0] st w = jblk jT0 286 cl bk n 2 [l0] (.inl 0 :: st) w := rfl
theorem E286_2 (a : Nat) (v : jV) (st : List jV) (l0 : Option jV) (w : jH) : jblk jT0 286 cl bk (n + 1) 2 [l0] (v :: jr a :: st) w = jpf w a 9 8 .int v fun w' => jblk jT0 286 cl bk n 5 [l0] st w' := rfl
theorem E286_5 (a : Nat) (st : List jV) (w : jH) : jblk jT0 286 cl bk (n + 1) 5 [some (jr a)] st w = jblk jT0 286 cl bk n 6 [some (jr a)] (jr a :: st) w := rfl
theorem E286_6 (st : List jV) (l0 : Option jV) (w : jH) : jblk jT0 286 cl bk (n + 1) 6 [l0] st w = jblk jT0 286 cl bk n 7 [l0] (.inl 1 :: st) w := rfl
theorem E286_7 (a : Nat) (v : jV) (st : List jV) (l0 : Option jV) (w : jH) : jblk jT0 286 cl bk (n + 1) 7 [l0] (v :: jr a :: st) w = jpf w a 9 4 .boolean v fun w' => jblk jT0 286 cl bk n 10 [l0] st w' := rfl
theorem E286_10 (a : Nat) (st : List jV) (w : jH) : jblk jT0 286 cl bk (n + 1) 10 [some (jr a)] st w = jblk jT0 286 cl bk n 11 [some (jr a)] (jr a :: st) w := rfl
theorem E286_11 (a : Nat) (st : List jV) (l0 : Option jV) (w : jH) : jblk jT0 286 cl bk (n + 1) 11 [l0] (jr a :: st) w = jgf w a 9 0 fun v => jblk jT0 286 cl bk n 14 [l0] (v :: st) w := rfl
theorem E286_14 (st : List jV) (l0 : Option jV) (w : jH) : jblk jT0 286 cl bk (n + 1) 14 [l0] st w = jblk jT0 286 cl bk n 15 [l0] (.inl 0 :: st) w := rfl
theorem E286_15 (a : Nat) (st : List jV) (w : jH) : jblk jT0 286 cl bk (n + 1) 15 [some (jr a)] st w = jblk jT0 286 cl bk n 16 [some (jr a)] (jr a :: st) w := rfl
theorem E286_16 (a : Nat) (st : List jV) (l0 : Option jV) (w : jH) : jblk jT0 286 cl bk (n + 1) 16 [l0] (jr a :: st) w = jgf w a 9 2 fun v => jblk jT0 286 cl bk n 19 [l0] (v :: st) w := rfl
theorem E286_19 (st : List jV) (l0 : Option jV) (w : jH) : jblk jT0 286 cl bk (n + 1) 19 [l0] st w = jblk jT0 286 cl bk n 20 [l0] (.inl 0 :: st) w := rfl
theorem E286_20 (v0 : jV) (v1 : jV) (v2 : jV) (v3 : jV) (st : List jV) (l0 : Option jV) (w : jH) : jblk jT0 286 cl bk (n + 1) 20 [l0] (v3 :: v2 :: v1 :: v0 :: st) w = jsh st (jcl (cl 182 [v0, v1, v2, v3] w) (fun v w' => jblk jT0 286 cl bk n 23 [l0] (jpush v st) w') (fun E w' => some (.inr E, w'))) := rfl
theorem E286_23 (a : Nat) (st : List jV) (w : jH) : jblk jT0 286 cl bk (n + 1) 23 [some (jr a)] st w = jblk jT0 286 cl bk n 24 [some (jr a)] (jr a :: st) w := rfl
theorem E286_24 (a : Nat) (st : List jV) (l0 : Option jV) (w : jH) : jblk jT0 286 cl bk (n + 1) 24 [l0] (jr a :: st) w = jgf w a 9 0 fun v => jblk jT0 286 cl bk n 27 [l0] (v :: st) w := rfl
theorem E286_27 (st : List jV) (l0 : Option jV) (w : jH) : jblk jT0 286 cl bk (n + 1) 27 [l0] st w = jblk jT0 286 cl bk n 28 [l0] (.inl 0 :: st) w := rfl
theorem E286_28 (x : Int) (a : Nat) (st : List jV) (l0 : Option jV) (w : jH) : jblk jT0 286 cl bk (n + 1) 28 [l0] (.inl x :: jr a :: st) w = jlda w a x (fun z => jblk jT0 286 cl bk n 29 [l0] (.inl z :: st) w) := rfl
theorem E286_29 (x : Int) (l0 : Option jV) (w : jH) : jblk jT0 286 cl bk (n + 1) 29 [l0] [.inl x] w = if jfits .int x = true then some (.inl (some (.inl x)), w) else none := rfl
end
theorem M277 (d : Nat) (r0 : Nat) (a1 : Int) (w : jH) : jme jT0 jMx (d + 1) 277 [jr r0, .inl a1] w = jblk jT0 277 (jme jT0 jMx d) (jlp jT0 277 (jme jT0 jMx d) 99999) 4000 0 [some (jr r0), some (.inl a1), none] [] w := (show _ = jlp jT0 277 (jme jT0 jMx d) 100000 0 [some (jr r0), some (.inl a1), none] [] w from rfl).trans jlp_s
theorem M278 (d : Nat) (r0 : Nat) (a1 : Int) (w : jH) : jme jT0 jMx (d + 1) 278 [jr r0, .inl a1] w = jblk jT0 278 (jme jT0 jMx d) (jlp jT0 278 (jme jT0 jMx d) 99999) 4000 0 [some (jr r0), some (.inl a1), none] [] w := (show _ = jlp jT0 278 (jme jT0 jMx d) 100000 0 [some (jr r0), some (.inl a1), none] [] w from rfl).trans jlp_s
theorem M279 (d : Nat) (r0 : Nat) (w : jH) : jme jT0 jMx (d + 1) 279 [jr r0] w = jblk jT0 279 (jme jT0 jMx d) (jlp jT0 279 (jme jT0 jMx d) 99999) 4000 0 [some (jr r0), none, none, none] [] w := (show _ = jlp jT0 279 (jme jT0 jMx d) 100000 0 [some (jr r0), none, none, none] [] w from rfl).trans jlp_s
theorem M280 (d : Nat) (r0 : Nat) (w : jH) : jme jT0 jMx (d + 1) 280 [jr r0] w = jblk jT0 280 (jme jT0 jMx d) (jlp jT0 280 (jme jT0 jMx d) 99999) 4000 0 [some (jr r0)] [] w := (show _ = jlp jT0 280 (jme jT0 jMx d) 100000 0 [some (jr r0)] [] w from rfl).trans jlp_s
theorem M281 (d : Nat) (r0 : Nat) (w : jH) : jme jT0 jMx (d + 1) 281 [jr r0] w = jblk jT0 281 (jme jT0 jMx d) (jlp jT0 281 (jme jT0 jMx d) 99999) 4000 0 [some (jr r0)] [] w := (show _ = jlp jT0 281 (jme jT0 jMx d) 100000 0 [some (jr r0)] [] w from rfl).trans jlp_s
theorem M282 (d : Nat) (r0 : Nat) (w : jH) : jme jT0 jMx (d + 1) 282 [jr r0] w = jblk jT0 282 (jme jT0 jMx d) (jlp jT0 282 (jme jT0 jMx d) 99999) 4000 0 [some (jr r0)] [] w := (show _ = jlp jT0 282 (jme jT0 jMx d) 100000 0 [some (jr r0)] [] w from rfl).trans jlp_s
theorem M283 (d : Nat) (r0 : Nat) (w : jH) : jme jT0 jMx (d + 1) 283 [jr r0] w = jblk jT0 283 (jme jT0 jMx d) (jlp jT0 283 (jme jT0 jMx d) 99999) 4000 0 [some (jr r0)] [] w := (show _ = jlp jT0 283 (jme jT0 jMx d) 100000 0 [some (jr r0)] [] w from rfl).trans jlp_s
theorem M284 (d : Nat) (r0 : Nat) (w : jH) : jme jT0 jMx (d + 1) 284 [jr r0] w = jblk jT0 284 (jme jT0 jMx d) (jlp jT0 284 (jme jT0 jMx d) 99999) 4000 0 [some (jr r0)] [] w := (show _ = jlp jT0 284 (jme jT0 jMx d) 100000 0 [some (jr r0)] [] w from rfl).trans jlp_s
theorem M285 (d : Nat) (r0 : Nat) (w : jH) : jme jT0 jMx (d + 1) 285 [jr r0] w = jblk jT0 285 (jme jT0 jMx d) (jlp jT0 285 (jme jT0 jMx d) 99999) 4000 0 [some (jr r0)] [] w := (show _ = jlp jT0 285 (jme jT0 jMx d) 100000 0 [some (jr r0)] [] w from rfl).trans jlp_s
theorem M286 (d : Nat) (r0 : Nat) (w : jH) : jme jT0 jMx (d + 1) 286 [jr r0] w = jblk jT0 286 (jme jT0 jMx d) (jlp jT0 286 (jme jT0 jMx d) 99999) 4000 0 [some (jr r0)] [] w := (show _ = jlp jT0 286 (jme jT0 jMx d) 100000 0 [some (jr r0)] [] w from rfl).trans jlp_s
def f_Mod_carries (m : jMem) (a1 : Int) : Option (Int × jMem) := oix (jw (a1 + 1)) 124 (oix a1 124 (if (m 154 a1.toNat) = 97 then oix (jw (a1 + 2)) 124 (oix (jw (a1 + 3)) 124 ((f_Mod_addHabit m (m 154 (jw (a1 + 1)).toNat) ((m 154 (jw (a1 + 2)).toNat) % 65536) (m 154 (jw (a1 + 3)).toNat)).bind fun qx17 => some (qx17.1, qx17.2))) else if (m 154 a1.toNat) = 98 then (f_Mod_bury m (m 154 (jw (a1 + 1)).toNat)).bind fun qx16 => some (qx16.1, qx16.2) else if (m 154 a1.toNat) = 99 then (f_Mod_addChild m (m 154 (jw (a1 + 1)).toNat)).bind fun qx15 => some (qx15.1, qx15.2) else if (m 154 a1.toNat) = 100 then (f_Mod_passYears m (m 154 (jw (a1 + 1)).toNat)).bind fun qx14 => some (qx14.1, qx14.2) else if (m 154 a1.toNat) = 101 then (f_Mod_entail m (m 154 (jw (a1 + 1)).toNat)).bind fun qx13 => some (qx13.1, qx13.2) else if (m 154 a1.toNat) = 102 then (f_Mod_addFounder m).bind fun qx12 => some (qx12.1, qx12.2) else if (m 154 a1.toNat) = 103 then oix (jw (a1 + 2)) 124 ((f_Mod_give m (m 154 (jw (a1 + 1)).toNat) (m 154 (jw (a1 + 2)).toNat)).bind fun qx11 => some (qx11.1, qx11.2)) else if (m 154 a1.toNat) = 104 then (f_Mod_passYears m (m 154 (jw (a1 + 1)).toNat)).bind fun qx10 => some (qx10.1, qx10.2) else if (m 154 a1.toNat) = 105 then (f_Mod_passYears m (m 154 (jw (a1 + 1)).toNat)).bind fun qx9 => some (qx9.1, qx9.2) else if (m 154 a1.toNat) = 106 then (f_Mod_passYears m (m 154 (jw (a1 + 1)).toNat)).bind fun qx8 => some (qx8.1, qx8.2) else if (m 154 a1.toNat) = 107 then (f_Mod_breakEntail m (m 154 (jw (a1 + 1)).toNat)).bind fun qx7 => some (qx7.1, qx7.2) else if (m 154 a1.toNat) = 108 then (f_Mod_passYears m (m 154 (jw (a1 + 1)).toNat)).bind fun qx6 => some (qx6.1, qx6.2) else if (m 154 a1.toNat) = 109 then (f_Mod_passYears m (m 154 (jw (a1 + 1)).toNat)).bind fun qx5 => some (qx5.1, qx5.2) else if (m 154 a1.toNat) = 110 then (f_Mod_neglect m (m 154 (jw (a1 + 1)).toNat)).bind fun qx4 => some (qx4.1, qx4.2) else if (m 154 a1.toNat) = 111 then (f_Mod_passYears m (m 154 (jw (a1 + 1)).toNat)).bind fun qx3 => some (qx3.1, qx3.2) else if (m 154 a1.toNat) = 112 then (f_Mod_practise m (m 154 (jw (a1 + 1)).toNat)).bind fun qx2 => some (qx2.1, qx2.2) else (f_Mod_passYears m (m 154 (jw (a1 + 1)).toNat)).bind fun qx1 => some (qx1.1, qx1.2)))
section
variable {cf : jCf} {dv : UInt64}
set_option maxRecDepth 20000 in
set_option maxHeartbeats 4000000 in
theorem X277 (d : Nat) (a1 : Int) (m : jMem) (k : jM) : jme jT0 jMx (d + 8) 277 [jr (jn cf + 147), .inl a1] (hp cf dv m, k) = lW cf dv k ijI (f_Mod_carries m a1) := by
  simp only [M277, E277_0, E277_1, E277_4, E277_5, E277_6, E277_7, E277_8, E277_9, E277_10, E277_13, E277_14, E277_15, E277_92, E277_93, E277_96, E277_97, E277_98, E277_99, E277_102, E277_103, E277_104, E277_105, E277_108, E277_109, E277_110, E277_111, E277_112, E277_115, E277_116, E277_117, E277_118, E277_119, E277_120, E277_121, E277_124, E277_125, E277_126, E277_127, E277_128, E277_131, E277_132, E277_133, E277_134, E277_137, E277_138, E277_139, E277_140, E277_143, E277_144, E277_145, E277_146, E277_149, E277_150, E277_151, E277_152, E277_155, E277_156, E277_157, E277_158, E277_159, E277_162, E277_163, E277_164, E277_165, E277_166, E277_169, E277_170, E277_171, E277_172, E277_175, ai_154, gf_147_18, X189, X190, X196, X230, X231, X233, X234, X235, X236, X249, go_147, jsh_n, jsh_I, jsh_R, jsh_II, jsh_IR, jsh_RI, jsh_RR, jsh_III, jsh_IIR, jsh_IRI, jsh_IRR, jsh_RII, jsh_RIR, jsh_RRI, jsh_RRR, jsh_IIII, jsh_IIIR, jsh_IIRI, jsh_IIRR, jsh_IRII, jsh_IRIR, jsh_IRRI, jsh_IRRR, jsh_RIII, jsh_RIIR, jsh_RIRI, jsh_RIRR, jsh_RRII, jsh_RRIR, jsh_RRRI, jsh_RRRR, jthr_hp, jc_l0, jc_lW, jc_lX, jc_lXW, jc_lVW, jc_lVX, jpush_n, jpush_s, obt_0, obt_1, och_0, och_32, och_100, och_115, och_104, och_33, och_43, och_60, jint, jbit, jchr, ijI, ijR, ijD, ijF, ↓reduceIte, Int.reduceEq, Int.reduceLT, reduceCtorEq, lW_bind, lW_ite, lW_none, lW_oix, lW_obt, lW_och, lW_sel, lW_oel, lW_some, f_Mod_carries]
end
def f_Mod_rejectsInput (m : jMem) (a1 : Int) : Option (Int × jMem) := (f_Mod_rejects m 3 12 a1).bind fun qx1 => some (0, mset qx1.2 147 11 (m 147 9))
section
variable {cf : jCf} {dv : UInt64}
set_option maxRecDepth 20000 in
set_option maxHeartbeats 4000000 in
theorem X278 (d : Nat) (a1 : Int) (m : jMem) (k : jM) : jme jT0 jMx (d + 2) 278 [jr (jn cf + 147), .inl a1] (hp cf dv m, k) = lW cf dv k ijI (f_Mod_rejectsInput m a1) := by
  simp only [M278, E278_0, E278_1, E278_4, E278_5, E278_6, E278_7, E278_9, E278_10, E278_13, E278_14, E278_15, E278_16, E278_19, E278_20, gf_147_9, pf_147_11, X179, go_147, jsh_n, jsh_I, jsh_R, jsh_II, jsh_IR, jsh_RI, jsh_RR, jsh_III, jsh_IIR, jsh_IRI, jsh_IRR, jsh_RII, jsh_RIR, jsh_RRI, jsh_RRR, jsh_IIII, jsh_IIIR, jsh_IIRI, jsh_IIRR, jsh_IRII, jsh_IRIR, jsh_IRRI, jsh_IRRR, jsh_RIII, jsh_RIIR, jsh_RIRI, jsh_RIRR, jsh_RRII, jsh_RRIR, jsh_RRRI, jsh_RRRR, jthr_hp, jc_l0, jc_lW, jc_lX, jc_lXW, jc_lVW, jc_lVX, jpush_n, jpush_s, obt_0, obt_1, och_0, och_32, och_100, och_115, och_104, och_33, och_43, och_60, jint, jbit, jchr, ijI, ijR, ijD, ijF, ↓reduceIte, Int.reduceEq, Int.reduceLT, reduceCtorEq, lW_bind, lW_ite, lW_none, lW_oix, lW_obt, lW_och, lW_sel, lW_oel, lW_some, f_Mod_rejectsInput]
end
def f_Mod_copies_148_151L : Nat → jMem → Int → Int → Int → Option jMem
  | 0, _, _, _, _ => none
  | N + 1, m, a1, a3, a4 => if a4 < 138 then oix (jw (a1 + a4)) 138 (oix (jw (a3 + a4)) 138 (f_Mod_copies_148_151L N (mset m 151 (jw (a3 + a4)).toNat (m 148 (jw (a1 + a4)).toNat)) a1 a3 (jw (a4 + 1)))) else some (m)
def f_Mod_copies_148_151 (m : jMem) (a1 : Int) (a3 : Int) : Option jMem := f_Mod_copies_148_151L 99999 m a1 a3 0
section
variable {cf : jCf} {dv : UInt64}
set_option maxRecDepth 20000 in
set_option maxHeartbeats 4000000 in
theorem X182_148_151L (d : Nat) : ∀ (N : Nat) (m : jMem) (k : jM), (∀ (a1 a3 a4 : Int), jlp jT0 182 (jme jT0 jMx d) N 3 [some (jr (jn cf + 148)), some (.inl a1), some (jr (jn cf + 151)), some (.inl a3), some (.inl a4)] [] (hp cf dv m, k) = lVW cf dv k (f_Mod_copies_148_151L N m a1 a3 a4)) := by
  intro N
  induction N with
  | zero => intro m k; exact by intros; rfl
  | succ N ih =>
    intro m k
    intros
    rw [jlp_s]
    simp only [E182_0, E182_1, E182_3, E182_5, E182_8, E182_11, E182_12, E182_13, E182_15, E182_16, E182_17, E182_18, E182_20, E182_21, E182_22, E182_23, E182_26, E182_29, ai_148, as_151, jsh_n, jsh_I, jsh_R, jsh_II, jsh_IR, jsh_RI, jsh_RR, jsh_III, jsh_IIR, jsh_IRI, jsh_IRR, jsh_RII, jsh_RIR, jsh_RRI, jsh_RRR, jsh_IIII, jsh_IIIR, jsh_IIRI, jsh_IIRR, jsh_IRII, jsh_IRIR, jsh_IRRI, jsh_IRRR, jsh_RIII, jsh_RIIR, jsh_RIRI, jsh_RIRR, jsh_RRII, jsh_RRIR, jsh_RRRI, jsh_RRRR, jthr_hp, jc_l0, jc_lW, jc_lX, jc_lXW, jc_lVW, jc_lVX, jpush_n, jpush_s, obt_0, obt_1, och_0, och_32, och_100, och_115, och_104, och_33, och_43, och_60, jint, jbit, jchr, ijI, ijR, ijD, ijF, ↓reduceIte, Int.reduceEq, Int.reduceLT, reduceCtorEq, lVW_bind, lVW_ite, lVW_none, lVW_oix, lVW_obt, lVW_och, lVW_sel, lVW_oel, lVW_some, f_Mod_copies_148_151L, ih]
set_option maxRecDepth 20000 in
set_option maxHeartbeats 4000000 in
theorem X182_148_151 (d : Nat) (a1 : Int) (a3 : Int) (m : jMem) (k : jM) : jme jT0 jMx (d + 1) 182 [jr (jn cf + 148), .inl a1, jr (jn cf + 151), .inl a3] (hp cf dv m, k) = lVW cf dv k (f_Mod_copies_148_151 m a1 a3) := by
  simp only [M182, E182_0, E182_1, E182_3, E182_5, E182_8, E182_11, E182_12, E182_13, E182_15, E182_16, E182_17, E182_18, E182_20, E182_21, E182_22, E182_23, E182_26, E182_29, ai_148, as_151, jsh_n, jsh_I, jsh_R, jsh_II, jsh_IR, jsh_RI, jsh_RR, jsh_III, jsh_IIR, jsh_IRI, jsh_IRR, jsh_RII, jsh_RIR, jsh_RRI, jsh_RRR, jsh_IIII, jsh_IIIR, jsh_IIRI, jsh_IIRR, jsh_IRII, jsh_IRIR, jsh_IRRI, jsh_IRRR, jsh_RIII, jsh_RIIR, jsh_RIRI, jsh_RIRR, jsh_RRII, jsh_RRIR, jsh_RRRI, jsh_RRRR, jthr_hp, jc_l0, jc_lW, jc_lX, jc_lXW, jc_lVW, jc_lVX, jpush_n, jpush_s, obt_0, obt_1, och_0, och_32, och_100, och_115, och_104, och_33, och_43, och_60, jint, jbit, jchr, ijI, ijR, ijD, ijF, ↓reduceIte, Int.reduceEq, Int.reduceLT, reduceCtorEq, lVW_bind, lVW_ite, lVW_none, lVW_oix, lVW_obt, lVW_och, lVW_sel, lVW_oel, lVW_some, f_Mod_copies_148_151, X182_148_151L]
end
def f_Mod_copies_151_149L : Nat → jMem → Int → Int → Int → Option jMem
  | 0, _, _, _, _ => none
  | N + 1, m, a1, a3, a4 => if a4 < 138 then oix (jw (a1 + a4)) 138 (oix (jw (a3 + a4)) 1104 (f_Mod_copies_151_149L N (mset m 149 (jw (a3 + a4)).toNat (m 151 (jw (a1 + a4)).toNat)) a1 a3 (jw (a4 + 1)))) else some (m)
def f_Mod_copies_151_149 (m : jMem) (a1 : Int) (a3 : Int) : Option jMem := f_Mod_copies_151_149L 99999 m a1 a3 0
section
variable {cf : jCf} {dv : UInt64}
set_option maxRecDepth 20000 in
set_option maxHeartbeats 4000000 in
theorem X182_151_149L (d : Nat) : ∀ (N : Nat) (m : jMem) (k : jM), (∀ (a1 a3 a4 : Int), jlp jT0 182 (jme jT0 jMx d) N 3 [some (jr (jn cf + 151)), some (.inl a1), some (jr (jn cf + 149)), some (.inl a3), some (.inl a4)] [] (hp cf dv m, k) = lVW cf dv k (f_Mod_copies_151_149L N m a1 a3 a4)) := by
  intro N
  induction N with
  | zero => intro m k; exact by intros; rfl
  | succ N ih =>
    intro m k
    intros
    rw [jlp_s]
    simp only [E182_0, E182_1, E182_3, E182_5, E182_8, E182_11, E182_12, E182_13, E182_15, E182_16, E182_17, E182_18, E182_20, E182_21, E182_22, E182_23, E182_26, E182_29, ai_151, as_149, jsh_n, jsh_I, jsh_R, jsh_II, jsh_IR, jsh_RI, jsh_RR, jsh_III, jsh_IIR, jsh_IRI, jsh_IRR, jsh_RII, jsh_RIR, jsh_RRI, jsh_RRR, jsh_IIII, jsh_IIIR, jsh_IIRI, jsh_IIRR, jsh_IRII, jsh_IRIR, jsh_IRRI, jsh_IRRR, jsh_RIII, jsh_RIIR, jsh_RIRI, jsh_RIRR, jsh_RRII, jsh_RRIR, jsh_RRRI, jsh_RRRR, jthr_hp, jc_l0, jc_lW, jc_lX, jc_lXW, jc_lVW, jc_lVX, jpush_n, jpush_s, obt_0, obt_1, och_0, och_32, och_100, och_115, och_104, och_33, och_43, och_60, jint, jbit, jchr, ijI, ijR, ijD, ijF, ↓reduceIte, Int.reduceEq, Int.reduceLT, reduceCtorEq, lVW_bind, lVW_ite, lVW_none, lVW_oix, lVW_obt, lVW_och, lVW_sel, lVW_oel, lVW_some, f_Mod_copies_151_149L, ih]
set_option maxRecDepth 20000 in
set_option maxHeartbeats 4000000 in
theorem X182_151_149 (d : Nat) (a1 : Int) (a3 : Int) (m : jMem) (k : jM) : jme jT0 jMx (d + 1) 182 [jr (jn cf + 151), .inl a1, jr (jn cf + 149), .inl a3] (hp cf dv m, k) = lVW cf dv k (f_Mod_copies_151_149 m a1 a3) := by
  simp only [M182, E182_0, E182_1, E182_3, E182_5, E182_8, E182_11, E182_12, E182_13, E182_15, E182_16, E182_17, E182_18, E182_20, E182_21, E182_22, E182_23, E182_26, E182_29, ai_151, as_149, jsh_n, jsh_I, jsh_R, jsh_II, jsh_IR, jsh_RI, jsh_RR, jsh_III, jsh_IIR, jsh_IRI, jsh_IRR, jsh_RII, jsh_RIR, jsh_RRI, jsh_RRR, jsh_IIII, jsh_IIIR, jsh_IIRI, jsh_IIRR, jsh_IRII, jsh_IRIR, jsh_IRRI, jsh_IRRR, jsh_RIII, jsh_RIIR, jsh_RIRI, jsh_RIRR, jsh_RRII, jsh_RRIR, jsh_RRRI, jsh_RRRR, jthr_hp, jc_l0, jc_lW, jc_lX, jc_lXW, jc_lVW, jc_lVX, jpush_n, jpush_s, obt_0, obt_1, och_0, och_32, och_100, och_115, och_104, och_33, och_43, och_60, jint, jbit, jchr, ijI, ijR, ijD, ijF, ↓reduceIte, Int.reduceEq, Int.reduceLT, reduceCtorEq, lVW_bind, lVW_ite, lVW_none, lVW_oix, lVW_obt, lVW_och, lVW_sel, lVW_oel, lVW_some, f_Mod_copies_151_149, X182_151_149L]
end
def f_Mod_keeps_151L : Nat → jMem → Int → Option jMem
  | 0, _, _ => none
  | N + 1, m, a2 => if a2 < 966 then oix (jw (a2 + 138)) 1104 (oix a2 1104 (f_Mod_keeps_151L N (mset m 149 a2.toNat (m 149 (jw (a2 + 138)).toNat)) (jw (a2 + 1)))) else (f_Mod_copies_151_149 (mset m 147 5 (jw ((m 147 5) - 1))) 0 (jw (138 * ((mset m 147 5 (jw ((m 147 5) - 1))) 147 5)))).bind fun m2 => some (mset m2 147 5 (jw ((m2 147 5) + 1)))
def f_Mod_keeps_151 (m : jMem) : Option jMem := if ((mset m 147 8 0) 147 6) = 0 then if ((mset m 147 8 0) 147 5) = 8 then f_Mod_keeps_151L 99999 (mset m 147 8 0) 0 else (f_Mod_copies_151_149 (mset m 147 8 0) 0 (jw (138 * ((mset m 147 8 0) 147 5)))).bind fun m1 => some (mset m1 147 5 (jw ((m1 147 5) + 1))) else some (mset m 147 8 0)
section
variable {cf : jCf} {dv : UInt64}
set_option maxRecDepth 20000 in
set_option maxHeartbeats 4000000 in
theorem X183_151L (d : Nat) : ∀ (N : Nat) (m : jMem) (k : jM), (∀ (a2 : Int), jlp jT0 183 (jme jT0 jMx (d + 1)) N 24 [some (jr (jn cf + 147)), some (jr (jn cf + 151)), some (.inl a2)] [] (hp cf dv m, k) = lVW cf dv k (f_Mod_keeps_151L N m a2)) := by
  intro N
  induction N with
  | zero => intro m k; exact by intros; rfl
  | succ N ih =>
    intro m k
    intros
    rw [jlp_s]
    simp only [E183_0, E183_1, E183_2, E183_5, E183_6, E183_9, E183_12, E183_13, E183_14, E183_17, E183_19, E183_22, E183_23, E183_24, E183_25, E183_28, E183_31, E183_32, E183_35, E183_36, E183_37, E183_40, E183_41, E183_44, E183_45, E183_46, E183_47, E183_50, E183_53, E183_54_0, E183_54_1, E183_55, E183_58, E183_59, E183_60, E183_63, E183_64, E183_65, E183_66, E183_69, E183_72, E183_73, E183_76, E183_77, E183_80, E183_81_0, E183_81_1, E183_82, E183_85, E183_86, E183_87, E183_90, ai_149, as_149, gf_147_1, gf_147_5, gf_147_6, pf_147_5, pf_147_8, X182_151_149, jsh_n, jsh_I, jsh_R, jsh_II, jsh_IR, jsh_RI, jsh_RR, jsh_III, jsh_IIR, jsh_IRI, jsh_IRR, jsh_RII, jsh_RIR, jsh_RRI, jsh_RRR, jsh_IIII, jsh_IIIR, jsh_IIRI, jsh_IIRR, jsh_IRII, jsh_IRIR, jsh_IRRI, jsh_IRRR, jsh_RIII, jsh_RIIR, jsh_RIRI, jsh_RIRR, jsh_RRII, jsh_RRIR, jsh_RRRI, jsh_RRRR, jthr_hp, jc_l0, jc_lW, jc_lX, jc_lXW, jc_lVW, jc_lVX, jpush_n, jpush_s, obt_0, obt_1, och_0, och_32, och_100, och_115, och_104, och_33, och_43, och_60, jint, jbit, jchr, ijI, ijR, ijD, ijF, ↓reduceIte, Int.reduceEq, Int.reduceLT, reduceCtorEq, lVW_bind, lVW_ite, lVW_none, lVW_oix, lVW_obt, lVW_och, lVW_sel, lVW_oel, lVW_some, f_Mod_keeps_151L, ih]
set_option maxRecDepth 20000 in
set_option maxHeartbeats 4000000 in
theorem X183_151 (d : Nat) (m : jMem) (k : jM) : jme jT0 jMx (d + 2) 183 [jr (jn cf + 147), jr (jn cf + 151)] (hp cf dv m, k) = lVW cf dv k (f_Mod_keeps_151 m) := by
  simp only [M183, E183_0, E183_1, E183_2, E183_5, E183_6, E183_9, E183_12, E183_13, E183_14, E183_17, E183_19, E183_22, E183_23, E183_24, E183_25, E183_28, E183_31, E183_32, E183_35, E183_36, E183_37, E183_40, E183_41, E183_44, E183_45, E183_46, E183_47, E183_50, E183_53, E183_54_0, E183_54_1, E183_55, E183_58, E183_59, E183_60, E183_63, E183_64, E183_65, E183_66, E183_69, E183_72, E183_73, E183_76, E183_77, E183_80, E183_81_0, E183_81_1, E183_82, E183_85, E183_86, E183_87, E183_90, ai_149, as_149, gf_147_1, gf_147_5, gf_147_6, pf_147_5, pf_147_8, X182_151_149, jsh_n, jsh_I, jsh_R, jsh_II, jsh_IR, jsh_RI, jsh_RR, jsh_III, jsh_IIR, jsh_IRI, jsh_IRR, jsh_RII, jsh_RIR, jsh_RRI, jsh_RRR, jsh_IIII, jsh_IIIR, jsh_IIRI, jsh_IIRR, jsh_IRII, jsh_IRIR, jsh_IRRI, jsh_IRRR, jsh_RIII, jsh_RIIR, jsh_RIRI, jsh_RIRR, jsh_RRII, jsh_RRIR, jsh_RRRI, jsh_RRRR, jthr_hp, jc_l0, jc_lW, jc_lX, jc_lXW, jc_lVW, jc_lVX, jpush_n, jpush_s, obt_0, obt_1, och_0, och_32, och_100, och_115, och_104, och_33, och_43, och_60, jint, jbit, jchr, ijI, ijR, ijD, ijF, ↓reduceIte, Int.reduceEq, Int.reduceLT, reduceCtorEq, lVW_bind, lVW_ite, lVW_none, lVW_oix, lVW_obt, lVW_och, lVW_sel, lVW_oel, lVW_some, f_Mod_keeps_151, X183_151L]
end
def f_Mod_copies_151_148L : Nat → jMem → Int → Int → Int → Option jMem
  | 0, _, _, _, _ => none
  | N + 1, m, a1, a3, a4 => if a4 < 138 then oix (jw (a1 + a4)) 138 (oix (jw (a3 + a4)) 138 (f_Mod_copies_151_148L N (mset m 148 (jw (a3 + a4)).toNat (m 151 (jw (a1 + a4)).toNat)) a1 a3 (jw (a4 + 1)))) else some (m)
def f_Mod_copies_151_148 (m : jMem) (a1 : Int) (a3 : Int) : Option jMem := f_Mod_copies_151_148L 99999 m a1 a3 0
section
variable {cf : jCf} {dv : UInt64}
set_option maxRecDepth 20000 in
set_option maxHeartbeats 4000000 in
theorem X182_151_148L (d : Nat) : ∀ (N : Nat) (m : jMem) (k : jM), (∀ (a1 a3 a4 : Int), jlp jT0 182 (jme jT0 jMx d) N 3 [some (jr (jn cf + 151)), some (.inl a1), some (jr (jn cf + 148)), some (.inl a3), some (.inl a4)] [] (hp cf dv m, k) = lVW cf dv k (f_Mod_copies_151_148L N m a1 a3 a4)) := by
  intro N
  induction N with
  | zero => intro m k; exact by intros; rfl
  | succ N ih =>
    intro m k
    intros
    rw [jlp_s]
    simp only [E182_0, E182_1, E182_3, E182_5, E182_8, E182_11, E182_12, E182_13, E182_15, E182_16, E182_17, E182_18, E182_20, E182_21, E182_22, E182_23, E182_26, E182_29, ai_151, as_148, jsh_n, jsh_I, jsh_R, jsh_II, jsh_IR, jsh_RI, jsh_RR, jsh_III, jsh_IIR, jsh_IRI, jsh_IRR, jsh_RII, jsh_RIR, jsh_RRI, jsh_RRR, jsh_IIII, jsh_IIIR, jsh_IIRI, jsh_IIRR, jsh_IRII, jsh_IRIR, jsh_IRRI, jsh_IRRR, jsh_RIII, jsh_RIIR, jsh_RIRI, jsh_RIRR, jsh_RRII, jsh_RRIR, jsh_RRRI, jsh_RRRR, jthr_hp, jc_l0, jc_lW, jc_lX, jc_lXW, jc_lVW, jc_lVX, jpush_n, jpush_s, obt_0, obt_1, och_0, och_32, och_100, och_115, och_104, och_33, och_43, och_60, jint, jbit, jchr, ijI, ijR, ijD, ijF, ↓reduceIte, Int.reduceEq, Int.reduceLT, reduceCtorEq, lVW_bind, lVW_ite, lVW_none, lVW_oix, lVW_obt, lVW_och, lVW_sel, lVW_oel, lVW_some, f_Mod_copies_151_148L, ih]
set_option maxRecDepth 20000 in
set_option maxHeartbeats 4000000 in
theorem X182_151_148 (d : Nat) (a1 : Int) (a3 : Int) (m : jMem) (k : jM) : jme jT0 jMx (d + 1) 182 [jr (jn cf + 151), .inl a1, jr (jn cf + 148), .inl a3] (hp cf dv m, k) = lVW cf dv k (f_Mod_copies_151_148 m a1 a3) := by
  simp only [M182, E182_0, E182_1, E182_3, E182_5, E182_8, E182_11, E182_12, E182_13, E182_15, E182_16, E182_17, E182_18, E182_20, E182_21, E182_22, E182_23, E182_26, E182_29, ai_151, as_148, jsh_n, jsh_I, jsh_R, jsh_II, jsh_IR, jsh_RI, jsh_RR, jsh_III, jsh_IIR, jsh_IRI, jsh_IRR, jsh_RII, jsh_RIR, jsh_RRI, jsh_RRR, jsh_IIII, jsh_IIIR, jsh_IIRI, jsh_IIRR, jsh_IRII, jsh_IRIR, jsh_IRRI, jsh_IRRR, jsh_RIII, jsh_RIIR, jsh_RIRI, jsh_RIRR, jsh_RRII, jsh_RRIR, jsh_RRRI, jsh_RRRR, jthr_hp, jc_l0, jc_lW, jc_lX, jc_lXW, jc_lVW, jc_lVX, jpush_n, jpush_s, obt_0, obt_1, och_0, och_32, och_100, och_115, och_104, och_33, och_43, och_60, jint, jbit, jchr, ijI, ijR, ijD, ijF, ↓reduceIte, Int.reduceEq, Int.reduceLT, reduceCtorEq, lVW_bind, lVW_ite, lVW_none, lVW_oix, lVW_obt, lVW_och, lVW_sel, lVW_oel, lVW_some, f_Mod_copies_151_148, X182_151_148L]
end
def f_Mod_executeL : Nat → jMem → Int → Int → Option (Int × jMem)
  | 0, _, _, _ => none
  | N + 1, m, a2, a3 => if a2 < (m 147 19) then if (m 147 8) = 0 then (f_Mod_carries m (jw (4 * a2))).bind fun qx16 => if (qx16.2 147 8) = 0 then f_Mod_executeL N qx16.2 (jw (a2 + 1)) qx16.1 else f_Mod_executeL N qx16.2 a2 qx16.1 else if 0 < ((mset m 147 6 0) 147 8) then (f_Mod_copies_151_148 (mset m 147 6 0) 0 0).bind fun m14 => if (m14 147 7) = 0 then if 0 < a3 then some (0, mset m14 147 8 2) else some (a3, mset m14 147 8 2) else (f_Mod_rejectsInput m14 a2).bind fun qx15 => some (qx15.1, qx15.2) else (f_Mod_keeps_151 (mset m 147 6 0)).bind fun m13 => some (m13 147 19, m13) else if 0 < ((mset m 147 6 0) 147 8) then (f_Mod_copies_151_148 (mset m 147 6 0) 0 0).bind fun m11 => if (m11 147 7) = 0 then if 0 < a3 then some (0, mset m11 147 8 2) else some (a3, mset m11 147 8 2) else (f_Mod_rejectsInput m11 a2).bind fun qx12 => some (qx12.1, qx12.2) else (f_Mod_keeps_151 (mset m 147 6 0)).bind fun m10 => some (m10 147 19, m10)
def f_Mod_execute (m : jMem) : Option (Int × jMem) := (f_Mod_isText m).bind fun qx1 => if qx1.1 = 0 then if qx1.1 = 0 then (f_Mod_fails (mset (mset qx1.2 147 14 (qx1.2 147 17)) 147 13 0) 1).bind fun qx6 => if qx6.1 = 0 then (f_Mod_copies_148_151 qx6.2 0 0).bind fun m7 => f_Mod_executeL 99999 (mset m7 147 6 1) 0 0 else some (0, qx6.2) else (f_Mod_fails (mset (mset qx1.2 147 14 (qx1.2 147 17)) 147 13 0) 0).bind fun qx8 => if qx8.1 = 0 then (f_Mod_copies_148_151 qx8.2 0 0).bind fun m9 => f_Mod_executeL 99999 (mset m9 147 6 1) 0 0 else some (0, qx8.2) else if qx1.1 = 0 then (f_Mod_fails (mset qx1.2 147 13 0) 1).bind fun qx2 => if qx2.1 = 0 then (f_Mod_copies_148_151 qx2.2 0 0).bind fun m3 => f_Mod_executeL 99999 (mset m3 147 6 1) 0 0 else some (0, qx2.2) else (f_Mod_fails (mset qx1.2 147 13 0) 0).bind fun qx4 => if qx4.1 = 0 then (f_Mod_copies_148_151 qx4.2 0 0).bind fun m5 => f_Mod_executeL 99999 (mset m5 147 6 1) 0 0 else some (0, qx4.2)
section
variable {cf : jCf} {dv : UInt64}
set_option maxRecDepth 20000 in
set_option maxHeartbeats 4000000 in
theorem X279L (d : Nat) : ∀ (N : Nat) (m : jMem) (k : jM), (∀ (a2 a3 : Int) (z1 : Option jV), jlp jT0 279 (jme jT0 jMx (d + 8)) N 62 [some (jr (jn cf + 147)), z1, some (.inl a2), some (.inl a3)] [] (hp cf dv m, k) = lW cf dv k ijI (f_Mod_executeL N m a2 a3)) := by
  intro N
  induction N with
  | zero => intro m k; exact by intros; rfl
  | succ N ih =>
    intro m k
    intros
    rw [jlp_s]
    simp only [E279_0, E279_1, E279_4, E279_5, E279_6, E279_9, E279_10, E279_11, E279_14, E279_17, E279_18, E279_19, E279_22, E279_23, E279_24, E279_27, E279_28, E279_31, E279_32, E279_35, E279_38, E279_39, E279_40, E279_41, E279_44, E279_45, E279_46, E279_49, E279_50, E279_53, E279_54, E279_55, E279_58, E279_59, E279_60, E279_61, E279_62, E279_63, E279_64, E279_67, E279_70, E279_71, E279_74, E279_77, E279_78, E279_79, E279_80, E279_81, E279_84, E279_85, E279_86, E279_89, E279_92, E279_95, E279_98, E279_99, E279_100, E279_103, E279_104, E279_107, E279_110, E279_111, E279_114, E279_115, E279_116, E279_119, E279_120, E279_123, E279_124, E279_127, E279_130, E279_131, E279_132, E279_135, E279_136, E279_137, E279_138, E279_141, E279_142, E279_145, E279_146, E279_149, E279_150, E279_151, E279_152, E279_153, E279_156, E279_159, E279_160, E279_163, gf_147_0, gf_147_17, gf_147_19, gf_147_3, gf_147_7, gf_147_8, pf_147_13, pf_147_14, pf_147_6, pf_147_8, X178, X182_148_151, X182_151_148, X183_151, X276, X277, X278, go_147, jsh_n, jsh_I, jsh_R, jsh_II, jsh_IR, jsh_RI, jsh_RR, jsh_III, jsh_IIR, jsh_IRI, jsh_IRR, jsh_RII, jsh_RIR, jsh_RRI, jsh_RRR, jsh_IIII, jsh_IIIR, jsh_IIRI, jsh_IIRR, jsh_IRII, jsh_IRIR, jsh_IRRI, jsh_IRRR, jsh_RIII, jsh_RIIR, jsh_RIRI, jsh_RIRR, jsh_RRII, jsh_RRIR, jsh_RRRI, jsh_RRRR, jthr_hp, jc_l0, jc_lW, jc_lX, jc_lXW, jc_lVW, jc_lVX, jpush_n, jpush_s, obt_0, obt_1, och_0, och_32, och_100, och_115, och_104, och_33, och_43, och_60, jint, jbit, jchr, ijI, ijR, ijD, ijF, ↓reduceIte, Int.reduceEq, Int.reduceLT, reduceCtorEq, lW_bind, lW_ite, lW_none, lW_oix, lW_obt, lW_och, lW_sel, lW_oel, lW_some, f_Mod_executeL, ih]
set_option maxRecDepth 20000 in
set_option maxHeartbeats 4000000 in
theorem X279 (d : Nat) (m : jMem) (k : jM) : jme jT0 jMx (d + 9) 279 [jr (jn cf + 147)] (hp cf dv m, k) = lW cf dv k ijI (f_Mod_execute m) := by
  simp only [M279, E279_0, E279_1, E279_4, E279_5, E279_6, E279_9, E279_10, E279_11, E279_14, E279_17, E279_18, E279_19, E279_22, E279_23, E279_24, E279_27, E279_28, E279_31, E279_32, E279_35, E279_38, E279_39, E279_40, E279_41, E279_44, E279_45, E279_46, E279_49, E279_50, E279_53, E279_54, E279_55, E279_58, E279_59, E279_60, E279_61, E279_62, E279_63, E279_64, E279_67, E279_70, E279_71, E279_74, E279_77, E279_78, E279_79, E279_80, E279_81, E279_84, E279_85, E279_86, E279_89, E279_92, E279_95, E279_98, E279_99, E279_100, E279_103, E279_104, E279_107, E279_110, E279_111, E279_114, E279_115, E279_116, E279_119, E279_120, E279_123, E279_124, E279_127, E279_130, E279_131, E279_132, E279_135, E279_136, E279_137, E279_138, E279_141, E279_142, E279_145, E279_146, E279_149, E279_150, E279_151, E279_152, E279_153, E279_156, E279_159, E279_160, E279_163, gf_147_0, gf_147_17, gf_147_19, gf_147_3, gf_147_7, gf_147_8, pf_147_13, pf_147_14, pf_147_6, pf_147_8, X178, X182_148_151, X182_151_148, X183_151, X276, X277, X278, go_147, jsh_n, jsh_I, jsh_R, jsh_II, jsh_IR, jsh_RI, jsh_RR, jsh_III, jsh_IIR, jsh_IRI, jsh_IRR, jsh_RII, jsh_RIR, jsh_RRI, jsh_RRR, jsh_IIII, jsh_IIIR, jsh_IIRI, jsh_IIRR, jsh_IRII, jsh_IRIR, jsh_IRRI, jsh_IRRR, jsh_RIII, jsh_RIIR, jsh_RIRI, jsh_RIRR, jsh_RRII, jsh_RRIR, jsh_RRRI, jsh_RRRR, jthr_hp, jc_l0, jc_lW, jc_lX, jc_lXW, jc_lVW, jc_lVX, jpush_n, jpush_s, obt_0, obt_1, och_0, och_32, och_100, och_115, och_104, och_33, och_43, och_60, jint, jbit, jchr, ijI, ijR, ijD, ijF, ↓reduceIte, Int.reduceEq, Int.reduceLT, reduceCtorEq, lW_bind, lW_ite, lW_none, lW_oix, lW_obt, lW_och, lW_sel, lW_oel, lW_some, f_Mod_execute, X279L]
end
def f_Mod_syntaxErrorOffset (m : jMem) : Option (Int × jMem) := if (m 147 14) < 0 then (f_Mod_fails m 1).bind fun qx2 => if qx2.1 = 0 then some (qx2.2 147 14, qx2.2) else some (0, qx2.2) else (f_Mod_fails m 0).bind fun qx1 => if qx1.1 = 0 then some (qx1.2 147 14, qx1.2) else some (0, qx1.2)
section
variable {cf : jCf} {dv : UInt64}
set_option maxRecDepth 20000 in
set_option maxHeartbeats 4000000 in
theorem X280 (d : Nat) (m : jMem) (k : jM) : jme jT0 jMx (d + 2) 280 [jr (jn cf + 147)] (hp cf dv m, k) = lW cf dv k ijI (f_Mod_syntaxErrorOffset m) := by
  simp only [M280, E280_0, E280_1, E280_2, E280_5, E280_8, E280_9, E280_12, E280_13, E280_16, E280_19, E280_20, E280_23, E280_24, E280_27, gf_147_14, X178, go_147, jsh_n, jsh_I, jsh_R, jsh_II, jsh_IR, jsh_RI, jsh_RR, jsh_III, jsh_IIR, jsh_IRI, jsh_IRR, jsh_RII, jsh_RIR, jsh_RRI, jsh_RRR, jsh_IIII, jsh_IIIR, jsh_IIRI, jsh_IIRR, jsh_IRII, jsh_IRIR, jsh_IRRI, jsh_IRRR, jsh_RIII, jsh_RIIR, jsh_RIRI, jsh_RIRR, jsh_RRII, jsh_RRIR, jsh_RRRI, jsh_RRRR, jthr_hp, jc_l0, jc_lW, jc_lX, jc_lXW, jc_lVW, jc_lVX, jpush_n, jpush_s, obt_0, obt_1, och_0, och_32, och_100, och_115, och_104, och_33, och_43, och_60, jint, jbit, jchr, ijI, ijR, ijD, ijF, ↓reduceIte, Int.reduceEq, Int.reduceLT, reduceCtorEq, lW_bind, lW_ite, lW_none, lW_oix, lW_obt, lW_och, lW_sel, lW_oel, lW_some, f_Mod_syntaxErrorOffset]
end
def f_Mod_rejectionReason (m : jMem) : Option (Int × jMem) := if (m 147 9) = 0 then (f_Mod_fails m 1).bind fun qx2 => if qx2.1 = 0 then some (qx2.2 147 9, qx2.2) else some (0, qx2.2) else (f_Mod_fails m 0).bind fun qx1 => if qx1.1 = 0 then some (qx1.2 147 9, qx1.2) else some (0, qx1.2)
section
variable {cf : jCf} {dv : UInt64}
set_option maxRecDepth 20000 in
set_option maxHeartbeats 4000000 in
theorem X281 (d : Nat) (m : jMem) (k : jM) : jme jT0 jMx (d + 2) 281 [jr (jn cf + 147)] (hp cf dv m, k) = lW cf dv k ijI (f_Mod_rejectionReason m) := by
  simp only [M281, E281_0, E281_1, E281_2, E281_5, E281_8, E281_9, E281_12, E281_13, E281_16, E281_19, E281_20, E281_23, E281_24, E281_27, gf_147_9, X178, go_147, jsh_n, jsh_I, jsh_R, jsh_II, jsh_IR, jsh_RI, jsh_RR, jsh_III, jsh_IIR, jsh_IRI, jsh_IRR, jsh_RII, jsh_RIR, jsh_RRI, jsh_RRR, jsh_IIII, jsh_IIIR, jsh_IIRI, jsh_IIRR, jsh_IRII, jsh_IRIR, jsh_IRRI, jsh_IRRR, jsh_RIII, jsh_RIIR, jsh_RIRI, jsh_RIRR, jsh_RRII, jsh_RRIR, jsh_RRRI, jsh_RRRR, jthr_hp, jc_l0, jc_lW, jc_lX, jc_lXW, jc_lVW, jc_lVX, jpush_n, jpush_s, obt_0, obt_1, och_0, och_32, och_100, och_115, och_104, och_33, och_43, och_60, jint, jbit, jchr, ijI, ijR, ijD, ijF, ↓reduceIte, Int.reduceEq, Int.reduceLT, reduceCtorEq, lW_bind, lW_ite, lW_none, lW_oix, lW_obt, lW_och, lW_sel, lW_oel, lW_some, f_Mod_rejectionReason]
end
def f_Mod_rejectionDetail (m : jMem) : Option (Int × jMem) := if (m 147 9) = 0 then (f_Mod_fails m 1).bind fun qx2 => if qx2.1 = 0 then some (qx2.2 147 10, qx2.2) else some (0, qx2.2) else (f_Mod_fails m 0).bind fun qx1 => if qx1.1 = 0 then some (qx1.2 147 10, qx1.2) else some (0, qx1.2)
section
variable {cf : jCf} {dv : UInt64}
set_option maxRecDepth 20000 in
set_option maxHeartbeats 4000000 in
theorem X282 (d : Nat) (m : jMem) (k : jM) : jme jT0 jMx (d + 2) 282 [jr (jn cf + 147)] (hp cf dv m, k) = lW cf dv k ijI (f_Mod_rejectionDetail m) := by
  simp only [M282, E282_0, E282_1, E282_2, E282_5, E282_8, E282_9, E282_12, E282_13, E282_16, E282_19, E282_20, E282_23, E282_24, E282_27, gf_147_10, gf_147_9, X178, go_147, jsh_n, jsh_I, jsh_R, jsh_II, jsh_IR, jsh_RI, jsh_RR, jsh_III, jsh_IIR, jsh_IRI, jsh_IRR, jsh_RII, jsh_RIR, jsh_RRI, jsh_RRR, jsh_IIII, jsh_IIIR, jsh_IIRI, jsh_IIRR, jsh_IRII, jsh_IRIR, jsh_IRRI, jsh_IRRR, jsh_RIII, jsh_RIIR, jsh_RIRI, jsh_RIRR, jsh_RRII, jsh_RRIR, jsh_RRRI, jsh_RRRR, jthr_hp, jc_l0, jc_lW, jc_lX, jc_lXW, jc_lVW, jc_lVX, jpush_n, jpush_s, obt_0, obt_1, och_0, och_32, och_100, och_115, och_104, och_33, och_43, och_60, jint, jbit, jchr, ijI, ijR, ijD, ijF, ↓reduceIte, Int.reduceEq, Int.reduceLT, reduceCtorEq, lW_bind, lW_ite, lW_none, lW_oix, lW_obt, lW_och, lW_sel, lW_oel, lW_some, f_Mod_rejectionDetail]
end
def f_Mod_causeReason (m : jMem) : Option (Int × jMem) := if (m 147 11) = 0 then (f_Mod_fails m 1).bind fun qx2 => if qx2.1 = 0 then some (qx2.2 147 11, qx2.2) else some (0, qx2.2) else (f_Mod_fails m 0).bind fun qx1 => if qx1.1 = 0 then some (qx1.2 147 11, qx1.2) else some (0, qx1.2)
section
variable {cf : jCf} {dv : UInt64}
set_option maxRecDepth 20000 in
set_option maxHeartbeats 4000000 in
theorem X283 (d : Nat) (m : jMem) (k : jM) : jme jT0 jMx (d + 2) 283 [jr (jn cf + 147)] (hp cf dv m, k) = lW cf dv k ijI (f_Mod_causeReason m) := by
  simp only [M283, E283_0, E283_1, E283_2, E283_5, E283_8, E283_9, E283_12, E283_13, E283_16, E283_19, E283_20, E283_23, E283_24, E283_27, gf_147_11, X178, go_147, jsh_n, jsh_I, jsh_R, jsh_II, jsh_IR, jsh_RI, jsh_RR, jsh_III, jsh_IIR, jsh_IRI, jsh_IRR, jsh_RII, jsh_RIR, jsh_RRI, jsh_RRR, jsh_IIII, jsh_IIIR, jsh_IIRI, jsh_IIRR, jsh_IRII, jsh_IRIR, jsh_IRRI, jsh_IRRR, jsh_RIII, jsh_RIIR, jsh_RIRI, jsh_RIRR, jsh_RRII, jsh_RRIR, jsh_RRRI, jsh_RRRR, jthr_hp, jc_l0, jc_lW, jc_lX, jc_lXW, jc_lVW, jc_lVX, jpush_n, jpush_s, obt_0, obt_1, och_0, och_32, och_100, och_115, och_104, och_33, och_43, och_60, jint, jbit, jchr, ijI, ijR, ijD, ijF, ↓reduceIte, Int.reduceEq, Int.reduceLT, reduceCtorEq, lW_bind, lW_ite, lW_none, lW_oix, lW_obt, lW_och, lW_sel, lW_oel, lW_some, f_Mod_causeReason]
end
def f_Mod_copies_149_148L : Nat → jMem → Int → Int → Int → Option jMem
  | 0, _, _, _, _ => none
  | N + 1, m, a1, a3, a4 => if a4 < 138 then oix (jw (a1 + a4)) 1104 (oix (jw (a3 + a4)) 138 (f_Mod_copies_149_148L N (mset m 148 (jw (a3 + a4)).toNat (m 149 (jw (a1 + a4)).toNat)) a1 a3 (jw (a4 + 1)))) else some (m)
def f_Mod_copies_149_148 (m : jMem) (a1 : Int) (a3 : Int) : Option jMem := f_Mod_copies_149_148L 99999 m a1 a3 0
section
variable {cf : jCf} {dv : UInt64}
set_option maxRecDepth 20000 in
set_option maxHeartbeats 4000000 in
theorem X182_149_148L (d : Nat) : ∀ (N : Nat) (m : jMem) (k : jM), (∀ (a1 a3 a4 : Int), jlp jT0 182 (jme jT0 jMx d) N 3 [some (jr (jn cf + 149)), some (.inl a1), some (jr (jn cf + 148)), some (.inl a3), some (.inl a4)] [] (hp cf dv m, k) = lVW cf dv k (f_Mod_copies_149_148L N m a1 a3 a4)) := by
  intro N
  induction N with
  | zero => intro m k; exact by intros; rfl
  | succ N ih =>
    intro m k
    intros
    rw [jlp_s]
    simp only [E182_0, E182_1, E182_3, E182_5, E182_8, E182_11, E182_12, E182_13, E182_15, E182_16, E182_17, E182_18, E182_20, E182_21, E182_22, E182_23, E182_26, E182_29, ai_149, as_148, jsh_n, jsh_I, jsh_R, jsh_II, jsh_IR, jsh_RI, jsh_RR, jsh_III, jsh_IIR, jsh_IRI, jsh_IRR, jsh_RII, jsh_RIR, jsh_RRI, jsh_RRR, jsh_IIII, jsh_IIIR, jsh_IIRI, jsh_IIRR, jsh_IRII, jsh_IRIR, jsh_IRRI, jsh_IRRR, jsh_RIII, jsh_RIIR, jsh_RIRI, jsh_RIRR, jsh_RRII, jsh_RRIR, jsh_RRRI, jsh_RRRR, jthr_hp, jc_l0, jc_lW, jc_lX, jc_lXW, jc_lVW, jc_lVX, jpush_n, jpush_s, obt_0, obt_1, och_0, och_32, och_100, och_115, och_104, och_33, och_43, och_60, jint, jbit, jchr, ijI, ijR, ijD, ijF, ↓reduceIte, Int.reduceEq, Int.reduceLT, reduceCtorEq, lVW_bind, lVW_ite, lVW_none, lVW_oix, lVW_obt, lVW_och, lVW_sel, lVW_oel, lVW_some, f_Mod_copies_149_148L, ih]
set_option maxRecDepth 20000 in
set_option maxHeartbeats 4000000 in
theorem X182_149_148 (d : Nat) (a1 : Int) (a3 : Int) (m : jMem) (k : jM) : jme jT0 jMx (d + 1) 182 [jr (jn cf + 149), .inl a1, jr (jn cf + 148), .inl a3] (hp cf dv m, k) = lVW cf dv k (f_Mod_copies_149_148 m a1 a3) := by
  simp only [M182, E182_0, E182_1, E182_3, E182_5, E182_8, E182_11, E182_12, E182_13, E182_15, E182_16, E182_17, E182_18, E182_20, E182_21, E182_22, E182_23, E182_26, E182_29, ai_149, as_148, jsh_n, jsh_I, jsh_R, jsh_II, jsh_IR, jsh_RI, jsh_RR, jsh_III, jsh_IIR, jsh_IRI, jsh_IRR, jsh_RII, jsh_RIR, jsh_RRI, jsh_RRR, jsh_IIII, jsh_IIIR, jsh_IIRI, jsh_IIRR, jsh_IRII, jsh_IRIR, jsh_IRRI, jsh_IRRR, jsh_RIII, jsh_RIIR, jsh_RIRI, jsh_RIRR, jsh_RRII, jsh_RRIR, jsh_RRRI, jsh_RRRR, jthr_hp, jc_l0, jc_lW, jc_lX, jc_lXW, jc_lVW, jc_lVX, jpush_n, jpush_s, obt_0, obt_1, och_0, och_32, och_100, och_115, och_104, och_33, och_43, och_60, jint, jbit, jchr, ijI, ijR, ijD, ijF, ↓reduceIte, Int.reduceEq, Int.reduceLT, reduceCtorEq, lVW_bind, lVW_ite, lVW_none, lVW_oix, lVW_obt, lVW_och, lVW_sel, lVW_oel, lVW_some, f_Mod_copies_149_148, X182_149_148L]
end
def f_Mod_undo (m : jMem) : Option (Int × jMem) := if (m 147 5) = 0 then (f_Mod_fails m 1).bind fun qx3 => if qx3.1 = 0 then (f_Mod_copies_149_148 (mset qx3.2 147 5 (jw ((qx3.2 147 5) - 1))) (jw (138 * ((mset qx3.2 147 5 (jw ((qx3.2 147 5) - 1))) 147 5))) 0).bind fun m4 => some (m4 147 5, m4) else some (0, qx3.2) else (f_Mod_fails m 0).bind fun qx1 => if qx1.1 = 0 then (f_Mod_copies_149_148 (mset qx1.2 147 5 (jw ((qx1.2 147 5) - 1))) (jw (138 * ((mset qx1.2 147 5 (jw ((qx1.2 147 5) - 1))) 147 5))) 0).bind fun m2 => some (m2 147 5, m2) else some (0, qx1.2)
section
variable {cf : jCf} {dv : UInt64}
set_option maxRecDepth 20000 in
set_option maxHeartbeats 4000000 in
theorem X284 (d : Nat) (m : jMem) (k : jM) : jme jT0 jMx (d + 2) 284 [jr (jn cf + 147)] (hp cf dv m, k) = lW cf dv k ijI (f_Mod_undo m) := by
  simp only [M284, E284_0, E284_1, E284_2, E284_5, E284_8, E284_9, E284_12, E284_13, E284_16, E284_19, E284_20, E284_21, E284_22_0, E284_22_1, E284_23, E284_26, E284_27, E284_28, E284_31, E284_32, E284_35, E284_38, E284_39, E284_42, E284_43, E284_44, E284_47, E284_48, E284_51, E284_52, E284_55, gf_147_0, gf_147_1, gf_147_5, pf_147_5, X178, X182_149_148, go_147, jsh_n, jsh_I, jsh_R, jsh_II, jsh_IR, jsh_RI, jsh_RR, jsh_III, jsh_IIR, jsh_IRI, jsh_IRR, jsh_RII, jsh_RIR, jsh_RRI, jsh_RRR, jsh_IIII, jsh_IIIR, jsh_IIRI, jsh_IIRR, jsh_IRII, jsh_IRIR, jsh_IRRI, jsh_IRRR, jsh_RIII, jsh_RIIR, jsh_RIRI, jsh_RIRR, jsh_RRII, jsh_RRIR, jsh_RRRI, jsh_RRRR, jthr_hp, jc_l0, jc_lW, jc_lX, jc_lXW, jc_lVW, jc_lVX, jpush_n, jpush_s, obt_0, obt_1, och_0, och_32, och_100, och_115, och_104, och_33, och_43, och_60, jint, jbit, jchr, ijI, ijR, ijD, ijF, ↓reduceIte, Int.reduceEq, Int.reduceLT, reduceCtorEq, lW_bind, lW_ite, lW_none, lW_oix, lW_obt, lW_och, lW_sel, lW_oel, lW_some, f_Mod_undo]
end
def f_Mod_undoCount (m : jMem) : Option (Int × jMem) := some ((mset m 147 8 0) 147 5, mset m 147 8 0)
section
variable {cf : jCf} {dv : UInt64}
set_option maxRecDepth 20000 in
set_option maxHeartbeats 4000000 in
theorem X285 (d : Nat) (m : jMem) (k : jM) : jme jT0 jMx (d + 1) 285 [jr (jn cf + 147)] (hp cf dv m, k) = lW cf dv k ijI (f_Mod_undoCount m) := by
  simp only [M285, E285_0, E285_1, E285_2, E285_5, E285_6, E285_9, gf_147_5, pf_147_8, jsh_n, jsh_I, jsh_R, jsh_II, jsh_IR, jsh_RI, jsh_RR, jsh_III, jsh_IIR, jsh_IRI, jsh_IRR, jsh_RII, jsh_RIR, jsh_RRI, jsh_RRR, jsh_IIII, jsh_IIIR, jsh_IIRI, jsh_IIRR, jsh_IRII, jsh_IRIR, jsh_IRRI, jsh_IRRR, jsh_RIII, jsh_RIIR, jsh_RIRI, jsh_RIRR, jsh_RRII, jsh_RRIR, jsh_RRRI, jsh_RRRR, jthr_hp, jc_l0, jc_lW, jc_lX, jc_lXW, jc_lVW, jc_lVX, jpush_n, jpush_s, obt_0, obt_1, och_0, och_32, och_100, och_115, och_104, och_33, och_43, och_60, jint, jbit, jchr, ijI, ijR, ijD, ijF, ↓reduceIte, Int.reduceEq, Int.reduceLT, reduceCtorEq, lW_bind, lW_ite, lW_none, lW_oix, lW_obt, lW_och, lW_sel, lW_oel, lW_some, f_Mod_undoCount]
end
def f_Mod_copies_148_150L : Nat → jMem → Int → Int → Int → Option jMem
  | 0, _, _, _, _ => none
  | N + 1, m, a1, a3, a4 => if a4 < 138 then oix (jw (a1 + a4)) 138 (oix (jw (a3 + a4)) 138 (f_Mod_copies_148_150L N (mset m 150 (jw (a3 + a4)).toNat (m 148 (jw (a1 + a4)).toNat)) a1 a3 (jw (a4 + 1)))) else some (m)
def f_Mod_copies_148_150 (m : jMem) (a1 : Int) (a3 : Int) : Option jMem := f_Mod_copies_148_150L 99999 m a1 a3 0
section
variable {cf : jCf} {dv : UInt64}
set_option maxRecDepth 20000 in
set_option maxHeartbeats 4000000 in
theorem X182_148_150L (d : Nat) : ∀ (N : Nat) (m : jMem) (k : jM), (∀ (a1 a3 a4 : Int), jlp jT0 182 (jme jT0 jMx d) N 3 [some (jr (jn cf + 148)), some (.inl a1), some (jr (jn cf + 150)), some (.inl a3), some (.inl a4)] [] (hp cf dv m, k) = lVW cf dv k (f_Mod_copies_148_150L N m a1 a3 a4)) := by
  intro N
  induction N with
  | zero => intro m k; exact by intros; rfl
  | succ N ih =>
    intro m k
    intros
    rw [jlp_s]
    simp only [E182_0, E182_1, E182_3, E182_5, E182_8, E182_11, E182_12, E182_13, E182_15, E182_16, E182_17, E182_18, E182_20, E182_21, E182_22, E182_23, E182_26, E182_29, ai_148, as_150, jsh_n, jsh_I, jsh_R, jsh_II, jsh_IR, jsh_RI, jsh_RR, jsh_III, jsh_IIR, jsh_IRI, jsh_IRR, jsh_RII, jsh_RIR, jsh_RRI, jsh_RRR, jsh_IIII, jsh_IIIR, jsh_IIRI, jsh_IIRR, jsh_IRII, jsh_IRIR, jsh_IRRI, jsh_IRRR, jsh_RIII, jsh_RIIR, jsh_RIRI, jsh_RIRR, jsh_RRII, jsh_RRIR, jsh_RRRI, jsh_RRRR, jthr_hp, jc_l0, jc_lW, jc_lX, jc_lXW, jc_lVW, jc_lVX, jpush_n, jpush_s, obt_0, obt_1, och_0, och_32, och_100, och_115, och_104, och_33, och_43, och_60, jint, jbit, jchr, ijI, ijR, ijD, ijF, ↓reduceIte, Int.reduceEq, Int.reduceLT, reduceCtorEq, lVW_bind, lVW_ite, lVW_none, lVW_oix, lVW_obt, lVW_och, lVW_sel, lVW_oel, lVW_some, f_Mod_copies_148_150L, ih]
set_option maxRecDepth 20000 in
set_option maxHeartbeats 4000000 in
theorem X182_148_150 (d : Nat) (a1 : Int) (a3 : Int) (m : jMem) (k : jM) : jme jT0 jMx (d + 1) 182 [jr (jn cf + 148), .inl a1, jr (jn cf + 150), .inl a3] (hp cf dv m, k) = lVW cf dv k (f_Mod_copies_148_150 m a1 a3) := by
  simp only [M182, E182_0, E182_1, E182_3, E182_5, E182_8, E182_11, E182_12, E182_13, E182_15, E182_16, E182_17, E182_18, E182_20, E182_21, E182_22, E182_23, E182_26, E182_29, ai_148, as_150, jsh_n, jsh_I, jsh_R, jsh_II, jsh_IR, jsh_RI, jsh_RR, jsh_III, jsh_IIR, jsh_IRI, jsh_IRR, jsh_RII, jsh_RIR, jsh_RRI, jsh_RRR, jsh_IIII, jsh_IIIR, jsh_IIRI, jsh_IIRR, jsh_IRII, jsh_IRIR, jsh_IRRI, jsh_IRRR, jsh_RIII, jsh_RIIR, jsh_RIRI, jsh_RIRR, jsh_RRII, jsh_RRIR, jsh_RRRI, jsh_RRRR, jthr_hp, jc_l0, jc_lW, jc_lX, jc_lXW, jc_lVW, jc_lVX, jpush_n, jpush_s, obt_0, obt_1, och_0, och_32, och_100, och_115, och_104, och_33, och_43, och_60, jint, jbit, jchr, ijI, ijR, ijD, ijF, ↓reduceIte, Int.reduceEq, Int.reduceLT, reduceCtorEq, lVW_bind, lVW_ite, lVW_none, lVW_oix, lVW_obt, lVW_och, lVW_sel, lVW_oel, lVW_some, f_Mod_copies_148_150, X182_148_150L]
end
def f_Mod_saveSnapshot (m : jMem) : Option (Int × jMem) := (f_Mod_copies_148_150 (mset (mset m 147 8 0) 147 4 1) 0 0).bind fun m1 => oix (0 : Int) 138 (some (m1 148 (0 : Int).toNat, m1))
section
variable {cf : jCf} {dv : UInt64}
set_option maxRecDepth 20000 in
set_option maxHeartbeats 4000000 in
theorem X286 (d : Nat) (m : jMem) (k : jM) : jme jT0 jMx (d + 2) 286 [jr (jn cf + 147)] (hp cf dv m, k) = lW cf dv k ijI (f_Mod_saveSnapshot m) := by
  simp only [M286, E286_0, E286_1, E286_2, E286_5, E286_6, E286_7, E286_10, E286_11, E286_14, E286_15, E286_16, E286_19, E286_20, E286_23, E286_24, E286_27, E286_28, E286_29, ai_148, gf_147_0, gf_147_2, pf_147_4, pf_147_8, X182_148_150, jsh_n, jsh_I, jsh_R, jsh_II, jsh_IR, jsh_RI, jsh_RR, jsh_III, jsh_IIR, jsh_IRI, jsh_IRR, jsh_RII, jsh_RIR, jsh_RRI, jsh_RRR, jsh_IIII, jsh_IIIR, jsh_IIRI, jsh_IIRR, jsh_IRII, jsh_IRIR, jsh_IRRI, jsh_IRRR, jsh_RIII, jsh_RIIR, jsh_RIRI, jsh_RIRR, jsh_RRII, jsh_RRIR, jsh_RRRI, jsh_RRRR, jthr_hp, jc_l0, jc_lW, jc_lX, jc_lXW, jc_lVW, jc_lVX, jpush_n, jpush_s, obt_0, obt_1, och_0, och_32, och_100, och_115, och_104, och_33, och_43, och_60, jint, jbit, jchr, ijI, ijR, ijD, ijF, ↓reduceIte, Int.reduceEq, Int.reduceLT, reduceCtorEq, lW_bind, lW_ite, lW_none, lW_oix, lW_obt, lW_och, lW_sel, lW_oel, lW_some, f_Mod_saveSnapshot]
end

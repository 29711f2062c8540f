/-! ===== copies of states ===== -/

section
variable (cl : Nat → List jV → jH → jR) (bk : Nat → jL → List jV → jH → jR) (n : Nat)
theorem E23_0 (st : List jV) (l0 l1 l2 : Option jV) (w : jH) : jblk jT0 23 cl bk (n + 1) 0 [l0, l1, l2] st w = jblk jT0 23 cl bk n 1 [l0, l1, l2] (.inl 0 :: st) w := Eq.trans rfl rfl
theorem E23_1 (x : Int) (st : List jV) (l0 l1 l2 : Option jV) (w : jH) : jblk jT0 23 cl bk (n + 1) 1 [l0, l1, l2] (.inl x :: st) w = bk 2 [l0, l1, some (.inl x)] st w := Eq.trans rfl rfl
theorem E23_2 (x : Int) (st : List jV) (l0 l1 : Option jV) (w : jH) : jblk jT0 23 cl bk (n + 1) 2 [l0, l1, some (.inl x)] st w = jblk jT0 23 cl bk n 3 [l0, l1, some (.inl x)] (.inl x :: st) w := Eq.trans rfl rfl
theorem E23_3 (st : List jV) (l0 l1 l2 : Option jV) (w : jH) : jblk jT0 23 cl bk (n + 1) 3 [l0, l1, l2] st w = jblk jT0 23 cl bk n 5 [l0, l1, l2] (.inl 16 :: st) w := Eq.trans rfl rfl
theorem E23_5 (x : Int) (y : Int) (st : List jV) (l0 l1 l2 : Option jV) (w : jH) : jblk jT0 23 cl bk (n + 1) 5 [l0, l1, l2] (.inl y :: .inl x :: st) w = if x < y then jblk jT0 23 cl bk n 8 [l0, l1, l2] st w else jblk jT0 23 cl bk n 62 [l0, l1, l2] st w := Eq.trans rfl rfl
theorem E23_8 (a : Nat) (st : List jV) (l1 l2 : Option jV) (w : jH) : jblk jT0 23 cl bk (n + 1) 8 [some (jr a), l1, l2] st w = jblk jT0 23 cl bk n 9 [some (jr a), l1, l2] (jr a :: st) w := Eq.trans rfl rfl
theorem E23_9 (a : Nat) (st : List jV) (l0 l1 l2 : Option jV) (w : jH) : jblk jT0 23 cl bk (n + 1) 9 [l0, l1, l2] (jr a :: st) w = jgf w a 0 0 fun v => jblk jT0 23 cl bk n 12 [l0, l1, l2] (v :: st) w := Eq.trans rfl rfl
theorem E23_12 (x : Int) (st : List jV) (l0 l1 : Option jV) (w : jH) : jblk jT0 23 cl bk (n + 1) 12 [l0, l1, some (.inl x)] st w = jblk jT0 23 cl bk n 13 [l0, l1, some (.inl x)] (.inl x :: st) w := Eq.trans rfl rfl
theorem E23_13 (a : Nat) (st : List jV) (l0 l2 : Option jV) (w : jH) : jblk jT0 23 cl bk (n + 1) 13 [l0, some (jr a), l2] st w = jblk jT0 23 cl bk n 14 [l0, some (jr a), l2] (jr a :: st) w := Eq.trans rfl rfl
theorem E23_14 (a : Nat) (st : List jV) (l0 l1 l2 : Option jV) (w : jH) : jblk jT0 23 cl bk (n + 1) 14 [l0, l1, l2] (jr a :: st) w = jgf w a 0 0 fun v => jblk jT0 23 cl bk n 17 [l0, l1, l2] (v :: st) w := Eq.trans rfl rfl
theorem E23_17 (x : Int) (st : List jV) (l0 l1 : Option jV) (w : jH) : jblk jT0 23 cl bk (n + 1) 17 [l0, l1, some (.inl x)] st w = jblk jT0 23 cl bk n 18 [l0, l1, some (.inl x)] (.inl x :: st) w := Eq.trans rfl rfl
theorem E23_18 (x : Int) (a : Nat) (st : List jV) (l0 l1 l2 : Option jV) (w : jH) : jblk jT0 23 cl bk (n + 1) 18 [l0, l1, l2] (.inl x :: jr a :: st) w = jlda w a x (fun z => jblk jT0 23 cl bk n 19 [l0, l1, l2] (.inl z :: st) w) := Eq.trans rfl rfl
theorem E23_19 (x : Int) (y : Int) (a : Nat) (st : List jV) (l0 l1 l2 : Option jV) (w : jH) : jblk jT0 23 cl bk (n + 1) 19 [l0, l1, l2] (.inl y :: .inl x :: jr a :: st) w = jai w a .int x y fun w' => jblk jT0 23 cl bk n 20 [l0, l1, l2] st w' := Eq.trans rfl rfl
theorem E23_20 (a : Nat) (st : List jV) (l1 l2 : Option jV) (w : jH) : jblk jT0 23 cl bk (n + 1) 20 [some (jr a), l1, l2] st w = jblk jT0 23 cl bk n 21 [some (jr a), l1, l2] (jr a :: st) w := Eq.trans rfl rfl
theorem E23_21 (a : Nat) (st : List jV) (l0 l1 l2 : Option jV) (w : jH) : jblk jT0 23 cl bk (n + 1) 21 [l0, l1, l2] (jr a :: st) w = jgf w a 0 1 fun v => jblk jT0 23 cl bk n 24 [l0, l1, l2] (v :: st) w := Eq.trans rfl rfl
theorem E23_24 (x : Int) (st : List jV) (l0 l1 : Option jV) (w : jH) : jblk jT0 23 cl bk (n + 1) 24 [l0, l1, some (.inl x)] st w = jblk jT0 23 cl bk n 25 [l0, l1, some (.inl x)] (.inl x :: st) w := Eq.trans rfl rfl
theorem E23_25 (a : Nat) (st : List jV) (l0 l2 : Option jV) (w : jH) : jblk jT0 23 cl bk (n + 1) 25 [l0, some (jr a), l2] st w = jblk jT0 23 cl bk n 26 [l0, some (jr a), l2] (jr a :: st) w := Eq.trans rfl rfl
theorem E23_26 (a : Nat) (st : List jV) (l0 l1 l2 : Option jV) (w : jH) : jblk jT0 23 cl bk (n + 1) 26 [l0, l1, l2] (jr a :: st) w = jgf w a 0 1 fun v => jblk jT0 23 cl bk n 29 [l0, l1, l2] (v :: st) w := Eq.trans rfl rfl
theorem E23_29 (x : Int) (st : List jV) (l0 l1 : Option jV) (w : jH) : jblk jT0 23 cl bk (n + 1) 29 [l0, l1, some (.inl x)] st w = jblk jT0 23 cl bk n 30 [l0, l1, some (.inl x)] (.inl x :: st) w := Eq.trans rfl rfl
theorem E23_30 (x : Int) (a : Nat) (st : List jV) (l0 l1 l2 : Option jV) (w : jH) : jblk jT0 23 cl bk (n + 1) 30 [l0, l1, l2] (.inl x :: jr a :: st) w = jlda w a x (fun z => jblk jT0 23 cl bk n 31 [l0, l1, l2] (.inl z :: st) w) := Eq.trans rfl rfl
theorem E23_31 (x : Int) (y : Int) (a : Nat) (st : List jV) (l0 l1 l2 : Option jV) (w : jH) : jblk jT0 23 cl bk (n + 1) 31 [l0, l1, l2] (.inl y :: .inl x :: jr a :: st) w = jai w a .int x y fun w' => jblk jT0 23 cl bk n 32 [l0, l1, l2] st w' := Eq.trans rfl rfl
theorem E23_32 (a : Nat) (st : List jV) (l1 l2 : Option jV) (w : jH) : jblk jT0 23 cl bk (n + 1) 32 [some (jr a), l1, l2] st w = jblk jT0 23 cl bk n 33 [some (jr a), l1, l2] (jr a :: st) w := Eq.trans rfl rfl
theorem E23_33 (a : Nat) (st : List jV) (l0 l1 l2 : Option jV) (w : jH) : jblk jT0 23 cl bk (n + 1) 33 [l0, l1, l2] (jr a :: st) w = jgf w a 0 2 fun v => jblk jT0 23 cl bk n 36 [l0, l1, l2] (v :: st) w := Eq.trans rfl rfl
theorem E23_36 (x : Int) (st : List jV) (l0 l1 : Option jV) (w : jH) : jblk jT0 23 cl bk (n + 1) 36 [l0, l1, some (.inl x)] st w = jblk jT0 23 cl bk n 37 [l0, l1, some (.inl x)] (.inl x :: st) w := Eq.trans rfl rfl
theorem E23_37 (a : Nat) (st : List jV) (l0 l2 : Option jV) (w : jH) : jblk jT0 23 cl bk (n + 1) 37 [l0, some (jr a), l2] st w = jblk jT0 23 cl bk n 38 [l0, some (jr a), l2] (jr a :: st) w := Eq.trans rfl rfl
theorem E23_38 (a : Nat) (st : List jV) (l0 l1 l2 : Option jV) (w : jH) : jblk jT0 23 cl bk (n + 1) 38 [l0, l1, l2] (jr a :: st) w = jgf w a 0 2 fun v => jblk jT0 23 cl bk n 41 [l0, l1, l2] (v :: st) w := Eq.trans rfl rfl
theorem E23_41 (x : Int) (st : List jV) (l0 l1 : Option jV) (w : jH) : jblk jT0 23 cl bk (n + 1) 41 [l0, l1, some (.inl x)] st w = jblk jT0 23 cl bk n 42 [l0, l1, some (.inl x)] (.inl x :: st) w := Eq.trans rfl rfl
theorem E23_42 (x : Int) (a : Nat) (st : List jV) (l0 l1 l2 : Option jV) (w : jH) : jblk jT0 23 cl bk (n + 1) 42 [l0, l1, l2] (.inl x :: jr a :: st) w = jgi w a .boolean x fun z => jblk jT0 23 cl bk n 43 [l0, l1, l2] (.inl z :: st) w := Eq.trans rfl rfl
theorem E23_43 (x : Int) (y : Int) (a : Nat) (st : List jV) (l0 l1 l2 : Option jV) (w : jH) : jblk jT0 23 cl bk (n + 1) 43 [l0, l1, l2] (.inl y :: .inl x :: jr a :: st) w = jai w a .boolean x y fun w' => jblk jT0 23 cl bk n 44 [l0, l1, l2] st w' := Eq.trans rfl rfl
theorem E23_44 (a : Nat) (st : List jV) (l1 l2 : Option jV) (w : jH) : jblk jT0 23 cl bk (n + 1) 44 [some (jr a), l1, l2] st w = jblk jT0 23 cl bk n 45 [some (jr a), l1, l2] (jr a :: st) w := Eq.trans rfl rfl
theorem E23_45 (a : Nat) (st : List jV) (l0 l1 l2 : Option jV) (w : jH) : jblk jT0 23 cl bk (n + 1) 45 [l0, l1, l2] (jr a :: st) w = jgf w a 0 3 fun v => jblk jT0 23 cl bk n 48 [l0, l1, l2] (v :: st) w := Eq.trans rfl rfl
theorem E23_48 (x : Int) (st : List jV) (l0 l1 : Option jV) (w : jH) : jblk jT0 23 cl bk (n + 1) 48 [l0, l1, some (.inl x)] st w = jblk jT0 23 cl bk n 49 [l0, l1, some (.inl x)] (.inl x :: st) w := Eq.trans rfl rfl
theorem E23_49 (a : Nat) (st : List jV) (l0 l2 : Option jV) (w : jH) : jblk jT0 23 cl bk (n + 1) 49 [l0, some (jr a), l2] st w = jblk jT0 23 cl bk n 50 [l0, some (jr a), l2] (jr a :: st) w := Eq.trans rfl rfl
theorem E23_50 (a : Nat) (st : List jV) (l0 l1 l2 : Option jV) (w : jH) : jblk jT0 23 cl bk (n + 1) 50 [l0, l1, l2] (jr a :: st) w = jgf w a 0 3 fun v => jblk jT0 23 cl bk n 53 [l0, l1, l2] (v :: st) w := Eq.trans rfl rfl
theorem E23_53 (x : Int) (st : List jV) (l0 l1 : Option jV) (w : jH) : jblk jT0 23 cl bk (n + 1) 53 [l0, l1, some (.inl x)] st w = jblk jT0 23 cl bk n 54 [l0, l1, some (.inl x)] (.inl x :: st) w := Eq.trans rfl rfl
theorem E23_54 (x : Int) (a : Nat) (st : List jV) (l0 l1 l2 : Option jV) (w : jH) : jblk jT0 23 cl bk (n + 1) 54 [l0, l1, l2] (.inl x :: jr a :: st) w = jlda w a x (fun z => jblk jT0 23 cl bk n 55 [l0, l1, l2] (.inl z :: st) w) := Eq.trans rfl rfl
theorem E23_55 (x : Int) (y : Int) (a : Nat) (st : List jV) (l0 l1 l2 : Option jV) (w : jH) : jblk jT0 23 cl bk (n + 1) 55 [l0, l1, l2] (.inl y :: .inl x :: jr a :: st) w = jai w a .int x y fun w' => jblk jT0 23 cl bk n 56 [l0, l1, l2] st w' := Eq.trans rfl rfl
theorem E23_56 (x : Int) (st : List jV) (l0 l1 : Option jV) (w : jH) : jblk jT0 23 cl bk (n + 1) 56 [l0, l1, some (.inl x)] st w = jblk jT0 23 cl bk n 59 [l0, l1, some (.inl (jw (x + 1)))] st w := Eq.trans rfl rfl
theorem E23_59 (st : List jV) (l0 l1 l2 : Option jV) (w : jH) : jblk jT0 23 cl bk (n + 1) 59 [l0, l1, l2] st w = bk 2 [l0, l1, l2] st w := Eq.trans rfl rfl
theorem E23_62 (a : Nat) (st : List jV) (l1 l2 : Option jV) (w : jH) : jblk jT0 23 cl bk (n + 1) 62 [some (jr a), l1, l2] st w = jblk jT0 23 cl bk n 63 [some (jr a), l1, l2] (jr a :: st) w := Eq.trans rfl rfl
theorem E23_63 (a : Nat) (st : List jV) (l0 l2 : Option jV) (w : jH) : jblk jT0 23 cl bk (n + 1) 63 [l0, some (jr a), l2] st w = jblk jT0 23 cl bk n 64 [l0, some (jr a), l2] (jr a :: st) w := Eq.trans rfl rfl
theorem E23_64 (a : Nat) (st : List jV) (l0 l1 l2 : Option jV) (w : jH) : jblk jT0 23 cl bk (n + 1) 64 [l0, l1, l2] (jr a :: st) w = jgf w a 0 4 fun v => jblk jT0 23 cl bk n 67 [l0, l1, l2] (v :: st) w := Eq.trans rfl rfl
theorem E23_67 (a : Nat) (v : jV) (st : List jV) (l0 l1 l2 : Option jV) (w : jH) : jblk jT0 23 cl bk (n + 1) 67 [l0, l1, l2] (v :: jr a :: st) w = jpf w a 0 4 .int v fun w' => jblk jT0 23 cl bk n 70 [l0, l1, l2] st w' := Eq.trans rfl rfl
theorem E23_70 (l0 l1 l2 : Option jV) (w : jH) : jblk jT0 23 cl bk (n + 1) 70 [l0, l1, l2] [] w = some (.inl none, w) := Eq.trans rfl rfl
theorem E48_0 (st : List jV) (l0 l1 l2 : Option jV) (w : jH) : jblk jT0 48 cl bk (n + 1) 0 [l0, l1, l2] st w = jblk jT0 48 cl bk n 1 [l0, l1, l2] (.inl 0 :: st) w := Eq.trans rfl rfl
theorem E48_1 (x : Int) (st : List jV) (l0 l1 l2 : Option jV) (w : jH) : jblk jT0 48 cl bk (n + 1) 1 [l0, l1, l2] (.inl x :: st) w = bk 2 [l0, l1, some (.inl x)] st w := Eq.trans rfl rfl
theorem E48_2 (x : Int) (st : List jV) (l0 l1 : Option jV) (w : jH) : jblk jT0 48 cl bk (n + 1) 2 [l0, l1, some (.inl x)] st w = jblk jT0 48 cl bk n 3 [l0, l1, some (.inl x)] (.inl x :: st) w := Eq.trans rfl rfl
theorem E48_3 (st : List jV) (l0 l1 l2 : Option jV) (w : jH) : jblk jT0 48 cl bk (n + 1) 3 [l0, l1, l2] st w = jblk jT0 48 cl bk n 5 [l0, l1, l2] (.inl 20 :: st) w := Eq.trans rfl rfl
theorem E48_5 (x : Int) (y : Int) (st : List jV) (l0 l1 l2 : Option jV) (w : jH) : jblk jT0 48 cl bk (n + 1) 5 [l0, l1, l2] (.inl y :: .inl x :: st) w = if x < y then jblk jT0 48 cl bk n 8 [l0, l1, l2] st w else jblk jT0 48 cl bk n 74 [l0, l1, l2] st w := Eq.trans rfl rfl
theorem E48_8 (a : Nat) (st : List jV) (l1 l2 : Option jV) (w : jH) : jblk jT0 48 cl bk (n + 1) 8 [some (jr a), l1, l2] st w = jblk jT0 48 cl bk n 9 [some (jr a), l1, l2] (jr a :: st) w := Eq.trans rfl rfl
theorem E48_9 (a : Nat) (st : List jV) (l0 l1 l2 : Option jV) (w : jH) : jblk jT0 48 cl bk (n + 1) 9 [l0, l1, l2] (jr a :: st) w = jgf w a 1 0 fun v => jblk jT0 48 cl bk n 12 [l0, l1, l2] (v :: st) w := Eq.trans rfl rfl
theorem E48_12 (x : Int) (st : List jV) (l0 l1 : Option jV) (w : jH) : jblk jT0 48 cl bk (n + 1) 12 [l0, l1, some (.inl x)] st w = jblk jT0 48 cl bk n 13 [l0, l1, some (.inl x)] (.inl x :: st) w := Eq.trans rfl rfl
theorem E48_13 (a : Nat) (st : List jV) (l0 l2 : Option jV) (w : jH) : jblk jT0 48 cl bk (n + 1) 13 [l0, some (jr a), l2] st w = jblk jT0 48 cl bk n 14 [l0, some (jr a), l2] (jr a :: st) w := Eq.trans rfl rfl
theorem E48_14 (a : Nat) (st : List jV) (l0 l1 l2 : Option jV) (w : jH) : jblk jT0 48 cl bk (n + 1) 14 [l0, l1, l2] (jr a :: st) w = jgf w a 1 0 fun v => jblk jT0 48 cl bk n 17 [l0, l1, l2] (v :: st) w := Eq.trans rfl rfl
theorem E48_17 (x : Int) (st : List jV) (l0 l1 : Option jV) (w : jH) : jblk jT0 48 cl bk (n + 1) 17 [l0, l1, some (.inl x)] st w = jblk jT0 48 cl bk n 18 [l0, l1, some (.inl x)] (.inl x :: st) w := Eq.trans rfl rfl
theorem E48_18 (x : Int) (a : Nat) (st : List jV) (l0 l1 l2 : Option jV) (w : jH) : jblk jT0 48 cl bk (n + 1) 18 [l0, l1, l2] (.inl x :: jr a :: st) w = jgi w a .char x fun z => jblk jT0 48 cl bk n 19 [l0, l1, l2] (.inl z :: st) w := Eq.trans rfl rfl
theorem E48_19 (x : Int) (y : Int) (a : Nat) (st : List jV) (l0 l1 l2 : Option jV) (w : jH) : jblk jT0 48 cl bk (n + 1) 19 [l0, l1, l2] (.inl y :: .inl x :: jr a :: st) w = jai w a .char x y fun w' => jblk jT0 48 cl bk n 20 [l0, l1, l2] st w' := Eq.trans rfl rfl
theorem E48_20 (a : Nat) (st : List jV) (l1 l2 : Option jV) (w : jH) : jblk jT0 48 cl bk (n + 1) 20 [some (jr a), l1, l2] st w = jblk jT0 48 cl bk n 21 [some (jr a), l1, l2] (jr a :: st) w := Eq.trans rfl rfl
theorem E48_21 (a : Nat) (st : List jV) (l0 l1 l2 : Option jV) (w : jH) : jblk jT0 48 cl bk (n + 1) 21 [l0, l1, l2] (jr a :: st) w = jgf w a 1 1 fun v => jblk jT0 48 cl bk n 24 [l0, l1, l2] (v :: st) w := Eq.trans rfl rfl
theorem E48_24 (x : Int) (st : List jV) (l0 l1 : Option jV) (w : jH) : jblk jT0 48 cl bk (n + 1) 24 [l0, l1, some (.inl x)] st w = jblk jT0 48 cl bk n 25 [l0, l1, some (.inl x)] (.inl x :: st) w := Eq.trans rfl rfl
theorem E48_25 (a : Nat) (st : List jV) (l0 l2 : Option jV) (w : jH) : jblk jT0 48 cl bk (n + 1) 25 [l0, some (jr a), l2] st w = jblk jT0 48 cl bk n 26 [l0, some (jr a), l2] (jr a :: st) w := Eq.trans rfl rfl
theorem E48_26 (a : Nat) (st : List jV) (l0 l1 l2 : Option jV) (w : jH) : jblk jT0 48 cl bk (n + 1) 26 [l0, l1, l2] (jr a :: st) w = jgf w a 1 1 fun v => jblk jT0 48 cl bk n 29 [l0, l1, l2] (v :: st) w := Eq.trans rfl rfl
theorem E48_29 (x : Int) (st : List jV) (l0 l1 : Option jV) (w : jH) : jblk jT0 48 cl bk (n + 1) 29 [l0, l1, some (.inl x)] st w = jblk jT0 48 cl bk n 30 [l0, l1, some (.inl x)] (.inl x :: st) w := Eq.trans rfl rfl
theorem E48_30 (x : Int) (a : Nat) (st : List jV) (l0 l1 l2 : Option jV) (w : jH) : jblk jT0 48 cl bk (n + 1) 30 [l0, l1, l2] (.inl x :: jr a :: st) w = jlda w a x (fun z => jblk jT0 48 cl bk n 31 [l0, l1, l2] (.inl z :: st) w) := Eq.trans rfl rfl
theorem E48_31 (x : Int) (y : Int) (a : Nat) (st : List jV) (l0 l1 l2 : Option jV) (w : jH) : jblk jT0 48 cl bk (n + 1) 31 [l0, l1, l2] (.inl y :: .inl x :: jr a :: st) w = jai w a .int x y fun w' => jblk jT0 48 cl bk n 32 [l0, l1, l2] st w' := Eq.trans rfl rfl
theorem E48_32 (a : Nat) (st : List jV) (l1 l2 : Option jV) (w : jH) : jblk jT0 48 cl bk (n + 1) 32 [some (jr a), l1, l2] st w = jblk jT0 48 cl bk n 33 [some (jr a), l1, l2] (jr a :: st) w := Eq.trans rfl rfl
theorem E48_33 (a : Nat) (st : List jV) (l0 l1 l2 : Option jV) (w : jH) : jblk jT0 48 cl bk (n + 1) 33 [l0, l1, l2] (jr a :: st) w = jgf w a 1 2 fun v => jblk jT0 48 cl bk n 36 [l0, l1, l2] (v :: st) w := Eq.trans rfl rfl
theorem E48_36 (x : Int) (st : List jV) (l0 l1 : Option jV) (w : jH) : jblk jT0 48 cl bk (n + 1) 36 [l0, l1, some (.inl x)] st w = jblk jT0 48 cl bk n 37 [l0, l1, some (.inl x)] (.inl x :: st) w := Eq.trans rfl rfl
theorem E48_37 (a : Nat) (st : List jV) (l0 l2 : Option jV) (w : jH) : jblk jT0 48 cl bk (n + 1) 37 [l0, some (jr a), l2] st w = jblk jT0 48 cl bk n 38 [l0, some (jr a), l2] (jr a :: st) w := Eq.trans rfl rfl
theorem E48_38 (a : Nat) (st : List jV) (l0 l1 l2 : Option jV) (w : jH) : jblk jT0 48 cl bk (n + 1) 38 [l0, l1, l2] (jr a :: st) w = jgf w a 1 2 fun v => jblk jT0 48 cl bk n 41 [l0, l1, l2] (v :: st) w := Eq.trans rfl rfl
theorem E48_41 (x : Int) (st : List jV) (l0 l1 : Option jV) (w : jH) : jblk jT0 48 cl bk (n + 1) 41 [l0, l1, some (.inl x)] st w = jblk jT0 48 cl bk n 42 [l0, l1, some (.inl x)] (.inl x :: st) w := Eq.trans rfl rfl
theorem E48_42 (x : Int) (a : Nat) (st : List jV) (l0 l1 l2 : Option jV) (w : jH) : jblk jT0 48 cl bk (n + 1) 42 [l0, l1, l2] (.inl x :: jr a :: st) w = jlda w a x (fun z => jblk jT0 48 cl bk n 43 [l0, l1, l2] (.inl z :: st) w) := Eq.trans rfl rfl
theorem E48_43 (x : Int) (y : Int) (a : Nat) (st : List jV) (l0 l1 l2 : Option jV) (w : jH) : jblk jT0 48 cl bk (n + 1) 43 [l0, l1, l2] (.inl y :: .inl x :: jr a :: st) w = jai w a .int x y fun w' => jblk jT0 48 cl bk n 44 [l0, l1, l2] st w' := Eq.trans rfl rfl
theorem E48_44 (a : Nat) (st : List jV) (l1 l2 : Option jV) (w : jH) : jblk jT0 48 cl bk (n + 1) 44 [some (jr a), l1, l2] st w = jblk jT0 48 cl bk n 45 [some (jr a), l1, l2] (jr a :: st) w := Eq.trans rfl rfl
theorem E48_45 (a : Nat) (st : List jV) (l0 l1 l2 : Option jV) (w : jH) : jblk jT0 48 cl bk (n + 1) 45 [l0, l1, l2] (jr a :: st) w = jgf w a 1 3 fun v => jblk jT0 48 cl bk n 48 [l0, l1, l2] (v :: st) w := Eq.trans rfl rfl
theorem E48_48 (x : Int) (st : List jV) (l0 l1 : Option jV) (w : jH) : jblk jT0 48 cl bk (n + 1) 48 [l0, l1, some (.inl x)] st w = jblk jT0 48 cl bk n 49 [l0, l1, some (.inl x)] (.inl x :: st) w := Eq.trans rfl rfl
theorem E48_49 (a : Nat) (st : List jV) (l0 l2 : Option jV) (w : jH) : jblk jT0 48 cl bk (n + 1) 49 [l0, some (jr a), l2] st w = jblk jT0 48 cl bk n 50 [l0, some (jr a), l2] (jr a :: st) w := Eq.trans rfl rfl
theorem E48_50 (a : Nat) (st : List jV) (l0 l1 l2 : Option jV) (w : jH) : jblk jT0 48 cl bk (n + 1) 50 [l0, l1, l2] (jr a :: st) w = jgf w a 1 3 fun v => jblk jT0 48 cl bk n 53 [l0, l1, l2] (v :: st) w := Eq.trans rfl rfl
theorem E48_53 (x : Int) (st : List jV) (l0 l1 : Option jV) (w : jH) : jblk jT0 48 cl bk (n + 1) 53 [l0, l1, some (.inl x)] st w = jblk jT0 48 cl bk n 54 [l0, l1, some (.inl x)] (.inl x :: st) w := Eq.trans rfl rfl
theorem E48_54 (x : Int) (a : Nat) (st : List jV) (l0 l1 l2 : Option jV) (w : jH) : jblk jT0 48 cl bk (n + 1) 54 [l0, l1, l2] (.inl x :: jr a :: st) w = jgi w a .boolean x fun z => jblk jT0 48 cl bk n 55 [l0, l1, l2] (.inl z :: st) w := Eq.trans rfl rfl
theorem E48_55 (x : Int) (y : Int) (a : Nat) (st : List jV) (l0 l1 l2 : Option jV) (w : jH) : jblk jT0 48 cl bk (n + 1) 55 [l0, l1, l2] (.inl y :: .inl x :: jr a :: st) w = jai w a .boolean x y fun w' => jblk jT0 48 cl bk n 56 [l0, l1, l2] st w' := Eq.trans rfl rfl
theorem E48_56 (a : Nat) (st : List jV) (l1 l2 : Option jV) (w : jH) : jblk jT0 48 cl bk (n + 1) 56 [some (jr a), l1, l2] st w = jblk jT0 48 cl bk n 57 [some (jr a), l1, l2] (jr a :: st) w := Eq.trans rfl rfl
theorem E48_57 (a : Nat) (st : List jV) (l0 l1 l2 : Option jV) (w : jH) : jblk jT0 48 cl bk (n + 1) 57 [l0, l1, l2] (jr a :: st) w = jgf w a 1 4 fun v => jblk jT0 48 cl bk n 60 [l0, l1, l2] (v :: st) w := Eq.trans rfl rfl
theorem E48_60 (x : Int) (st : List jV) (l0 l1 : Option jV) (w : jH) : jblk jT0 48 cl bk (n + 1) 60 [l0, l1, some (.inl x)] st w = jblk jT0 48 cl bk n 61 [l0, l1, some (.inl x)] (.inl x :: st) w := Eq.trans rfl rfl
theorem E48_61 (a : Nat) (st : List jV) (l0 l2 : Option jV) (w : jH) : jblk jT0 48 cl bk (n + 1) 61 [l0, some (jr a), l2] st w = jblk jT0 48 cl bk n 62 [l0, some (jr a), l2] (jr a :: st) w := Eq.trans rfl rfl
theorem E48_62 (a : Nat) (st : List jV) (l0 l1 l2 : Option jV) (w : jH) : jblk jT0 48 cl bk (n + 1) 62 [l0, l1, l2] (jr a :: st) w = jgf w a 1 4 fun v => jblk jT0 48 cl bk n 65 [l0, l1, l2] (v :: st) w := Eq.trans rfl rfl
theorem E48_65 (x : Int) (st : List jV) (l0 l1 : Option jV) (w : jH) : jblk jT0 48 cl bk (n + 1) 65 [l0, l1, some (.inl x)] st w = jblk jT0 48 cl bk n 66 [l0, l1, some (.inl x)] (.inl x :: st) w := Eq.trans rfl rfl
theorem E48_66 (x : Int) (a : Nat) (st : List jV) (l0 l1 l2 : Option jV) (w : jH) : jblk jT0 48 cl bk (n + 1) 66 [l0, l1, l2] (.inl x :: jr a :: st) w = jgi w a .boolean x fun z => jblk jT0 48 cl bk n 67 [l0, l1, l2] (.inl z :: st) w := Eq.trans rfl rfl
theorem E48_67 (x : Int) (y : Int) (a : Nat) (st : List jV) (l0 l1 l2 : Option jV) (w : jH) : jblk jT0 48 cl bk (n + 1) 67 [l0, l1, l2] (.inl y :: .inl x :: jr a :: st) w = jai w a .boolean x y fun w' => jblk jT0 48 cl bk n 68 [l0, l1, l2] st w' := Eq.trans rfl rfl
theorem E48_68 (x : Int) (st : List jV) (l0 l1 : Option jV) (w : jH) : jblk jT0 48 cl bk (n + 1) 68 [l0, l1, some (.inl x)] st w = jblk jT0 48 cl bk n 71 [l0, l1, some (.inl (jw (x + 1)))] st w := Eq.trans rfl rfl
theorem E48_71 (st : List jV) (l0 l1 l2 : Option jV) (w : jH) : jblk jT0 48 cl bk (n + 1) 71 [l0, l1, l2] st w = bk 2 [l0, l1, l2] st w := Eq.trans rfl rfl
theorem E48_74 (a : Nat) (st : List jV) (l1 l2 : Option jV) (w : jH) : jblk jT0 48 cl bk (n + 1) 74 [some (jr a), l1, l2] st w = jblk jT0 48 cl bk n 75 [some (jr a), l1, l2] (jr a :: st) w := Eq.trans rfl rfl
theorem E48_75 (a : Nat) (st : List jV) (l0 l2 : Option jV) (w : jH) : jblk jT0 48 cl bk (n + 1) 75 [l0, some (jr a), l2] st w = jblk jT0 48 cl bk n 76 [l0, some (jr a), l2] (jr a :: st) w := Eq.trans rfl rfl
theorem E48_76 (a : Nat) (st : List jV) (l0 l1 l2 : Option jV) (w : jH) : jblk jT0 48 cl bk (n + 1) 76 [l0, l1, l2] (jr a :: st) w = jgf w a 1 5 fun v => jblk jT0 48 cl bk n 79 [l0, l1, l2] (v :: st) w := Eq.trans rfl rfl
theorem E48_79 (a : Nat) (v : jV) (st : List jV) (l0 l1 l2 : Option jV) (w : jH) : jblk jT0 48 cl bk (n + 1) 79 [l0, l1, l2] (v :: jr a :: st) w = jpf w a 1 5 .int v fun w' => jblk jT0 48 cl bk n 82 [l0, l1, l2] st w' := Eq.trans rfl rfl
theorem E48_82 (a : Nat) (st : List jV) (l1 l2 : Option jV) (w : jH) : jblk jT0 48 cl bk (n + 1) 82 [some (jr a), l1, l2] st w = jblk jT0 48 cl bk n 83 [some (jr a), l1, l2] (jr a :: st) w := Eq.trans rfl rfl
theorem E48_83 (a : Nat) (st : List jV) (l0 l2 : Option jV) (w : jH) : jblk jT0 48 cl bk (n + 1) 83 [l0, some (jr a), l2] st w = jblk jT0 48 cl bk n 84 [l0, some (jr a), l2] (jr a :: st) w := Eq.trans rfl rfl
theorem E48_84 (a : Nat) (st : List jV) (l0 l1 l2 : Option jV) (w : jH) : jblk jT0 48 cl bk (n + 1) 84 [l0, l1, l2] (jr a :: st) w = jgf w a 1 6 fun v => jblk jT0 48 cl bk n 87 [l0, l1, l2] (v :: st) w := Eq.trans rfl rfl
theorem E48_87 (a : Nat) (v : jV) (st : List jV) (l0 l1 l2 : Option jV) (w : jH) : jblk jT0 48 cl bk (n + 1) 87 [l0, l1, l2] (v :: jr a :: st) w = jpf w a 1 6 .int v fun w' => jblk jT0 48 cl bk n 90 [l0, l1, l2] st w' := Eq.trans rfl rfl
theorem E48_90 (a : Nat) (st : List jV) (l1 l2 : Option jV) (w : jH) : jblk jT0 48 cl bk (n + 1) 90 [some (jr a), l1, l2] st w = jblk jT0 48 cl bk n 91 [some (jr a), l1, l2] (jr a :: st) w := Eq.trans rfl rfl
theorem E48_91 (a : Nat) (st : List jV) (l0 l2 : Option jV) (w : jH) : jblk jT0 48 cl bk (n + 1) 91 [l0, some (jr a), l2] st w = jblk jT0 48 cl bk n 92 [l0, some (jr a), l2] (jr a :: st) w := Eq.trans rfl rfl
theorem E48_92 (a : Nat) (st : List jV) (l0 l1 l2 : Option jV) (w : jH) : jblk jT0 48 cl bk (n + 1) 92 [l0, l1, l2] (jr a :: st) w = jgf w a 1 7 fun v => jblk jT0 48 cl bk n 95 [l0, l1, l2] (v :: st) w := Eq.trans rfl rfl
theorem E48_95 (a : Nat) (v : jV) (st : List jV) (l0 l1 l2 : Option jV) (w : jH) : jblk jT0 48 cl bk (n + 1) 95 [l0, l1, l2] (v :: jr a :: st) w = jpf w a 1 7 .int v fun w' => jblk jT0 48 cl bk n 98 [l0, l1, l2] st w' := Eq.trans rfl rfl
theorem E48_98 (a : Nat) (st : List jV) (l1 l2 : Option jV) (w : jH) : jblk jT0 48 cl bk (n + 1) 98 [some (jr a), l1, l2] st w = jblk jT0 48 cl bk n 99 [some (jr a), l1, l2] (jr a :: st) w := Eq.trans rfl rfl
theorem E48_99 (a : Nat) (st : List jV) (l0 l2 : Option jV) (w : jH) : jblk jT0 48 cl bk (n + 1) 99 [l0, some (jr a), l2] st w = jblk jT0 48 cl bk n 100 [l0, some (jr a), l2] (jr a :: st) w := Eq.trans rfl rfl
theorem E48_100 (a : Nat) (st : List jV) (l0 l1 l2 : Option jV) (w : jH) : jblk jT0 48 cl bk (n + 1) 100 [l0, l1, l2] (jr a :: st) w = jgf w a 1 8 fun v => jblk jT0 48 cl bk n 103 [l0, l1, l2] (v :: st) w := Eq.trans rfl rfl
theorem E48_103 (a : Nat) (v : jV) (st : List jV) (l0 l1 l2 : Option jV) (w : jH) : jblk jT0 48 cl bk (n + 1) 103 [l0, l1, l2] (v :: jr a :: st) w = jpf w a 1 8 .int v fun w' => jblk jT0 48 cl bk n 106 [l0, l1, l2] st w' := Eq.trans rfl rfl
theorem E48_106 (l0 l1 l2 : Option jV) (w : jH) : jblk jT0 48 cl bk (n + 1) 106 [l0, l1, l2] [] w = some (.inl none, w) := Eq.trans rfl rfl
theorem E54_0 (a : Nat) (st : List jV) (l0 : Option jV) (w : jH) : jblk jT0 54 cl bk (n + 1) 0 [l0, some (jr a)] st w = jblk jT0 54 cl bk n 1 [l0, some (jr a)] (jr a :: st) w := Eq.trans rfl rfl
theorem E54_1 (a : Nat) (st : List jV) (l0 l1 : Option jV) (w : jH) : jblk jT0 54 cl bk (n + 1) 1 [l0, l1] (jr a :: st) w = jblk jT0 54 cl bk n 5 [l0, l1] st w := Eq.trans rfl rfl
theorem E54_5 (a : Nat) (st : List jV) (l1 : Option jV) (w : jH) : jblk jT0 54 cl bk (n + 1) 5 [some (jr a), l1] st w = jblk jT0 54 cl bk n 6 [some (jr a), l1] (jr a :: st) w := Eq.trans rfl rfl
theorem E54_6 (a : Nat) (st : List jV) (l0 l1 : Option jV) (w : jH) : jblk jT0 54 cl bk (n + 1) 6 [l0, l1] (jr a :: st) w = jgf w a 7 0 fun v => jblk jT0 54 cl bk n 9 [l0, l1] (v :: st) w := Eq.trans rfl rfl
theorem E54_9 (a : Nat) (st : List jV) (l0 : Option jV) (w : jH) : jblk jT0 54 cl bk (n + 1) 9 [l0, some (jr a)] st w = jblk jT0 54 cl bk n 10 [l0, some (jr a)] (jr a :: st) w := Eq.trans rfl rfl
theorem E54_10 (a : Nat) (st : List jV) (l0 l1 : Option jV) (w : jH) : jblk jT0 54 cl bk (n + 1) 10 [l0, l1] (jr a :: st) w = jgf w a 7 0 fun v => jblk jT0 54 cl bk n 13 [l0, l1] (v :: st) w := Eq.trans rfl rfl
theorem E54_13 (a : Nat) (v0 : jV) (st : List jV) (l0 l1 : Option jV) (w : jH) : jblk jT0 54 cl bk (n + 1) 13 [l0, l1] (v0 :: jr a :: st) w = jsh st (jgo w a 0 fun _ => jcl (cl 23 [jr a, v0] w) (fun v w' => jblk jT0 54 cl bk n 16 [l0, l1] (jpush v st) w') (fun E w' => some (.inr E, w'))) := Eq.trans rfl rfl
theorem E54_16 (a : Nat) (st : List jV) (l1 : Option jV) (w : jH) : jblk jT0 54 cl bk (n + 1) 16 [some (jr a), l1] st w = jblk jT0 54 cl bk n 17 [some (jr a), l1] (jr a :: st) w := Eq.trans rfl rfl
theorem E54_17 (a : Nat) (st : List jV) (l0 l1 : Option jV) (w : jH) : jblk jT0 54 cl bk (n + 1) 17 [l0, l1] (jr a :: st) w = jgf w a 7 1 fun v => jblk jT0 54 cl bk n 20 [l0, l1] (v :: st) w := Eq.trans rfl rfl
theorem E54_20 (a : Nat) (st : List jV) (l0 : Option jV) (w : jH) : jblk jT0 54 cl bk (n + 1) 20 [l0, some (jr a)] st w = jblk jT0 54 cl bk n 21 [l0, some (jr a)] (jr a :: st) w := Eq.trans rfl rfl
theorem E54_21 (a : Nat) (st : List jV) (l0 l1 : Option jV) (w : jH) : jblk jT0 54 cl bk (n + 1) 21 [l0, l1] (jr a :: st) w = jgf w a 7 1 fun v => jblk jT0 54 cl bk n 24 [l0, l1] (v :: st) w := Eq.trans rfl rfl
theorem E54_24 (a : Nat) (v0 : jV) (st : List jV) (l0 l1 : Option jV) (w : jH) : jblk jT0 54 cl bk (n + 1) 24 [l0, l1] (v0 :: jr a :: st) w = jsh st (jgo w a 1 fun _ => jcl (cl 48 [jr a, v0] w) (fun v w' => jblk jT0 54 cl bk n 27 [l0, l1] (jpush v st) w') (fun E w' => some (.inr E, w'))) := Eq.trans rfl rfl
theorem E54_27 (a : Nat) (st : List jV) (l1 : Option jV) (w : jH) : jblk jT0 54 cl bk (n + 1) 27 [some (jr a), l1] st w = jblk jT0 54 cl bk n 28 [some (jr a), l1] (jr a :: st) w := Eq.trans rfl rfl
theorem E54_28 (a : Nat) (st : List jV) (l0 : Option jV) (w : jH) : jblk jT0 54 cl bk (n + 1) 28 [l0, some (jr a)] st w = jblk jT0 54 cl bk n 29 [l0, some (jr a)] (jr a :: st) w := Eq.trans rfl rfl
theorem E54_29 (a : Nat) (st : List jV) (l0 l1 : Option jV) (w : jH) : jblk jT0 54 cl bk (n + 1) 29 [l0, l1] (jr a :: st) w = jgf w a 7 2 fun v => jblk jT0 54 cl bk n 32 [l0, l1] (v :: st) w := Eq.trans rfl rfl
theorem E54_32 (a : Nat) (v : jV) (st : List jV) (l0 l1 : Option jV) (w : jH) : jblk jT0 54 cl bk (n + 1) 32 [l0, l1] (v :: jr a :: st) w = jpf w a 7 2 .int v fun w' => jblk jT0 54 cl bk n 35 [l0, l1] st w' := Eq.trans rfl rfl
theorem E54_35 (l0 l1 : Option jV) (w : jH) : jblk jT0 54 cl bk (n + 1) 35 [l0, l1] [] w = some (.inl none, w) := Eq.trans rfl rfl
end
theorem M23 (d r0 r1 : Nat) (w : jH) : jme jT0 jMx (d + 1) 23 [jr r0, jr r1] w = jblk jT0 23 (jme jT0 jMx d) (jlp jT0 23 (jme jT0 jMx d) 99999) 4000 0 [some (jr r0), some (jr r1), none] [] w := (show _ = jlp jT0 23 (jme jT0 jMx d) 100000 0 [some (jr r0), some (jr r1), none] [] w from rfl).trans jlp_s
theorem M48 (d r0 r1 : Nat) (w : jH) : jme jT0 jMx (d + 1) 48 [jr r0, jr r1] w = jblk jT0 48 (jme jT0 jMx d) (jlp jT0 48 (jme jT0 jMx d) 99999) 4000 0 [some (jr r0), some (jr r1), none] [] w := (show _ = jlp jT0 48 (jme jT0 jMx d) 100000 0 [some (jr r0), some (jr r1), none] [] w from rfl).trans jlp_s
theorem M54 (d r0 r1 : Nat) (w : jH) : jme jT0 jMx (d + 1) 54 [jr r0, jr r1] w = jblk jT0 54 (jme jT0 jMx d) (jlp jT0 54 (jme jT0 jMx d) 99999) 4000 0 [some (jr r0), some (jr r1)] [] w := (show _ = jlp jT0 54 (jme jT0 jMx d) 100000 0 [some (jr r0), some (jr r1)] [] w from rfl).trans jlp_s
def isSt (q : Nat) : Bool := match jlay[q]? with
  | some (.inr (.inl (c, _))) => Nat.beq c 7
  | _ => false
def oS {β : Type} (q : Nat) (r : Option β) : Option β := if isSt q = true then r else none
/-- the shapes of a state's twelve cells -/
def stL (q : Nat) : List jSh := [.inr (.inl (7, [some (q + 1), some (q + 6), none])), .inr (.inl (0, [some (q + 2), some (q + 3), some (q + 4), some (q + 5), none])), .inl (.int, 16), .inl (.int, 16), .inl (.boolean, 16), .inl (.int, 16), .inr (.inl (1, [some (q + 7), some (q + 8), some (q + 9), some (q + 10), some (q + 11), none, none, none, none])), .inl (.char, 20), .inl (.int, 20), .inl (.int, 20), .inl (.boolean, 20), .inl (.boolean, 20)]
def stF (q : Nat) : Prop := ∀ j, j < 12 → jlay[q + j]? = (stL q)[j]?
def shB (a b : jSh) : Bool := match a, b with
  | .inl (t, n), .inl (u, k) => decide (t = u) && Nat.beq n k
  | .inr (.inl (c, l)), .inr (.inl (d, r)) => Nat.beq c d && decide (l = r)
  | _, _ => false
theorem shB_eq {a b : jSh} (h : shB a b = true) : a = b := by
  rcases a with ⟨t, n⟩ | ⟨c, l⟩ | a <;> rcases b with ⟨u, k⟩ | ⟨d, r⟩ | b
  all_goals first
    | (simp only [shB, Bool.and_eq_true, decide_eq_true_eq] at h
       obtain ⟨h1, h2⟩ := h
       first
         | (have h3 := Nat.eq_of_beq_eq_true h2; subst h1; subst h3; rfl)
         | (have h3 := Nat.eq_of_beq_eq_true h1; subst h2; subst h3; rfl))
    | exact absurd h (by simp [shB])
def stB (q : Nat) : Bool := (List.range 12).all fun j => match jlay[q + j]?, (stL q)[j]? with
  | some a, some b => shB a b
  | _, _ => false
theorem st_all : ((List.range 157).all fun q => !(isSt q) || stB q) = true := by decide +kernel
theorem stF_of {q : Nat} (h : isSt q = true) : stF q := by
  have hq : q < 157 := by
    by_cases h1 : q < 157
    · exact h1
    · have h2 : jlay[q]? = none := List.getElem?_eq_none (Nat.le_trans (by decide +kernel : jlay.length ≤ 157) (Nat.le_of_not_lt h1))
      unfold isSt at h
      rw [h2] at h
      cases h
  have h1 := List.all_eq_true.mp st_all q (List.mem_range.mpr hq)
  rw [h] at h1
  have h2 : stB q = true := h1
  intro j hj
  have h3 := List.all_eq_true.mp h2 j (List.mem_range.mpr hj)
  split at h3
  · rename_i a b e1 e2
    rw [e1, e2, shB_eq h3]
  · cases h3
section StRules
variable {cf : jCf} {dv : UInt64} {m : jMem} {k : jM} {b : Nat}
theorem stF.at {sh : jSh} (h : stF b) (j : Nat) (hj : j < 12) (e : (stL b)[j]? = some sh) : jlay[b + j]? = some sh := (h j hj).trans e
theorem jgo_no (h : ¬ isSt b = true) (f : List jV → jR) : jgo (hp cf dv m, k) (jn cf + b) 7 f = none := by
  unfold jgo
  show (match hp cf dv m (jn cf + b) with | some (.inr (.inl (c, fs))) => if c = 7 then f fs else none | _ => none) = _
  cases hl : jlay[b]? with
  | none =>
    have h1 : hp cf dv m (jn cf + b) = none := by
      unfold hp
      have h1 : Nat.blt (jn cf + b) (jn cf) = false := by
        rw [← Bool.not_eq_true, Nat.blt_eq]
        omega
      rw [h1, Nat.add_sub_cancel_left, hl]
      rfl
    rw [h1]
  | some sh =>
    rw [hp_at b hl]
    rcases sh with ⟨t, n⟩ | ⟨c, l⟩ | t
    · rfl
    · show (if c = 7 then f (jfl (jn cf) (m b) 0 l) else none) = none
      refine if_neg fun hc => h ?_
      unfold isSt
      rw [hl, hc]
      rfl
    · cases t <;> rfl
theorem goS (r : jR) : jgo (hp cf dv m, k) (jn cf + b) 7 (fun _ => r) = oS b r := by
  unfold oS
  by_cases h : isSt b = true
  · rw [if_pos h]
    exact jgo_hp b 7 ((stF_of h).at 0 (by decide) rfl) _
  · rw [if_neg h]
    exact jgo_no h _
theorem oS_t {β : Type} {r : Option β} (h : isSt b = true) : oS b r = r := if_pos h
theorem oS_f {β : Type} {r : Option β} (h : ¬ isSt b = true) : oS b r = none := if_neg h
theorem gS0 (h : stF b) (f : jV → jR) : jgf (hp cf dv m, k) (jn cf + b) 7 0 f = f (jr (jn cf + (b + 1))) := jgo_hp b 7 (h.at 0 (by decide) rfl) _
theorem gS1 (h : stF b) (f : jV → jR) : jgf (hp cf dv m, k) (jn cf + b) 7 1 f = f (jr (jn cf + (b + 6))) := jgo_hp b 7 (h.at 0 (by decide) rfl) _
theorem gS2 (h : stF b) (f : jV → jR) : jgf (hp cf dv m, k) (jn cf + b) 7 2 f = f (.inl (m b 2)) := jgo_hp b 7 (h.at 0 (by decide) rfl) _
theorem pS2 (h : stF b) (x : Int) (f : jH → jR) : jpf (hp cf dv m, k) (jn cf + b) 7 2 .int (.inl x) f = f (hp cf dv (mset m b 2 x), k) := (jpf_hp b 7 2 (h.at 0 (by decide) rfl) rfl (Nat.le_of_ble_eq_true rfl) f).trans (jint _ _)
theorem goA1 (h : stF b) (r : jR) : jgo (hp cf dv m, k) (jn cf + (b + 1)) 0 (fun _ => r) = r := jgo_hp (b + 1) 0 (h.at 1 (by decide) rfl) _
theorem gA1_0 (h : stF b) (f : jV → jR) : jgf (hp cf dv m, k) (jn cf + (b + 1)) 0 0 f = f (jr (jn cf + (b + 2))) := jgo_hp (b + 1) 0 (h.at 1 (by decide) rfl) _
theorem gA1_1 (h : stF b) (f : jV → jR) : jgf (hp cf dv m, k) (jn cf + (b + 1)) 0 1 f = f (jr (jn cf + (b + 3))) := jgo_hp (b + 1) 0 (h.at 1 (by decide) rfl) _
theorem gA1_2 (h : stF b) (f : jV → jR) : jgf (hp cf dv m, k) (jn cf + (b + 1)) 0 2 f = f (jr (jn cf + (b + 4))) := jgo_hp (b + 1) 0 (h.at 1 (by decide) rfl) _
theorem gA1_3 (h : stF b) (f : jV → jR) : jgf (hp cf dv m, k) (jn cf + (b + 1)) 0 3 f = f (jr (jn cf + (b + 5))) := jgo_hp (b + 1) 0 (h.at 1 (by decide) rfl) _
theorem gA1_4 (h : stF b) (f : jV → jR) : jgf (hp cf dv m, k) (jn cf + (b + 1)) 0 4 f = f (.inl (m (b + 1) 4)) := jgo_hp (b + 1) 0 (h.at 1 (by decide) rfl) _
theorem pA1_4 (h : stF b) (x : Int) (f : jH → jR) : jpf (hp cf dv m, k) (jn cf + (b + 1)) 0 4 .int (.inl x) f = f (hp cf dv (mset m (b + 1) 4 x), k) := (jpf_hp (b + 1) 0 4 (h.at 1 (by decide) rfl) rfl (Nat.le_of_ble_eq_true rfl) f).trans (jint _ _)
theorem goA6 (h : stF b) (r : jR) : jgo (hp cf dv m, k) (jn cf + (b + 6)) 1 (fun _ => r) = r := jgo_hp (b + 6) 1 (h.at 6 (by decide) rfl) _
theorem gA6_0 (h : stF b) (f : jV → jR) : jgf (hp cf dv m, k) (jn cf + (b + 6)) 1 0 f = f (jr (jn cf + (b + 7))) := jgo_hp (b + 6) 1 (h.at 6 (by decide) rfl) _
theorem gA6_1 (h : stF b) (f : jV → jR) : jgf (hp cf dv m, k) (jn cf + (b + 6)) 1 1 f = f (jr (jn cf + (b + 8))) := jgo_hp (b + 6) 1 (h.at 6 (by decide) rfl) _
theorem gA6_2 (h : stF b) (f : jV → jR) : jgf (hp cf dv m, k) (jn cf + (b + 6)) 1 2 f = f (jr (jn cf + (b + 9))) := jgo_hp (b + 6) 1 (h.at 6 (by decide) rfl) _
theorem gA6_3 (h : stF b) (f : jV → jR) : jgf (hp cf dv m, k) (jn cf + (b + 6)) 1 3 f = f (jr (jn cf + (b + 10))) := jgo_hp (b + 6) 1 (h.at 6 (by decide) rfl) _
theorem gA6_4 (h : stF b) (f : jV → jR) : jgf (hp cf dv m, k) (jn cf + (b + 6)) 1 4 f = f (jr (jn cf + (b + 11))) := jgo_hp (b + 6) 1 (h.at 6 (by decide) rfl) _
theorem gA6_5 (h : stF b) (f : jV → jR) : jgf (hp cf dv m, k) (jn cf + (b + 6)) 1 5 f = f (.inl (m (b + 6) 5)) := jgo_hp (b + 6) 1 (h.at 6 (by decide) rfl) _
theorem pA6_5 (h : stF b) (x : Int) (f : jH → jR) : jpf (hp cf dv m, k) (jn cf + (b + 6)) 1 5 .int (.inl x) f = f (hp cf dv (mset m (b + 6) 5 x), k) := (jpf_hp (b + 6) 1 5 (h.at 6 (by decide) rfl) rfl (Nat.le_of_ble_eq_true rfl) f).trans (jint _ _)
theorem gA6_6 (h : stF b) (f : jV → jR) : jgf (hp cf dv m, k) (jn cf + (b + 6)) 1 6 f = f (.inl (m (b + 6) 6)) := jgo_hp (b + 6) 1 (h.at 6 (by decide) rfl) _
theorem pA6_6 (h : stF b) (x : Int) (f : jH → jR) : jpf (hp cf dv m, k) (jn cf + (b + 6)) 1 6 .int (.inl x) f = f (hp cf dv (mset m (b + 6) 6 x), k) := (jpf_hp (b + 6) 1 6 (h.at 6 (by decide) rfl) rfl (Nat.le_of_ble_eq_true rfl) f).trans (jint _ _)
theorem gA6_7 (h : stF b) (f : jV → jR) : jgf (hp cf dv m, k) (jn cf + (b + 6)) 1 7 f = f (.inl (m (b + 6) 7)) := jgo_hp (b + 6) 1 (h.at 6 (by decide) rfl) _
theorem pA6_7 (h : stF b) (x : Int) (f : jH → jR) : jpf (hp cf dv m, k) (jn cf + (b + 6)) 1 7 .int (.inl x) f = f (hp cf dv (mset m (b + 6) 7 x), k) := (jpf_hp (b + 6) 1 7 (h.at 6 (by decide) rfl) rfl (Nat.le_of_ble_eq_true rfl) f).trans (jint _ _)
theorem gA6_8 (h : stF b) (f : jV → jR) : jgf (hp cf dv m, k) (jn cf + (b + 6)) 1 8 f = f (.inl (m (b + 6) 8)) := jgo_hp (b + 6) 1 (h.at 6 (by decide) rfl) _
theorem pA6_8 (h : stF b) (x : Int) (f : jH → jR) : jpf (hp cf dv m, k) (jn cf + (b + 6)) 1 8 .int (.inl x) f = f (hp cf dv (mset m (b + 6) 8 x), k) := (jpf_hp (b + 6) 1 8 (h.at 6 (by decide) rfl) rfl (Nat.le_of_ble_eq_true rfl) f).trans (jint _ _)
theorem iA2 (h : stF b) (x : Int) (f : Int → jR) : jlda (hp cf dv m, k) (jn cf + (b + 2)) x f = oix x 16 (f (m (b + 2) x.toNat)) := jlda_hp (b + 2) (h.at 2 (by decide) rfl) x f
theorem sA2 (h : stF b) (x y : Int) (f : jH → jR) : jai (hp cf dv m, k) (jn cf + (b + 2)) .int x y f = oix x 16 (f (hp cf dv (mset m (b + 2) x.toNat y), k)) := (jai_hp (b + 2) (h.at 2 (by decide) rfl) x y f).trans (congrArg (oix x 16) (jint _ _))
theorem iA3 (h : stF b) (x : Int) (f : Int → jR) : jlda (hp cf dv m, k) (jn cf + (b + 3)) x f = oix x 16 (f (m (b + 3) x.toNat)) := jlda_hp (b + 3) (h.at 3 (by decide) rfl) x f
theorem sA3 (h : stF b) (x y : Int) (f : jH → jR) : jai (hp cf dv m, k) (jn cf + (b + 3)) .int x y f = oix x 16 (f (hp cf dv (mset m (b + 3) x.toNat y), k)) := (jai_hp (b + 3) (h.at 3 (by decide) rfl) x y f).trans (congrArg (oix x 16) (jint _ _))
theorem iA4 (h : stF b) (x : Int) (f : Int → jR) : jgi (hp cf dv m, k) (jn cf + (b + 4)) .boolean x f = oix x 16 (f (m (b + 4) x.toNat)) := jgi_hp (b + 4) (h.at 4 (by decide) rfl) x f
theorem sA4 (h : stF b) (x y : Int) (f : jH → jR) : jai (hp cf dv m, k) (jn cf + (b + 4)) .boolean x y f = oix x 16 (obt y (f (hp cf dv (mset m (b + 4) x.toNat y), k))) := (jai_hp (b + 4) (h.at 4 (by decide) rfl) x y f).trans (congrArg (oix x 16) (jbit _ _))
theorem iA5 (h : stF b) (x : Int) (f : Int → jR) : jlda (hp cf dv m, k) (jn cf + (b + 5)) x f = oix x 16 (f (m (b + 5) x.toNat)) := jlda_hp (b + 5) (h.at 5 (by decide) rfl) x f
theorem sA5 (h : stF b) (x y : Int) (f : jH → jR) : jai (hp cf dv m, k) (jn cf + (b + 5)) .int x y f = oix x 16 (f (hp cf dv (mset m (b + 5) x.toNat y), k)) := (jai_hp (b + 5) (h.at 5 (by decide) rfl) x y f).trans (congrArg (oix x 16) (jint _ _))
theorem iA7 (h : stF b) (x : Int) (f : Int → jR) : jgi (hp cf dv m, k) (jn cf + (b + 7)) .char x f = oix x 20 (f (m (b + 7) x.toNat)) := jgi_hp (b + 7) (h.at 7 (by decide) rfl) x f
theorem sA7 (h : stF b) (x y : Int) (f : jH → jR) : jai (hp cf dv m, k) (jn cf + (b + 7)) .char x y f = oix x 20 (och y (f (hp cf dv (mset m (b + 7) x.toNat y), k))) := (jai_hp (b + 7) (h.at 7 (by decide) rfl) x y f).trans (congrArg (oix x 20) (jchr _ _))
theorem iA8 (h : stF b) (x : Int) (f : Int → jR) : jlda (hp cf dv m, k) (jn cf + (b + 8)) x f = oix x 20 (f (m (b + 8) x.toNat)) := jlda_hp (b + 8) (h.at 8 (by decide) rfl) x f
theorem sA8 (h : stF b) (x y : Int) (f : jH → jR) : jai (hp cf dv m, k) (jn cf + (b + 8)) .int x y f = oix x 20 (f (hp cf dv (mset m (b + 8) x.toNat y), k)) := (jai_hp (b + 8) (h.at 8 (by decide) rfl) x y f).trans (congrArg (oix x 20) (jint _ _))
theorem iA9 (h : stF b) (x : Int) (f : Int → jR) : jlda (hp cf dv m, k) (jn cf + (b + 9)) x f = oix x 20 (f (m (b + 9) x.toNat)) := jlda_hp (b + 9) (h.at 9 (by decide) rfl) x f
theorem sA9 (h : stF b) (x y : Int) (f : jH → jR) : jai (hp cf dv m, k) (jn cf + (b + 9)) .int x y f = oix x 20 (f (hp cf dv (mset m (b + 9) x.toNat y), k)) := (jai_hp (b + 9) (h.at 9 (by decide) rfl) x y f).trans (congrArg (oix x 20) (jint _ _))
theorem iA10 (h : stF b) (x : Int) (f : Int → jR) : jgi (hp cf dv m, k) (jn cf + (b + 10)) .boolean x f = oix x 20 (f (m (b + 10) x.toNat)) := jgi_hp (b + 10) (h.at 10 (by decide) rfl) x f
theorem sA10 (h : stF b) (x y : Int) (f : jH → jR) : jai (hp cf dv m, k) (jn cf + (b + 10)) .boolean x y f = oix x 20 (obt y (f (hp cf dv (mset m (b + 10) x.toNat y), k))) := (jai_hp (b + 10) (h.at 10 (by decide) rfl) x y f).trans (congrArg (oix x 20) (jbit _ _))
theorem iA11 (h : stF b) (x : Int) (f : Int → jR) : jgi (hp cf dv m, k) (jn cf + (b + 11)) .boolean x f = oix x 20 (f (m (b + 11) x.toNat)) := jgi_hp (b + 11) (h.at 11 (by decide) rfl) x f
theorem sA11 (h : stF b) (x y : Int) (f : jH → jR) : jai (hp cf dv m, k) (jn cf + (b + 11)) .boolean x y f = oix x 20 (obt y (f (hp cf dv (mset m (b + 11) x.toNat y), k))) := (jai_hp (b + 11) (h.at 11 (by decide) rfl) x y f).trans (congrArg (oix x 20) (jbit _ _))
theorem l0_oS {α : Type} {ij : α → jV} {q : Nat} {r : Option α} : l0 cf dv m k ij (oS q r) = oS q (l0 cf dv m k ij r) := by unfold oS; exact l0_ite
theorem lW_oS {α : Type} {ij : α → jV} {q : Nat} {r : Option (α × jMem)} : lW cf dv k ij (oS q r) = oS q (lW cf dv k ij r) := by unfold oS; exact lW_ite
theorem lX_oS {α : Type} {ij : α → jV} {q : Nat} {r : Option (α ⊕ String)} : lX cf dv m k ij (oS q r) = oS q (lX cf dv m k ij r) := by unfold oS; exact lX_ite
theorem lXW_oS {α : Type} {ij : α → jV} {q : Nat} {r : Option ((α ⊕ String) × jMem)} : lXW cf dv k ij (oS q r) = oS q (lXW cf dv k ij r) := by unfold oS; exact lXW_ite
theorem lVW_oS {q : Nat} {r : Option jMem} : lVW cf dv k (oS q r) = oS q (lVW cf dv k r) := by unfold oS; exact lVW_ite
theorem lVX_oS {q : Nat} {r : Option (Option String)} : lVX cf dv m k (oS q r) = oS q (lVX cf dv m k r) := by unfold oS; exact lVX_ite
end StRules
def f_People_copyFromL : Nat → jMem → Nat → Nat → Int → Option jMem
  | 0, _, _, _, _ => none
  | N + 1, m, b1, b2, a2 => if a2 < 16 then oix a2 16 (oix a2 16 (oix a2 16 (oix a2 16 (oix a2 16 (oix a2 16 (obt ((mset (mset m (b1 + 2) a2.toNat (m (b2 + 2) a2.toNat)) (b1 + 3) a2.toNat ((mset m (b1 + 2) a2.toNat (m (b2 + 2) a2.toNat)) (b2 + 3) a2.toNat)) (b2 + 4) a2.toNat) (oix a2 16 (oix a2 16 (f_People_copyFromL N (mset (mset (mset (mset m (b1 + 2) a2.toNat (m (b2 + 2) a2.toNat)) (b1 + 3) a2.toNat ((mset m (b1 + 2) a2.toNat (m (b2 + 2) a2.toNat)) (b2 + 3) a2.toNat)) (b1 + 4) a2.toNat ((mset (mset m (b1 + 2) a2.toNat (m (b2 + 2) a2.toNat)) (b1 + 3) a2.toNat ((mset m (b1 + 2) a2.toNat (m (b2 + 2) a2.toNat)) (b2 + 3) a2.toNat)) (b2 + 4) a2.toNat)) (b1 + 5) a2.toNat ((mset (mset (mset m (b1 + 2) a2.toNat (m (b2 + 2) a2.toNat)) (b1 + 3) a2.toNat ((mset m (b1 + 2) a2.toNat (m (b2 + 2) a2.toNat)) (b2 + 3) a2.toNat)) (b1 + 4) a2.toNat ((mset (mset m (b1 + 2) a2.toNat (m (b2 + 2) a2.toNat)) (b1 + 3) a2.toNat ((mset m (b1 + 2) a2.toNat (m (b2 + 2) a2.toNat)) (b2 + 3) a2.toNat)) (b2 + 4) a2.toNat)) (b2 + 5) a2.toNat)) b1 b2 (jw (a2 + 1))))))))))) else some (mset m (b1 + 1) 4 (m (b2 + 1) 4))
def f_Habits_copyFromL : Nat → jMem → Nat → Nat → Int → Option jMem
  | 0, _, _, _, _ => none
  | N + 1, m, b1, b2, a2 => if a2 < 20 then oix a2 20 (oix a2 20 (och (m (b2 + 7) a2.toNat) (oix a2 20 (oix a2 20 (oix a2 20 (oix a2 20 (oix a2 20 (oix a2 20 (obt ((mset (mset (mset m (b1 + 7) a2.toNat (m (b2 + 7) a2.toNat)) (b1 + 8) a2.toNat ((mset m (b1 + 7) a2.toNat (m (b2 + 7) a2.toNat)) (b2 + 8) a2.toNat)) (b1 + 9) a2.toNat ((mset (mset m (b1 + 7) a2.toNat (m (b2 + 7) a2.toNat)) (b1 + 8) a2.toNat ((mset m (b1 + 7) a2.toNat (m (b2 + 7) a2.toNat)) (b2 + 8) a2.toNat)) (b2 + 9) a2.toNat)) (b2 + 10) a2.toNat) (oix a2 20 (oix a2 20 (obt ((mset (mset (mset (mset m (b1 + 7) a2.toNat (m (b2 + 7) a2.toNat)) (b1 + 8) a2.toNat ((mset m (b1 + 7) a2.toNat (m (b2 + 7) a2.toNat)) (b2 + 8) a2.toNat)) (b1 + 9) a2.toNat ((mset (mset m (b1 + 7) a2.toNat (m (b2 + 7) a2.toNat)) (b1 + 8) a2.toNat ((mset m (b1 + 7) a2.toNat (m (b2 + 7) a2.toNat)) (b2 + 8) a2.toNat)) (b2 + 9) a2.toNat)) (b1 + 10) a2.toNat ((mset (mset (mset m (b1 + 7) a2.toNat (m (b2 + 7) a2.toNat)) (b1 + 8) a2.toNat ((mset m (b1 + 7) a2.toNat (m (b2 + 7) a2.toNat)) (b2 + 8) a2.toNat)) (b1 + 9) a2.toNat ((mset (mset m (b1 + 7) a2.toNat (m (b2 + 7) a2.toNat)) (b1 + 8) a2.toNat ((mset m (b1 + 7) a2.toNat (m (b2 + 7) a2.toNat)) (b2 + 8) a2.toNat)) (b2 + 9) a2.toNat)) (b2 + 10) a2.toNat)) (b2 + 11) a2.toNat) (f_Habits_copyFromL N (mset (mset (mset (mset (mset m (b1 + 7) a2.toNat (m (b2 + 7) a2.toNat)) (b1 + 8) a2.toNat ((mset m (b1 + 7) a2.toNat (m (b2 + 7) a2.toNat)) (b2 + 8) a2.toNat)) (b1 + 9) a2.toNat ((mset (mset m (b1 + 7) a2.toNat (m (b2 + 7) a2.toNat)) (b1 + 8) a2.toNat ((mset m (b1 + 7) a2.toNat (m (b2 + 7) a2.toNat)) (b2 + 8) a2.toNat)) (b2 + 9) a2.toNat)) (b1 + 10) a2.toNat ((mset (mset (mset m (b1 + 7) a2.toNat (m (b2 + 7) a2.toNat)) (b1 + 8) a2.toNat ((mset m (b1 + 7) a2.toNat (m (b2 + 7) a2.toNat)) (b2 + 8) a2.toNat)) (b1 + 9) a2.toNat ((mset (mset m (b1 + 7) a2.toNat (m (b2 + 7) a2.toNat)) (b1 + 8) a2.toNat ((mset m (b1 + 7) a2.toNat (m (b2 + 7) a2.toNat)) (b2 + 8) a2.toNat)) (b2 + 9) a2.toNat)) (b2 + 10) a2.toNat)) (b1 + 11) a2.toNat ((mset (mset (mset (mset m (b1 + 7) a2.toNat (m (b2 + 7) a2.toNat)) (b1 + 8) a2.toNat ((mset m (b1 + 7) a2.toNat (m (b2 + 7) a2.toNat)) (b2 + 8) a2.toNat)) (b1 + 9) a2.toNat ((mset (mset m (b1 + 7) a2.toNat (m (b2 + 7) a2.toNat)) (b1 + 8) a2.toNat ((mset m (b1 + 7) a2.toNat (m (b2 + 7) a2.toNat)) (b2 + 8) a2.toNat)) (b2 + 9) a2.toNat)) (b1 + 10) a2.toNat ((mset (mset (mset m (b1 + 7) a2.toNat (m (b2 + 7) a2.toNat)) (b1 + 8) a2.toNat ((mset m (b1 + 7) a2.toNat (m (b2 + 7) a2.toNat)) (b2 + 8) a2.toNat)) (b1 + 9) a2.toNat ((mset (mset m (b1 + 7) a2.toNat (m (b2 + 7) a2.toNat)) (b1 + 8) a2.toNat ((mset m (b1 + 7) a2.toNat (m (b2 + 7) a2.toNat)) (b2 + 8) a2.toNat)) (b2 + 9) a2.toNat)) (b2 + 10) a2.toNat)) (b2 + 11) a2.toNat)) b1 b2 (jw (a2 + 1))))))))))))))) else some (mset (mset (mset (mset m (b1 + 6) 5 (m (b2 + 6) 5)) (b1 + 6) 6 ((mset m (b1 + 6) 5 (m (b2 + 6) 5)) (b2 + 6) 6)) (b1 + 6) 7 ((mset (mset m (b1 + 6) 5 (m (b2 + 6) 5)) (b1 + 6) 6 ((mset m (b1 + 6) 5 (m (b2 + 6) 5)) (b2 + 6) 6)) (b2 + 6) 7)) (b1 + 6) 8 ((mset (mset (mset m (b1 + 6) 5 (m (b2 + 6) 5)) (b1 + 6) 6 ((mset m (b1 + 6) 5 (m (b2 + 6) 5)) (b2 + 6) 6)) (b1 + 6) 7 ((mset (mset m (b1 + 6) 5 (m (b2 + 6) 5)) (b1 + 6) 6 ((mset m (b1 + 6) 5 (m (b2 + 6) 5)) (b2 + 6) 6)) (b2 + 6) 7)) (b2 + 6) 8))
def f_State_copyFrom (m : jMem) (b1 b2 : Nat) : Option jMem := oS b1 (oS b2 ((f_People_copyFromL 99999 m b1 b2 0).bind fun m1 => (f_Habits_copyFromL 99999 m1 b1 b2 0).bind fun m2 => some (mset m2 b1 2 (m2 b2 2))))
section
variable {cf : jCf} {dv : UInt64}
set_option maxRecDepth 20000 in
set_option maxHeartbeats 800000 in
theorem X23L (d : Nat) {b1 b2 : Nat} (h1 : stF b1) (h2 : stF b2) : ∀ (N : Nat) (m : jMem) (k : jM) (a2 : Int), jlp jT0 23 (jme jT0 jMx d) N 2 [some (jr (jn cf + (b1 + 1))), some (jr (jn cf + (b2 + 1))), some (.inl a2)] [] (hp cf dv m, k) = lVW cf dv k (f_People_copyFromL N m b1 b2 a2) := by
  intro N
  induction N with
  | zero => intro m k a2; rfl
  | succ N ih =>
    intro m k a2
    rw [jlp_s]
    simp only [E23_0, E23_1, E23_2, E23_3, E23_5, E23_8, E23_9, E23_12, E23_13, E23_14, E23_17, E23_18, E23_19, E23_20, E23_21, E23_24, E23_25, E23_26, E23_29, E23_30, E23_31, E23_32, E23_33, E23_36, E23_37, E23_38, E23_41, E23_42, E23_43, E23_44, E23_45, E23_48, E23_49, E23_50, E23_53, E23_54, E23_55, E23_56, E23_59, E23_62, E23_63, E23_64, E23_67, E23_70, gA1_0 h1, gA1_0 h2, gA1_1 h1, gA1_1 h2, gA1_2 h1, gA1_2 h2, gA1_3 h1, gA1_3 h2, gA1_4 h1, gA1_4 h2, pA1_4 h1, iA2 h2, iA3 h2, iA4 h2, iA5 h2, sA2 h1, sA3 h1, sA4 h1, sA5 h1, jsh_n, jsh_I, jsh_R, jsh_II, jsh_IR, jsh_RI, jsh_RR, jsh_III, jsh_IIR, jsh_IRI, jsh_IRR, jsh_RII, jsh_RIR, jsh_RRI, jsh_RRR, jsh_IIII, jsh_IIIR, jsh_IIRI, jsh_IIRR, jsh_IRII, jsh_IRIR, jsh_IRRI, jsh_IRRR, jsh_RIII, jsh_RIIR, jsh_RIRI, jsh_RIRR, jsh_RRII, jsh_RRIR, jsh_RRRI, jsh_RRRR, jsh_IIIII, jsh_IIIIR, jsh_IIIRI, jsh_IIIRR, jsh_IIRII, jsh_IIRIR, jsh_IIRRI, jsh_IIRRR, jsh_IRIII, jsh_IRIIR, jsh_IRIRI, jsh_IRIRR, jsh_IRRII, jsh_IRRIR, jsh_IRRRI, jsh_IRRRR, jsh_RIIII, jsh_RIIIR, jsh_RIIRI, jsh_RIIRR, jsh_RIRII, jsh_RIRIR, jsh_RIRRI, jsh_RIRRR, jsh_RRIII, jsh_RRIIR, jsh_RRIRI, jsh_RRIRR, jsh_RRRII, jsh_RRRIR, jsh_RRRRI, jsh_RRRRR, jsh_D, jsh_DR, jsh_F, jsh_FR, jthr_hp, jc_l0, jc_lW, jc_lX, jc_lXW, jc_lVW, jc_lVX, jpush_n, jpush_s, obt_0, obt_1, och_0, och_32, och_100, och_115, och_104, och_33, och_43, och_60, jint, jbit, jchr, ijI, ijR, ijD, ijF, ↓reduceIte, Int.reduceEq, Int.reduceLT, reduceCtorEq, lVW_bind, lVW_ite, lVW_none, lVW_oix, lVW_obt, lVW_och, lVW_sel, lVW_oel, lVW_some, f_People_copyFromL, ih]
set_option maxRecDepth 20000 in
set_option maxHeartbeats 800000 in
theorem X23 (d : Nat) {b1 b2 : Nat} (h1 : stF b1) (h2 : stF b2) (m : jMem) (k : jM) : jme jT0 jMx (d + 1) 23 [jr (jn cf + (b1 + 1)), jr (jn cf + (b2 + 1))] (hp cf dv m, k) = lVW cf dv k (f_People_copyFromL 99999 m b1 b2 0) := by
  simp only [M23, E23_0, E23_1, E23_2, E23_3, E23_5, E23_8, E23_9, E23_12, E23_13, E23_14, E23_17, E23_18, E23_19, E23_20, E23_21, E23_24, E23_25, E23_26, E23_29, E23_30, E23_31, E23_32, E23_33, E23_36, E23_37, E23_38, E23_41, E23_42, E23_43, E23_44, E23_45, E23_48, E23_49, E23_50, E23_53, E23_54, E23_55, E23_56, E23_59, E23_62, E23_63, E23_64, E23_67, E23_70, X23L d h1 h2]
set_option maxRecDepth 20000 in
set_option maxHeartbeats 800000 in
theorem X48L (d : Nat) {b1 b2 : Nat} (h1 : stF b1) (h2 : stF b2) : ∀ (N : Nat) (m : jMem) (k : jM) (a2 : Int), jlp jT0 48 (jme jT0 jMx d) N 2 [some (jr (jn cf + (b1 + 6))), some (jr (jn cf + (b2 + 6))), some (.inl a2)] [] (hp cf dv m, k) = lVW cf dv k (f_Habits_copyFromL N m b1 b2 a2) := by
  intro N
  induction N with
  | zero => intro m k a2; rfl
  | succ N ih =>
    intro m k a2
    rw [jlp_s]
    simp only [E48_0, E48_1, E48_2, E48_3, E48_5, E48_8, E48_9, E48_12, E48_13, E48_14, E48_17, E48_18, E48_19, E48_20, E48_21, E48_24, E48_25, E48_26, E48_29, E48_30, E48_31, E48_32, E48_33, E48_36, E48_37, E48_38, E48_41, E48_42, E48_43, E48_44, E48_45, E48_48, E48_49, E48_50, E48_53, E48_54, E48_55, E48_56, E48_57, E48_60, E48_61, E48_62, E48_65, E48_66, E48_67, E48_68, E48_71, E48_74, E48_75, E48_76, E48_79, E48_82, E48_83, E48_84, E48_87, E48_90, E48_91, E48_92, E48_95, E48_98, E48_99, E48_100, E48_103, E48_106, gA6_0 h1, gA6_0 h2, gA6_1 h1, gA6_1 h2, gA6_2 h1, gA6_2 h2, gA6_3 h1, gA6_3 h2, gA6_4 h1, gA6_4 h2, gA6_5 h1, gA6_5 h2, gA6_6 h1, gA6_6 h2, gA6_7 h1, gA6_7 h2, gA6_8 h1, gA6_8 h2, pA6_5 h1, pA6_6 h1, pA6_7 h1, pA6_8 h1, iA7 h2, iA8 h2, iA9 h2, iA10 h2, iA11 h2, sA7 h1, sA8 h1, sA9 h1, sA10 h1, sA11 h1, jsh_n, jsh_I, jsh_R, jsh_II, jsh_IR, jsh_RI, jsh_RR, jsh_III, jsh_IIR, jsh_IRI, jsh_IRR, jsh_RII, jsh_RIR, jsh_RRI, jsh_RRR, jsh_IIII, jsh_IIIR, jsh_IIRI, jsh_IIRR, jsh_IRII, jsh_IRIR, jsh_IRRI, jsh_IRRR, jsh_RIII, jsh_RIIR, jsh_RIRI, jsh_RIRR, jsh_RRII, jsh_RRIR, jsh_RRRI, jsh_RRRR, jsh_IIIII, jsh_IIIIR, jsh_IIIRI, jsh_IIIRR, jsh_IIRII, jsh_IIRIR, jsh_IIRRI, jsh_IIRRR, jsh_IRIII, jsh_IRIIR, jsh_IRIRI, jsh_IRIRR, jsh_IRRII, jsh_IRRIR, jsh_IRRRI, jsh_IRRRR, jsh_RIIII, jsh_RIIIR, jsh_RIIRI, jsh_RIIRR, jsh_RIRII, jsh_RIRIR, jsh_RIRRI, jsh_RIRRR, jsh_RRIII, jsh_RRIIR, jsh_RRIRI, jsh_RRIRR, jsh_RRRII, jsh_RRRIR, jsh_RRRRI, jsh_RRRRR, jsh_D, jsh_DR, jsh_F, jsh_FR, jthr_hp, jc_l0, jc_lW, jc_lX, jc_lXW, jc_lVW, jc_lVX, jpush_n, jpush_s, obt_0, obt_1, och_0, och_32, och_100, och_115, och_104, och_33, och_43, och_60, jint, jbit, jchr, ijI, ijR, ijD, ijF, ↓reduceIte, Int.reduceEq, Int.reduceLT, reduceCtorEq, lVW_bind, lVW_ite, lVW_none, lVW_oix, lVW_obt, lVW_och, lVW_sel, lVW_oel, lVW_some, f_Habits_copyFromL, ih]
set_option maxRecDepth 20000 in
set_option maxHeartbeats 800000 in
theorem X48 (d : Nat) {b1 b2 : Nat} (h1 : stF b1) (h2 : stF b2) (m : jMem) (k : jM) : jme jT0 jMx (d + 1) 48 [jr (jn cf + (b1 + 6)), jr (jn cf + (b2 + 6))] (hp cf dv m, k) = lVW cf dv k (f_Habits_copyFromL 99999 m b1 b2 0) := by
  simp only [M48, E48_0, E48_1, E48_2, E48_3, E48_5, E48_8, E48_9, E48_12, E48_13, E48_14, E48_17, E48_18, E48_19, E48_20, E48_21, E48_24, E48_25, E48_26, E48_29, E48_30, E48_31, E48_32, E48_33, E48_36, E48_37, E48_38, E48_41, E48_42, E48_43, E48_44, E48_45, E48_48, E48_49, E48_50, E48_53, E48_54, E48_55, E48_56, E48_57, E48_60, E48_61, E48_62, E48_65, E48_66, E48_67, E48_68, E48_71, E48_74, E48_75, E48_76, E48_79, E48_82, E48_83, E48_84, E48_87, E48_90, E48_91, E48_92, E48_95, E48_98, E48_99, E48_100, E48_103, E48_106, X48L d h1 h2]
theorem X54 (d b1 b2 : Nat) (m : jMem) (k : jM) : jme jT0 jMx (d + 2) 54 [jr (jn cf + b1), jr (jn cf + b2)] (hp cf dv m, k) = lVW cf dv k (f_State_copyFrom m b1 b2) := by
  by_cases h1 : isSt b1 = true
  · by_cases h2 : isSt b2 = true
    · have e1 := stF_of h1
      have e2 := stF_of h2
      simp only [M54, E54_0, E54_1, E54_5, E54_6, E54_9, E54_10, E54_13, E54_16, E54_17, E54_20, E54_21, E54_24, E54_27, E54_28, E54_29, E54_32, E54_35, f_State_copyFrom, oS_t h1, oS_t h2, gS0 e1, gS0 e2, gS1 e1, gS1 e2, gS2 e2, pS2 e1, goA1 e1, goA6 e1, X23 _ e1 e2, X48 _ e1 e2, jsh_n, jsh_I, jsh_R, jsh_II, jsh_IR, jsh_RI, jsh_RR, jsh_III, jsh_IIR, jsh_IRI, jsh_IRR, jsh_RII, jsh_RIR, jsh_RRI, jsh_RRR, jsh_IIII, jsh_IIIR, jsh_IIRI, jsh_IIRR, jsh_IRII, jsh_IRIR, jsh_IRRI, jsh_IRRR, jsh_RIII, jsh_RIIR, jsh_RIRI, jsh_RIRR, jsh_RRII, jsh_RRIR, jsh_RRRI, jsh_RRRR, jsh_IIIII, jsh_IIIIR, jsh_IIIRI, jsh_IIIRR, jsh_IIRII, jsh_IIRIR, jsh_IIRRI, jsh_IIRRR, jsh_IRIII, jsh_IRIIR, jsh_IRIRI, jsh_IRIRR, jsh_IRRII, jsh_IRRIR, jsh_IRRRI, jsh_IRRRR, jsh_RIIII, jsh_RIIIR, jsh_RIIRI, jsh_RIIRR, jsh_RIRII, jsh_RIRIR, jsh_RIRRI, jsh_RIRRR, jsh_RRIII, jsh_RRIIR, jsh_RRIRI, jsh_RRIRR, jsh_RRRII, jsh_RRRIR, jsh_RRRRI, jsh_RRRRR, jsh_D, jsh_DR, jsh_F, jsh_FR, jthr_hp, jc_l0, jc_lW, jc_lX, jc_lXW, jc_lVW, jc_lVX, jpush_n, jpush_s, obt_0, obt_1, och_0, och_32, och_100, och_115, och_104, och_33, och_43, och_60, jint, jbit, jchr, ijI, ijR, ijD, ijF, ↓reduceIte, Int.reduceEq, Int.reduceLT, reduceCtorEq, lVW_bind, lVW_ite, lVW_none, lVW_oix, lVW_obt, lVW_och, lVW_sel, lVW_oel, lVW_some]
    · simp only [M54, E54_0, E54_1, E54_5, E54_6, E54_9, E54_10, E54_13, E54_16, E54_17, E54_20, E54_21, E54_24, E54_27, E54_28, E54_29, E54_32, E54_35, f_State_copyFrom, oS_t h1, oS_f h2, gS0 (stF_of h1), lVW_none]
      unfold jgf
      rw [jgo_no h2]
  · simp only [M54, E54_0, E54_1, E54_5, E54_6, E54_9, E54_10, E54_13, E54_16, E54_17, E54_20, E54_21, E54_24, E54_27, E54_28, E54_29, E54_32, E54_35, f_State_copyFrom, oS_f h1, lVW_none]
    unfold jgf
    rw [jgo_no h1]
end

/-! ===== script and output ===== -/
section
variable (cl : Nat → List jV → jH → jR) (bk : Nat → jL → List jV → jH → jR) (n : Nat)
theorem E81_0 (a : Nat) (st : List jV) (w : jH) : jblk jT0 81 cl bk (n + 1) 0 [some (jr a)] st w = jblk jT0 81 cl bk n 1 [some (jr a)] (jr a :: st) w := rfl
theorem E81_1 (a : Nat) (st : List jV) (l0 : Option jV) (w : jH) : jblk jT0 81 cl bk (n + 1) 1 [l0] (jr a :: st) w = jgf w a 5 1 fun v => jblk jT0 81 cl bk n 4 [l0] (v :: st) w := rfl
theorem E81_4 (st : List jV) (l0 : Option jV) (w : jH) : jblk jT0 81 cl bk (n + 1) 4 [l0] st w = jblk jT0 81 cl bk n 6 [l0] (.inl 60 :: st) w := rfl
theorem E81_6 (x : Int) (y : Int) (st : List jV) (l0 : Option jV) (w : jH) : jblk jT0 81 cl bk (n + 1) 6 [l0] (.inl y :: .inl x :: st) w = if x < y then jblk jT0 81 cl bk n 13 [l0] st w else jblk jT0 81 cl bk n 9 [l0] st w := rfl
theorem E81_9 (st : List jV) (l0 : Option jV) (w : jH) : jblk jT0 81 cl bk (n + 1) 9 [l0] st w = jblk jT0 81 cl bk n 10 [l0] (.inl 1 :: st) w := rfl
theorem E81_10 (st : List jV) (l0 : Option jV) (w : jH) : jblk jT0 81 cl bk (n + 1) 10 [l0] st w = jblk jT0 81 cl bk n 14 [l0] st w := rfl
theorem E81_13 (st : List jV) (l0 : Option jV) (w : jH) : jblk jT0 81 cl bk (n + 1) 13 [l0] st w = jblk jT0 81 cl bk n 14 [l0] (.inl 0 :: st) w := rfl
theorem E81_14 (x : Int) (l0 : Option jV) (w : jH) : jblk jT0 81 cl bk (n + 1) 14 [l0] [.inl x] w = if jfits .boolean x = true then some (.inl (some (.inl x)), w) else none := rfl
theorem E82_0 (a : Nat) (st : List jV) (l1 : Option jV) (w : jH) : jblk jT0 82 cl bk (n + 1) 0 [some (jr a), l1] st w = jblk jT0 82 cl bk n 1 [some (jr a), l1] (jr a :: st) w := rfl
theorem E82_1 (a : Nat) (st : List jV) (l0 l1 : Option jV) (w : jH) : jblk jT0 82 cl bk (n + 1) 1 [l0, l1] (jr a :: st) w = jgf w a 5 1 fun v => jblk jT0 82 cl bk n 4 [l0, l1] (v :: st) w := rfl
theorem E82_4 (x : Int) (st : List jV) (l0 l1 : Option jV) (w : jH) : jblk jT0 82 cl bk (n + 1) 4 [l0, l1] (.inl x :: st) w = if x < 0 then jblk jT0 82 cl bk n 36 [l0, l1] st w else jblk jT0 82 cl bk n 7 [l0, l1] st w := rfl
theorem E82_7 (a : Nat) (st : List jV) (l1 : Option jV) (w : jH) : jblk jT0 82 cl bk (n + 1) 7 [some (jr a), l1] st w = jblk jT0 82 cl bk n 8 [some (jr a), l1] (jr a :: st) w := rfl
theorem E82_8 (a : Nat) (st : List jV) (l0 l1 : Option jV) (w : jH) : jblk jT0 82 cl bk (n + 1) 8 [l0, l1] (jr a :: st) w = jgf w a 5 1 fun v => jblk jT0 82 cl bk n 11 [l0, l1] (v :: st) w := rfl
theorem E82_11 (st : List jV) (l0 l1 : Option jV) (w : jH) : jblk jT0 82 cl bk (n + 1) 11 [l0, l1] st w = jblk jT0 82 cl bk n 13 [l0, l1] (.inl 60 :: st) w := rfl
theorem E82_13 (x : Int) (y : Int) (st : List jV) (l0 l1 : Option jV) (w : jH) : jblk jT0 82 cl bk (n + 1) 13 [l0, l1] (.inl y :: .inl x :: st) w = if x < y then jblk jT0 82 cl bk n 16 [l0, l1] st w else jblk jT0 82 cl bk n 36 [l0, l1] st w := rfl
theorem E82_16 (a : Nat) (st : List jV) (l1 : Option jV) (w : jH) : jblk jT0 82 cl bk (n + 1) 16 [some (jr a), l1] st w = jblk jT0 82 cl bk n 17 [some (jr a), l1] (jr a :: st) w := rfl
theorem E82_17 (a : Nat) (st : List jV) (l0 l1 : Option jV) (w : jH) : jblk jT0 82 cl bk (n + 1) 17 [l0, l1] (jr a :: st) w = jgf w a 5 0 fun v => jblk jT0 82 cl bk n 20 [l0, l1] (v :: st) w := rfl
theorem E82_20 (a : Nat) (st : List jV) (l1 : Option jV) (w : jH) : jblk jT0 82 cl bk (n + 1) 20 [some (jr a), l1] st w = jblk jT0 82 cl bk n 21 [some (jr a), l1] (jr a :: st) w := rfl
theorem E82_21 (a : Nat) (st : List jV) (l0 l1 : Option jV) (w : jH) : jblk jT0 82 cl bk (n + 1) 21 [l0, l1] (jr a :: st) w = jgf w a 5 1 fun v => jblk jT0 82 cl bk n 24 [l0, l1] (v :: st) w := rfl
theorem E82_24 (x : Int) (st : List jV) (l0 : Option jV) (w : jH) : jblk jT0 82 cl bk (n + 1) 24 [l0, some (.inl x)] st w = jblk jT0 82 cl bk n 25 [l0, some (.inl x)] (.inl x :: st) w := rfl
theorem E82_25 (x : Int) (y : Int) (a : Nat) (st : List jV) (l0 l1 : Option jV) (w : jH) : jblk jT0 82 cl bk (n + 1) 25 [l0, l1] (.inl y :: .inl x :: jr a :: st) w = jai w a .char x y fun w' => jblk jT0 82 cl bk n 26 [l0, l1] st w' := rfl
theorem E82_26 (a : Nat) (st : List jV) (l1 : Option jV) (w : jH) : jblk jT0 82 cl bk (n + 1) 26 [some (jr a), l1] st w = jblk jT0 82 cl bk n 27 [some (jr a), l1] (jr a :: st) w := rfl
theorem E82_27_0 (x : Int) (st : List jV) (l0 l1 : Option jV) (w : jH) : jblk jT0 82 cl bk (n + 1) 27 [l0, l1] (.inl x :: st) w = jblk jT0 82 cl bk n 28 [l0, l1] (.inl x :: .inl x :: st) w := rfl
theorem E82_27_1 (a : Nat) (st : List jV) (l0 l1 : Option jV) (w : jH) : jblk jT0 82 cl bk (n + 1) 27 [l0, l1] (jr a :: st) w = jblk jT0 82 cl bk n 28 [l0, l1] (jr a :: jr a :: st) w := rfl
theorem E82_28 (a : Nat) (st : List jV) (l0 l1 : Option jV) (w : jH) : jblk jT0 82 cl bk (n + 1) 28 [l0, l1] (jr a :: st) w = jgf w a 5 1 fun v => jblk jT0 82 cl bk n 31 [l0, l1] (v :: st) w := rfl
theorem E82_31 (st : List jV) (l0 l1 : Option jV) (w : jH) : jblk jT0 82 cl bk (n + 1) 31 [l0, l1] st w = jblk jT0 82 cl bk n 32 [l0, l1] (.inl 1 :: st) w := rfl
theorem E82_32 (x : Int) (y : Int) (st : List jV) (l0 l1 : Option jV) (w : jH) : jblk jT0 82 cl bk (n + 1) 32 [l0, l1] (.inl y :: .inl x :: st) w = jblk jT0 82 cl bk n 33 [l0, l1] (.inl (jw (x + y)) :: st) w := rfl
theorem E82_33 (a : Nat) (v : jV) (st : List jV) (l0 l1 : Option jV) (w : jH) : jblk jT0 82 cl bk (n + 1) 33 [l0, l1] (v :: jr a :: st) w = jpf w a 5 1 .int v fun w' => jblk jT0 82 cl bk n 36 [l0, l1] st w' := rfl
theorem E82_36 (l0 l1 : Option jV) (w : jH) : jblk jT0 82 cl bk (n + 1) 36 [l0, l1] [] w = some (.inl none, w) := rfl
theorem E83_0 (a : Nat) (st : List jV) (w : jH) : jblk jT0 83 cl bk (n + 1) 0 [some (jr a)] st w = jblk jT0 83 cl bk n 1 [some (jr a)] (jr a :: st) w := rfl
theorem E83_1 (st : List jV) (l0 : Option jV) (w : jH) : jblk jT0 83 cl bk (n + 1) 1 [l0] st w = jblk jT0 83 cl bk n 2 [l0] (.inl 0 :: st) w := rfl
theorem E83_2 (a : Nat) (v : jV) (st : List jV) (l0 : Option jV) (w : jH) : jblk jT0 83 cl bk (n + 1) 2 [l0] (v :: jr a :: st) w = jpf w a 5 1 .int v fun w' => jblk jT0 83 cl bk n 5 [l0] st w' := rfl
theorem E83_5 (l0 : Option jV) (w : jH) : jblk jT0 83 cl bk (n + 1) 5 [l0] [] w = some (.inl none, w) := rfl
theorem E84_0 (x : Int) (st : List jV) (l0 : Option jV) (w : jH) : jblk jT0 84 cl bk (n + 1) 0 [l0, some (.inl x)] st w = jblk jT0 84 cl bk n 1 [l0, some (.inl x)] (.inl x :: st) w := rfl
theorem E84_1 (x : Int) (st : List jV) (l0 l1 : Option jV) (w : jH) : jblk jT0 84 cl bk (n + 1) 1 [l0, l1] (.inl x :: st) w = if x < 0 then jblk jT0 84 cl bk n 21 [l0, l1] st w else jblk jT0 84 cl bk n 4 [l0, l1] st w := rfl
theorem E84_4 (x : Int) (st : List jV) (l0 : Option jV) (w : jH) : jblk jT0 84 cl bk (n + 1) 4 [l0, some (.inl x)] st w = jblk jT0 84 cl bk n 5 [l0, some (.inl x)] (.inl x :: st) w := rfl
theorem E84_5 (a : Nat) (st : List jV) (l1 : Option jV) (w : jH) : jblk jT0 84 cl bk (n + 1) 5 [some (jr a), l1] st w = jblk jT0 84 cl bk n 6 [some (jr a), l1] (jr a :: st) w := rfl
theorem E84_6 (a : Nat) (st : List jV) (l0 l1 : Option jV) (w : jH) : jblk jT0 84 cl bk (n + 1) 6 [l0, l1] (jr a :: st) w = jgf w a 5 7 fun v => jblk jT0 84 cl bk n 9 [l0, l1] (v :: st) w := rfl
theorem E84_9 (x : Int) (y : Int) (st : List jV) (l0 l1 : Option jV) (w : jH) : jblk jT0 84 cl bk (n + 1) 9 [l0, l1] (.inl y :: .inl x :: st) w = if x < y then jblk jT0 84 cl bk n 12 [l0, l1] st w else jblk jT0 84 cl bk n 21 [l0, l1] st w := rfl
theorem E84_12 (a : Nat) (st : List jV) (l1 : Option jV) (w : jH) : jblk jT0 84 cl bk (n + 1) 12 [some (jr a), l1] st w = jblk jT0 84 cl bk n 13 [some (jr a), l1] (jr a :: st) w := rfl
theorem E84_13 (a : Nat) (st : List jV) (l0 l1 : Option jV) (w : jH) : jblk jT0 84 cl bk (n + 1) 13 [l0, l1] (jr a :: st) w = jgf w a 5 3 fun v => jblk jT0 84 cl bk n 16 [l0, l1] (v :: st) w := rfl
theorem E84_16 (x : Int) (st : List jV) (l0 : Option jV) (w : jH) : jblk jT0 84 cl bk (n + 1) 16 [l0, some (.inl x)] st w = jblk jT0 84 cl bk n 17 [l0, some (.inl x)] (.inl x :: st) w := rfl
theorem E84_17 (x : Int) (a : Nat) (st : List jV) (l0 l1 : Option jV) (w : jH) : jblk jT0 84 cl bk (n + 1) 17 [l0, l1] (.inl x :: jr a :: st) w = jlda w a x (fun z => jblk jT0 84 cl bk n 18 [l0, l1] (.inl z :: st) w) := rfl
theorem E84_18 (st : List jV) (l0 l1 : Option jV) (w : jH) : jblk jT0 84 cl bk (n + 1) 18 [l0, l1] st w = jblk jT0 84 cl bk n 23 [l0, l1] st w := rfl
theorem E84_21 (st : List jV) (l0 l1 : Option jV) (w : jH) : jblk jT0 84 cl bk (n + 1) 21 [l0, l1] st w = jblk jT0 84 cl bk n 23 [l0, l1] (.inl 32 :: st) w := rfl
theorem E84_23 (x : Int) (l0 l1 : Option jV) (w : jH) : jblk jT0 84 cl bk (n + 1) 23 [l0, l1] [.inl x] w = if jfits .int x = true then some (.inl (some (.inl x)), w) else none := rfl
theorem E85_0 (x : Int) (st : List jV) (l0 : Option jV) (w : jH) : jblk jT0 85 cl bk (n + 1) 0 [l0, some (.inl x)] st w = jblk jT0 85 cl bk n 1 [l0, some (.inl x)] (.inl x :: st) w := rfl
theorem E85_1 (x : Int) (st : List jV) (l0 l1 : Option jV) (w : jH) : jblk jT0 85 cl bk (n + 1) 1 [l0, l1] (.inl x :: st) w = if x < 0 then jblk jT0 85 cl bk n 21 [l0, l1] st w else jblk jT0 85 cl bk n 4 [l0, l1] st w := rfl
theorem E85_4 (x : Int) (st : List jV) (l0 : Option jV) (w : jH) : jblk jT0 85 cl bk (n + 1) 4 [l0, some (.inl x)] st w = jblk jT0 85 cl bk n 5 [l0, some (.inl x)] (.inl x :: st) w := rfl
theorem E85_5 (a : Nat) (st : List jV) (l1 : Option jV) (w : jH) : jblk jT0 85 cl bk (n + 1) 5 [some (jr a), l1] st w = jblk jT0 85 cl bk n 6 [some (jr a), l1] (jr a :: st) w := rfl
theorem E85_6 (a : Nat) (st : List jV) (l0 l1 : Option jV) (w : jH) : jblk jT0 85 cl bk (n + 1) 6 [l0, l1] (jr a :: st) w = jgf w a 5 7 fun v => jblk jT0 85 cl bk n 9 [l0, l1] (v :: st) w := rfl
theorem E85_9 (x : Int) (y : Int) (st : List jV) (l0 l1 : Option jV) (w : jH) : jblk jT0 85 cl bk (n + 1) 9 [l0, l1] (.inl y :: .inl x :: st) w = if x < y then jblk jT0 85 cl bk n 12 [l0, l1] st w else jblk jT0 85 cl bk n 21 [l0, l1] st w := rfl
theorem E85_12 (a : Nat) (st : List jV) (l1 : Option jV) (w : jH) : jblk jT0 85 cl bk (n + 1) 12 [some (jr a), l1] st w = jblk jT0 85 cl bk n 13 [some (jr a), l1] (jr a :: st) w := rfl
theorem E85_13 (a : Nat) (st : List jV) (l0 l1 : Option jV) (w : jH) : jblk jT0 85 cl bk (n + 1) 13 [l0, l1] (jr a :: st) w = jgf w a 5 4 fun v => jblk jT0 85 cl bk n 16 [l0, l1] (v :: st) w := rfl
theorem E85_16 (x : Int) (st : List jV) (l0 : Option jV) (w : jH) : jblk jT0 85 cl bk (n + 1) 16 [l0, some (.inl x)] st w = jblk jT0 85 cl bk n 17 [l0, some (.inl x)] (.inl x :: st) w := rfl
theorem E85_17 (x : Int) (a : Nat) (st : List jV) (l0 l1 : Option jV) (w : jH) : jblk jT0 85 cl bk (n + 1) 17 [l0, l1] (.inl x :: jr a :: st) w = jlda w a x (fun z => jblk jT0 85 cl bk n 18 [l0, l1] (.inl z :: st) w) := rfl
theorem E85_18 (st : List jV) (l0 l1 : Option jV) (w : jH) : jblk jT0 85 cl bk (n + 1) 18 [l0, l1] st w = jblk jT0 85 cl bk n 22 [l0, l1] st w := rfl
theorem E85_21 (st : List jV) (l0 l1 : Option jV) (w : jH) : jblk jT0 85 cl bk (n + 1) 21 [l0, l1] st w = jblk jT0 85 cl bk n 22 [l0, l1] (.inl (-1) :: st) w := rfl
theorem E85_22 (x : Int) (l0 l1 : Option jV) (w : jH) : jblk jT0 85 cl bk (n + 1) 22 [l0, l1] [.inl x] w = if jfits .int x = true then some (.inl (some (.inl x)), w) else none := rfl
theorem E86_0 (x : Int) (st : List jV) (l0 : Option jV) (w : jH) : jblk jT0 86 cl bk (n + 1) 0 [l0, some (.inl x)] st w = jblk jT0 86 cl bk n 1 [l0, some (.inl x)] (.inl x :: st) w := rfl
theorem E86_1 (x : Int) (st : List jV) (l0 l1 : Option jV) (w : jH) : jblk jT0 86 cl bk (n + 1) 1 [l0, l1] (.inl x :: st) w = if x < 0 then jblk jT0 86 cl bk n 21 [l0, l1] st w else jblk jT0 86 cl bk n 4 [l0, l1] st w := rfl
theorem E86_4 (x : Int) (st : List jV) (l0 : Option jV) (w : jH) : jblk jT0 86 cl bk (n + 1) 4 [l0, some (.inl x)] st w = jblk jT0 86 cl bk n 5 [l0, some (.inl x)] (.inl x :: st) w := rfl
theorem E86_5 (a : Nat) (st : List jV) (l1 : Option jV) (w : jH) : jblk jT0 86 cl bk (n + 1) 5 [some (jr a), l1] st w = jblk jT0 86 cl bk n 6 [some (jr a), l1] (jr a :: st) w := rfl
theorem E86_6 (a : Nat) (st : List jV) (l0 l1 : Option jV) (w : jH) : jblk jT0 86 cl bk (n + 1) 6 [l0, l1] (jr a :: st) w = jgf w a 5 7 fun v => jblk jT0 86 cl bk n 9 [l0, l1] (v :: st) w := rfl
theorem E86_9 (x : Int) (y : Int) (st : List jV) (l0 l1 : Option jV) (w : jH) : jblk jT0 86 cl bk (n + 1) 9 [l0, l1] (.inl y :: .inl x :: st) w = if x < y then jblk jT0 86 cl bk n 12 [l0, l1] st w else jblk jT0 86 cl bk n 21 [l0, l1] st w := rfl
theorem E86_12 (a : Nat) (st : List jV) (l1 : Option jV) (w : jH) : jblk jT0 86 cl bk (n + 1) 12 [some (jr a), l1] st w = jblk jT0 86 cl bk n 13 [some (jr a), l1] (jr a :: st) w := rfl
theorem E86_13 (a : Nat) (st : List jV) (l0 l1 : Option jV) (w : jH) : jblk jT0 86 cl bk (n + 1) 13 [l0, l1] (jr a :: st) w = jgf w a 5 5 fun v => jblk jT0 86 cl bk n 16 [l0, l1] (v :: st) w := rfl
theorem E86_16 (x : Int) (st : List jV) (l0 : Option jV) (w : jH) : jblk jT0 86 cl bk (n + 1) 16 [l0, some (.inl x)] st w = jblk jT0 86 cl bk n 17 [l0, some (.inl x)] (.inl x :: st) w := rfl
theorem E86_17 (x : Int) (a : Nat) (st : List jV) (l0 l1 : Option jV) (w : jH) : jblk jT0 86 cl bk (n + 1) 17 [l0, l1] (.inl x :: jr a :: st) w = jgi w a .char x fun z => jblk jT0 86 cl bk n 18 [l0, l1] (.inl z :: st) w := rfl
theorem E86_18 (st : List jV) (l0 l1 : Option jV) (w : jH) : jblk jT0 86 cl bk (n + 1) 18 [l0, l1] st w = jblk jT0 86 cl bk n 23 [l0, l1] st w := rfl
theorem E86_21 (st : List jV) (l0 l1 : Option jV) (w : jH) : jblk jT0 86 cl bk (n + 1) 21 [l0, l1] st w = jblk jT0 86 cl bk n 23 [l0, l1] (.inl 32 :: st) w := rfl
theorem E86_23 (x : Int) (l0 l1 : Option jV) (w : jH) : jblk jT0 86 cl bk (n + 1) 23 [l0, l1] [.inl x] w = if jfits .char x = true then some (.inl (some (.inl x)), w) else none := rfl
theorem E87_0 (x : Int) (st : List jV) (l0 : Option jV) (w : jH) : jblk jT0 87 cl bk (n + 1) 0 [l0, some (.inl x)] st w = jblk jT0 87 cl bk n 1 [l0, some (.inl x)] (.inl x :: st) w := rfl
theorem E87_1 (x : Int) (st : List jV) (l0 l1 : Option jV) (w : jH) : jblk jT0 87 cl bk (n + 1) 1 [l0, l1] (.inl x :: st) w = if x < 0 then jblk jT0 87 cl bk n 21 [l0, l1] st w else jblk jT0 87 cl bk n 4 [l0, l1] st w := rfl
theorem E87_4 (x : Int) (st : List jV) (l0 : Option jV) (w : jH) : jblk jT0 87 cl bk (n + 1) 4 [l0, some (.inl x)] st w = jblk jT0 87 cl bk n 5 [l0, some (.inl x)] (.inl x :: st) w := rfl
theorem E87_5 (a : Nat) (st : List jV) (l1 : Option jV) (w : jH) : jblk jT0 87 cl bk (n + 1) 5 [some (jr a), l1] st w = jblk jT0 87 cl bk n 6 [some (jr a), l1] (jr a :: st) w := rfl
theorem E87_6 (a : Nat) (st : List jV) (l0 l1 : Option jV) (w : jH) : jblk jT0 87 cl bk (n + 1) 6 [l0, l1] (jr a :: st) w = jgf w a 5 7 fun v => jblk jT0 87 cl bk n 9 [l0, l1] (v :: st) w := rfl
theorem E87_9 (x : Int) (y : Int) (st : List jV) (l0 l1 : Option jV) (w : jH) : jblk jT0 87 cl bk (n + 1) 9 [l0, l1] (.inl y :: .inl x :: st) w = if x < y then jblk jT0 87 cl bk n 12 [l0, l1] st w else jblk jT0 87 cl bk n 21 [l0, l1] st w := rfl
theorem E87_12 (a : Nat) (st : List jV) (l1 : Option jV) (w : jH) : jblk jT0 87 cl bk (n + 1) 12 [some (jr a), l1] st w = jblk jT0 87 cl bk n 13 [some (jr a), l1] (jr a :: st) w := rfl
theorem E87_13 (a : Nat) (st : List jV) (l0 l1 : Option jV) (w : jH) : jblk jT0 87 cl bk (n + 1) 13 [l0, l1] (jr a :: st) w = jgf w a 5 6 fun v => jblk jT0 87 cl bk n 16 [l0, l1] (v :: st) w := rfl
theorem E87_16 (x : Int) (st : List jV) (l0 : Option jV) (w : jH) : jblk jT0 87 cl bk (n + 1) 16 [l0, some (.inl x)] st w = jblk jT0 87 cl bk n 17 [l0, some (.inl x)] (.inl x :: st) w := rfl
theorem E87_17 (x : Int) (a : Nat) (st : List jV) (l0 l1 : Option jV) (w : jH) : jblk jT0 87 cl bk (n + 1) 17 [l0, l1] (.inl x :: jr a :: st) w = jlda w a x (fun z => jblk jT0 87 cl bk n 18 [l0, l1] (.inl z :: st) w) := rfl
theorem E87_18 (st : List jV) (l0 l1 : Option jV) (w : jH) : jblk jT0 87 cl bk (n + 1) 18 [l0, l1] st w = jblk jT0 87 cl bk n 22 [l0, l1] st w := rfl
theorem E87_21 (st : List jV) (l0 l1 : Option jV) (w : jH) : jblk jT0 87 cl bk (n + 1) 21 [l0, l1] st w = jblk jT0 87 cl bk n 22 [l0, l1] (.inl (-1) :: st) w := rfl
theorem E87_22 (x : Int) (l0 l1 : Option jV) (w : jH) : jblk jT0 87 cl bk (n + 1) 22 [l0, l1] [.inl x] w = if jfits .int x = true then some (.inl (some (.inl x)), w) else none := rfl
theorem E88_0 (a : Nat) (st : List jV) (l1 : Option jV) (w : jH) : jblk jT0 88 cl bk (n + 1) 0 [some (jr a), l1] st w = jblk jT0 88 cl bk n 1 [some (jr a), l1] (jr a :: st) w := rfl
theorem E88_1 (st : List jV) (l0 l1 : Option jV) (w : jH) : jblk jT0 88 cl bk (n + 1) 1 [l0, l1] st w = jblk jT0 88 cl bk n 2 [l0, l1] (.inl 0 :: st) w := rfl
theorem E88_2 (a : Nat) (v : jV) (st : List jV) (l0 l1 : Option jV) (w : jH) : jblk jT0 88 cl bk (n + 1) 2 [l0, l1] (v :: jr a :: st) w = jpf w a 5 2 .int v fun w' => jblk jT0 88 cl bk n 5 [l0, l1] st w' := rfl
theorem E88_5 (a : Nat) (st : List jV) (l1 : Option jV) (w : jH) : jblk jT0 88 cl bk (n + 1) 5 [some (jr a), l1] st w = jblk jT0 88 cl bk n 6 [some (jr a), l1] (jr a :: st) w := rfl
theorem E88_6 (st : List jV) (l0 l1 : Option jV) (w : jH) : jblk jT0 88 cl bk (n + 1) 6 [l0, l1] st w = jblk jT0 88 cl bk n 7 [l0, l1] (.inl 0 :: st) w := rfl
theorem E88_7 (a : Nat) (v : jV) (st : List jV) (l0 l1 : Option jV) (w : jH) : jblk jT0 88 cl bk (n + 1) 7 [l0, l1] (v :: jr a :: st) w = jpf w a 5 7 .int v fun w' => jblk jT0 88 cl bk n 10 [l0, l1] st w' := rfl
theorem E88_10 (st : List jV) (l0 l1 : Option jV) (w : jH) : jblk jT0 88 cl bk (n + 1) 10 [l0, l1] st w = jblk jT0 88 cl bk n 11 [l0, l1] (.inl 0 :: st) w := rfl
theorem E88_11 (x : Int) (st : List jV) (l0 l1 : Option jV) (w : jH) : jblk jT0 88 cl bk (n + 1) 11 [l0, l1] (.inl x :: st) w = bk 12 [l0, some (.inl x)] st w := rfl
theorem E88_12 (x : Int) (st : List jV) (l0 : Option jV) (w : jH) : jblk jT0 88 cl bk (n + 1) 12 [l0, some (.inl x)] st w = jblk jT0 88 cl bk n 13 [l0, some (.inl x)] (.inl x :: st) w := rfl
theorem E88_13 (st : List jV) (l0 l1 : Option jV) (w : jH) : jblk jT0 88 cl bk (n + 1) 13 [l0, l1] st w = jblk jT0 88 cl bk n 15 [l0, l1] (.inl 60 :: st) w := rfl
theorem E88_15 (x : Int) (y : Int) (st : List jV) (l0 l1 : Option jV) (w : jH) : jblk jT0 88 cl bk (n + 1) 15 [l0, l1] (.inl y :: .inl x :: st) w = if x < y then jblk jT0 88 cl bk n 18 [l0, l1] st w else jblk jT0 88 cl bk n 68 [l0, l1] st w := rfl
theorem E88_18 (a : Nat) (st : List jV) (l1 : Option jV) (w : jH) : jblk jT0 88 cl bk (n + 1) 18 [some (jr a), l1] st w = jblk jT0 88 cl bk n 19 [some (jr a), l1] (jr a :: st) w := rfl
theorem E88_19 (x : Int) (st : List jV) (l0 : Option jV) (w : jH) : jblk jT0 88 cl bk (n + 1) 19 [l0, some (.inl x)] st w = jblk jT0 88 cl bk n 20 [l0, some (.inl x)] (.inl x :: st) w := rfl
theorem E88_20 (a : Nat) (v0 : jV) (st : List jV) (l0 l1 : Option jV) (w : jH) : jblk jT0 88 cl bk (n + 1) 20 [l0, l1] (v0 :: jr a :: st) w = jsh st (jgo w a 5 fun _ => jcl (cl 89 [jr a, v0] w) (fun v w' => jblk jT0 88 cl bk n 23 [l0, l1] (jpush v st) w') (fun E w' => some (.inr E, w'))) := rfl
theorem E88_23 (x : Int) (st : List jV) (l0 l1 : Option jV) (w : jH) : jblk jT0 88 cl bk (n + 1) 23 [l0, l1] (.inl x :: st) w = if x = 0 then jblk jT0 88 cl bk n 26 [l0, l1] st w else jblk jT0 88 cl bk n 28 [l0, l1] st w := rfl
theorem E88_26 (st : List jV) (l0 l1 : Option jV) (w : jH) : jblk jT0 88 cl bk (n + 1) 26 [l0, l1] st w = jblk jT0 88 cl bk n 27 [l0, l1] (.inl 0 :: st) w := rfl
theorem E88_27 (x : Int) (l0 l1 : Option jV) (w : jH) : jblk jT0 88 cl bk (n + 1) 27 [l0, l1] [.inl x] w = if jfits .boolean x = true then some (.inl (some (.inl x)), w) else none := rfl
theorem E88_28 (a : Nat) (st : List jV) (l1 : Option jV) (w : jH) : jblk jT0 88 cl bk (n + 1) 28 [some (jr a), l1] st w = jblk jT0 88 cl bk n 29 [some (jr a), l1] (jr a :: st) w := rfl
theorem E88_29_0 (x : Int) (st : List jV) (l0 l1 : Option jV) (w : jH) : jblk jT0 88 cl bk (n + 1) 29 [l0, l1] (.inl x :: st) w = jblk jT0 88 cl bk n 30 [l0, l1] (.inl x :: .inl x :: st) w := rfl
theorem E88_29_1 (a : Nat) (st : List jV) (l0 l1 : Option jV) (w : jH) : jblk jT0 88 cl bk (n + 1) 29 [l0, l1] (jr a :: st) w = jblk jT0 88 cl bk n 30 [l0, l1] (jr a :: jr a :: st) w := rfl
theorem E88_30 (a : Nat) (st : List jV) (l0 l1 : Option jV) (w : jH) : jblk jT0 88 cl bk (n + 1) 30 [l0, l1] (jr a :: st) w = jgf w a 5 7 fun v => jblk jT0 88 cl bk n 33 [l0, l1] (v :: st) w := rfl
theorem E88_33 (st : List jV) (l0 l1 : Option jV) (w : jH) : jblk jT0 88 cl bk (n + 1) 33 [l0, l1] st w = jblk jT0 88 cl bk n 34 [l0, l1] (.inl 1 :: st) w := rfl
theorem E88_34 (x : Int) (y : Int) (st : List jV) (l0 l1 : Option jV) (w : jH) : jblk jT0 88 cl bk (n + 1) 34 [l0, l1] (.inl y :: .inl x :: st) w = jblk jT0 88 cl bk n 35 [l0, l1] (.inl (jw (x + y)) :: st) w := rfl
theorem E88_35 (a : Nat) (v : jV) (st : List jV) (l0 l1 : Option jV) (w : jH) : jblk jT0 88 cl bk (n + 1) 35 [l0, l1] (v :: jr a :: st) w = jpf w a 5 7 .int v fun w' => jblk jT0 88 cl bk n 38 [l0, l1] st w' := rfl
theorem E88_38 (a : Nat) (st : List jV) (l1 : Option jV) (w : jH) : jblk jT0 88 cl bk (n + 1) 38 [some (jr a), l1] st w = jblk jT0 88 cl bk n 39 [some (jr a), l1] (jr a :: st) w := rfl
theorem E88_39 (a : Nat) (st : List jV) (l0 l1 : Option jV) (w : jH) : jblk jT0 88 cl bk (n + 1) 39 [l0, l1] (jr a :: st) w = jgf w a 5 2 fun v => jblk jT0 88 cl bk n 42 [l0, l1] (v :: st) w := rfl
theorem E88_42 (a : Nat) (st : List jV) (l1 : Option jV) (w : jH) : jblk jT0 88 cl bk (n + 1) 42 [some (jr a), l1] st w = jblk jT0 88 cl bk n 43 [some (jr a), l1] (jr a :: st) w := rfl
theorem E88_43 (a : Nat) (st : List jV) (l0 l1 : Option jV) (w : jH) : jblk jT0 88 cl bk (n + 1) 43 [l0, l1] (jr a :: st) w = jgf w a 5 1 fun v => jblk jT0 88 cl bk n 46 [l0, l1] (v :: st) w := rfl
theorem E88_46 (x : Int) (y : Int) (st : List jV) (l0 l1 : Option jV) (w : jH) : jblk jT0 88 cl bk (n + 1) 46 [l0, l1] (.inl y :: .inl x :: st) w = if x < y then jblk jT0 88 cl bk n 51 [l0, l1] st w else jblk jT0 88 cl bk n 49 [l0, l1] st w := rfl
theorem E88_49 (st : List jV) (l0 l1 : Option jV) (w : jH) : jblk jT0 88 cl bk (n + 1) 49 [l0, l1] st w = jblk jT0 88 cl bk n 50 [l0, l1] (.inl 1 :: st) w := rfl
theorem E88_50 (x : Int) (l0 l1 : Option jV) (w : jH) : jblk jT0 88 cl bk (n + 1) 50 [l0, l1] [.inl x] w = if jfits .boolean x = true then some (.inl (some (.inl x)), w) else none := rfl
theorem E88_51 (a : Nat) (st : List jV) (l1 : Option jV) (w : jH) : jblk jT0 88 cl bk (n + 1) 51 [some (jr a), l1] st w = jblk jT0 88 cl bk n 52 [some (jr a), l1] (jr a :: st) w := rfl
theorem E88_52 (st : List jV) (l0 l1 : Option jV) (w : jH) : jblk jT0 88 cl bk (n + 1) 52 [l0, l1] st w = jblk jT0 88 cl bk n 54 [l0, l1] (.inl 59 :: st) w := rfl
theorem E88_54 (a : Nat) (v0 : jV) (st : List jV) (l0 l1 : Option jV) (w : jH) : jblk jT0 88 cl bk (n + 1) 54 [l0, l1] (v0 :: jr a :: st) w = jsh st (jgo w a 5 fun _ => jcl (cl 93 [jr a, v0] w) (fun v w' => jblk jT0 88 cl bk n 57 [l0, l1] (jpush v st) w') (fun E w' => some (.inr E, w'))) := rfl
theorem E88_57 (x : Int) (st : List jV) (l0 l1 : Option jV) (w : jH) : jblk jT0 88 cl bk (n + 1) 57 [l0, l1] (.inl x :: st) w = if x = 0 then jblk jT0 88 cl bk n 60 [l0, l1] st w else jblk jT0 88 cl bk n 62 [l0, l1] st w := rfl
theorem E88_60 (st : List jV) (l0 l1 : Option jV) (w : jH) : jblk jT0 88 cl bk (n + 1) 60 [l0, l1] st w = jblk jT0 88 cl bk n 61 [l0, l1] (.inl 0 :: st) w := rfl
theorem E88_61 (x : Int) (l0 l1 : Option jV) (w : jH) : jblk jT0 88 cl bk (n + 1) 61 [l0, l1] [.inl x] w = if jfits .boolean x = true then some (.inl (some (.inl x)), w) else none := rfl
theorem E88_62 (x : Int) (st : List jV) (l0 : Option jV) (w : jH) : jblk jT0 88 cl bk (n + 1) 62 [l0, some (.inl x)] st w = jblk jT0 88 cl bk n 65 [l0, some (.inl (jw (x + 1)))] st w := rfl
theorem E88_65 (st : List jV) (l0 l1 : Option jV) (w : jH) : jblk jT0 88 cl bk (n + 1) 65 [l0, l1] st w = bk 12 [l0, l1] st w := rfl
theorem E88_68 (st : List jV) (l0 l1 : Option jV) (w : jH) : jblk jT0 88 cl bk (n + 1) 68 [l0, l1] st w = jblk jT0 88 cl bk n 69 [l0, l1] (.inl 0 :: st) w := rfl
theorem E88_69 (x : Int) (l0 l1 : Option jV) (w : jH) : jblk jT0 88 cl bk (n + 1) 69 [l0, l1] [.inl x] w = if jfits .boolean x = true then some (.inl (some (.inl x)), w) else none := rfl
theorem E89_0 (x : Int) (st : List jV) (l0 l2 : Option jV) (w : jH) : jblk jT0 89 cl bk (n + 1) 0 [l0, some (.inl x), l2] st w = jblk jT0 89 cl bk n 1 [l0, some (.inl x), l2] (.inl x :: st) w := rfl
theorem E89_1 (x : Int) (st : List jV) (l0 l1 l2 : Option jV) (w : jH) : jblk jT0 89 cl bk (n + 1) 1 [l0, l1, l2] (.inl x :: st) w = if x < 0 then jblk jT0 89 cl bk n 10 [l0, l1, l2] st w else jblk jT0 89 cl bk n 4 [l0, l1, l2] st w := rfl
theorem E89_4 (x : Int) (st : List jV) (l0 l2 : Option jV) (w : jH) : jblk jT0 89 cl bk (n + 1) 4 [l0, some (.inl x), l2] st w = jblk jT0 89 cl bk n 5 [l0, some (.inl x), l2] (.inl x :: st) w := rfl
theorem E89_5 (st : List jV) (l0 l1 l2 : Option jV) (w : jH) : jblk jT0 89 cl bk (n + 1) 5 [l0, l1, l2] st w = jblk jT0 89 cl bk n 7 [l0, l1, l2] (.inl 60 :: st) w := rfl
theorem E89_7 (x : Int) (y : Int) (st : List jV) (l0 l1 l2 : Option jV) (w : jH) : jblk jT0 89 cl bk (n + 1) 7 [l0, l1, l2] (.inl y :: .inl x :: st) w = if x < y then jblk jT0 89 cl bk n 12 [l0, l1, l2] st w else jblk jT0 89 cl bk n 10 [l0, l1, l2] st w := rfl
theorem E89_10 (st : List jV) (l0 l1 l2 : Option jV) (w : jH) : jblk jT0 89 cl bk (n + 1) 10 [l0, l1, l2] st w = jblk jT0 89 cl bk n 11 [l0, l1, l2] (.inl 0 :: st) w := rfl
theorem E89_11 (x : Int) (l0 l1 l2 : Option jV) (w : jH) : jblk jT0 89 cl bk (n + 1) 11 [l0, l1, l2] [.inl x] w = if jfits .boolean x = true then some (.inl (some (.inl x)), w) else none := rfl
theorem E89_12 (a : Nat) (st : List jV) (l1 l2 : Option jV) (w : jH) : jblk jT0 89 cl bk (n + 1) 12 [some (jr a), l1, l2] st w = jblk jT0 89 cl bk n 13 [some (jr a), l1, l2] (jr a :: st) w := rfl
theorem E89_13 (a : Nat) (st : List jV) (l0 l1 l2 : Option jV) (w : jH) : jblk jT0 89 cl bk (n + 1) 13 [l0, l1, l2] (jr a :: st) w = jsh st (jgo w a 5 fun _ => jcl (cl 94 [jr a] w) (fun v w' => jblk jT0 89 cl bk n 16 [l0, l1, l2] (jpush v st) w') (fun E w' => some (.inr E, w'))) := rfl
theorem E89_16 (x : Int) (st : List jV) (l0 l1 l2 : Option jV) (w : jH) : jblk jT0 89 cl bk (n + 1) 16 [l0, l1, l2] (.inl x :: st) w = jblk jT0 89 cl bk n 17 [l0, l1, some (.inl x)] st w := rfl
theorem E89_17 (x : Int) (st : List jV) (l0 l1 : Option jV) (w : jH) : jblk jT0 89 cl bk (n + 1) 17 [l0, l1, some (.inl x)] st w = jsh st (jblk jT0 89 cl bk n 23 [l0, l1, some (.inl x)] (.inl (jidx x) :: st) w) := rfl
theorem E89_23 (x : Int) (st : List jV) (l0 l1 l2 : Option jV) (w : jH) : jblk jT0 89 cl bk (n + 1) 23 [l0, l1, l2] (.inl x :: st) w = if x < 0 then jblk jT0 89 cl bk n 26 [l0, l1, l2] st w else jblk jT0 89 cl bk n 28 [l0, l1, l2] st w := rfl
theorem E89_26 (st : List jV) (l0 l1 l2 : Option jV) (w : jH) : jblk jT0 89 cl bk (n + 1) 26 [l0, l1, l2] st w = jblk jT0 89 cl bk n 27 [l0, l1, l2] (.inl 0 :: st) w := rfl
theorem E89_27 (x : Int) (l0 l1 l2 : Option jV) (w : jH) : jblk jT0 89 cl bk (n + 1) 27 [l0, l1, l2] [.inl x] w = if jfits .boolean x = true then some (.inl (some (.inl x)), w) else none := rfl
theorem E89_28 (a : Nat) (st : List jV) (l1 l2 : Option jV) (w : jH) : jblk jT0 89 cl bk (n + 1) 28 [some (jr a), l1, l2] st w = jblk jT0 89 cl bk n 29 [some (jr a), l1, l2] (jr a :: st) w := rfl
theorem E89_29_0 (x : Int) (st : List jV) (l0 l1 l2 : Option jV) (w : jH) : jblk jT0 89 cl bk (n + 1) 29 [l0, l1, l2] (.inl x :: st) w = jblk jT0 89 cl bk n 30 [l0, l1, l2] (.inl x :: .inl x :: st) w := rfl
theorem E89_29_1 (a : Nat) (st : List jV) (l0 l1 l2 : Option jV) (w : jH) : jblk jT0 89 cl bk (n + 1) 29 [l0, l1, l2] (jr a :: st) w = jblk jT0 89 cl bk n 30 [l0, l1, l2] (jr a :: jr a :: st) w := rfl
theorem E89_30 (a : Nat) (st : List jV) (l0 l1 l2 : Option jV) (w : jH) : jblk jT0 89 cl bk (n + 1) 30 [l0, l1, l2] (jr a :: st) w = jgf w a 5 2 fun v => jblk jT0 89 cl bk n 33 [l0, l1, l2] (v :: st) w := rfl
theorem E89_33 (st : List jV) (l0 l1 l2 : Option jV) (w : jH) : jblk jT0 89 cl bk (n + 1) 33 [l0, l1, l2] st w = jblk jT0 89 cl bk n 34 [l0, l1, l2] (.inl 1 :: st) w := rfl
theorem E89_34 (x : Int) (y : Int) (st : List jV) (l0 l1 l2 : Option jV) (w : jH) : jblk jT0 89 cl bk (n + 1) 34 [l0, l1, l2] (.inl y :: .inl x :: st) w = jblk jT0 89 cl bk n 35 [l0, l1, l2] (.inl (jw (x + y)) :: st) w := rfl
theorem E89_35 (a : Nat) (v : jV) (st : List jV) (l0 l1 l2 : Option jV) (w : jH) : jblk jT0 89 cl bk (n + 1) 35 [l0, l1, l2] (v :: jr a :: st) w = jpf w a 5 2 .int v fun w' => jblk jT0 89 cl bk n 38 [l0, l1, l2] st w' := rfl
theorem E89_38 (a : Nat) (st : List jV) (l1 l2 : Option jV) (w : jH) : jblk jT0 89 cl bk (n + 1) 38 [some (jr a), l1, l2] st w = jblk jT0 89 cl bk n 39 [some (jr a), l1, l2] (jr a :: st) w := rfl
theorem E89_39 (a : Nat) (st : List jV) (l0 l1 l2 : Option jV) (w : jH) : jblk jT0 89 cl bk (n + 1) 39 [l0, l1, l2] (jr a :: st) w = jgf w a 5 3 fun v => jblk jT0 89 cl bk n 42 [l0, l1, l2] (v :: st) w := rfl
theorem E89_42 (x : Int) (st : List jV) (l0 l2 : Option jV) (w : jH) : jblk jT0 89 cl bk (n + 1) 42 [l0, some (.inl x), l2] st w = jblk jT0 89 cl bk n 43 [l0, some (.inl x), l2] (.inl x :: st) w := rfl
theorem E89_43 (x : Int) (st : List jV) (l0 l1 : Option jV) (w : jH) : jblk jT0 89 cl bk (n + 1) 43 [l0, l1, some (.inl x)] st w = jblk jT0 89 cl bk n 44 [l0, l1, some (.inl x)] (.inl x :: st) w := rfl
theorem E89_44 (x : Int) (y : Int) (a : Nat) (st : List jV) (l0 l1 l2 : Option jV) (w : jH) : jblk jT0 89 cl bk (n + 1) 44 [l0, l1, l2] (.inl y :: .inl x :: jr a :: st) w = jai w a .int x y fun w' => jblk jT0 89 cl bk n 45 [l0, l1, l2] st w' := rfl
theorem E89_45 (a : Nat) (st : List jV) (l1 l2 : Option jV) (w : jH) : jblk jT0 89 cl bk (n + 1) 45 [some (jr a), l1, l2] st w = jblk jT0 89 cl bk n 46 [some (jr a), l1, l2] (jr a :: st) w := rfl
theorem E89_46 (a : Nat) (st : List jV) (l0 l1 l2 : Option jV) (w : jH) : jblk jT0 89 cl bk (n + 1) 46 [l0, l1, l2] (jr a :: st) w = jgf w a 5 3 fun v => jblk jT0 89 cl bk n 49 [l0, l1, l2] (v :: st) w := rfl
theorem E89_49 (x : Int) (st : List jV) (l0 l2 : Option jV) (w : jH) : jblk jT0 89 cl bk (n + 1) 49 [l0, some (.inl x), l2] st w = jblk jT0 89 cl bk n 50 [l0, some (.inl x), l2] (.inl x :: st) w := rfl
theorem E89_50 (x : Int) (a : Nat) (st : List jV) (l0 l1 l2 : Option jV) (w : jH) : jblk jT0 89 cl bk (n + 1) 50 [l0, l1, l2] (.inl x :: jr a :: st) w = jlda w a x (fun z => jblk jT0 89 cl bk n 51 [l0, l1, l2] (.inl z :: st) w) := rfl
theorem E89_51 (x : Int) (st : List jV) (l0 l1 l2 : Option jV) (w : jH) : jblk jT0 89 cl bk (n + 1) 51 [l0, l1, l2] (.inl x :: st) w = if x = 97 then jblk jT0 89 cl bk n 121 [l0, l1, l2] st w else if x = 102 then jblk jT0 89 cl bk n 92 [l0, l1, l2] st w else if x = 103 then jblk jT0 89 cl bk n 174 [l0, l1, l2] st w else if x = 121 then jblk jT0 89 cl bk n 94 [l0, l1, l2] st w else jblk jT0 89 cl bk n 219 [l0, l1, l2] st w := by
  refine (show _ = (fun off : Int => (match Nat.blt 51 (jtgt 51 off) && !(jct 89 (jtgt 51 off)) with | true => jblk jT0 89 cl bk n (jtgt 51 off) [l0, l1, l2] st w | false => bk (jtgt 51 off) [l0, l1, l2] st w)) (Op.lookupswitch.offset [(97, 70), (102, 41), (103, 123), (121, 43)] 168 x) from rfl).trans ?_
  refine (lsw_cons (fun off : Int => (match Nat.blt 51 (jtgt 51 off) && !(jct 89 (jtgt 51 off)) with | true => jblk jT0 89 cl bk n (jtgt 51 off) [l0, l1, l2] st w | false => bk (jtgt 51 off) [l0, l1, l2] st w)) _ _ _ _ _).trans (ite_congr rfl (fun _ => rfl) (fun _ => ?_))
  refine (lsw_cons (fun off : Int => (match Nat.blt 51 (jtgt 51 off) && !(jct 89 (jtgt 51 off)) with | true => jblk jT0 89 cl bk n (jtgt 51 off) [l0, l1, l2] st w | false => bk (jtgt 51 off) [l0, l1, l2] st w)) _ _ _ _ _).trans (ite_congr rfl (fun _ => rfl) (fun _ => ?_))
  refine (lsw_cons (fun off : Int => (match Nat.blt 51 (jtgt 51 off) && !(jct 89 (jtgt 51 off)) with | true => jblk jT0 89 cl bk n (jtgt 51 off) [l0, l1, l2] st w | false => bk (jtgt 51 off) [l0, l1, l2] st w)) _ _ _ _ _).trans (ite_congr rfl (fun _ => rfl) (fun _ => ?_))
  refine (lsw_cons (fun off : Int => (match Nat.blt 51 (jtgt 51 off) && !(jct 89 (jtgt 51 off)) with | true => jblk jT0 89 cl bk n (jtgt 51 off) [l0, l1, l2] st w | false => bk (jtgt 51 off) [l0, l1, l2] st w)) _ _ _ _ _).trans (ite_congr rfl (fun _ => rfl) (fun _ => ?_))
  rfl
theorem E89_92 (st : List jV) (l0 l1 l2 : Option jV) (w : jH) : jblk jT0 89 cl bk (n + 1) 92 [l0, l1, l2] st w = jblk jT0 89 cl bk n 93 [l0, l1, l2] (.inl 1 :: st) w := rfl
theorem E89_93 (x : Int) (l0 l1 l2 : Option jV) (w : jH) : jblk jT0 89 cl bk (n + 1) 93 [l0, l1, l2] [.inl x] w = if jfits .boolean x = true then some (.inl (some (.inl x)), w) else none := rfl
theorem E89_94 (a : Nat) (st : List jV) (l1 l2 : Option jV) (w : jH) : jblk jT0 89 cl bk (n + 1) 94 [some (jr a), l1, l2] st w = jblk jT0 89 cl bk n 95 [some (jr a), l1, l2] (jr a :: st) w := rfl
theorem E89_95 (a : Nat) (st : List jV) (l0 l1 l2 : Option jV) (w : jH) : jblk jT0 89 cl bk (n + 1) 95 [l0, l1, l2] (jr a :: st) w = jgf w a 5 4 fun v => jblk jT0 89 cl bk n 98 [l0, l1, l2] (v :: st) w := rfl
theorem E89_98 (x : Int) (st : List jV) (l0 l2 : Option jV) (w : jH) : jblk jT0 89 cl bk (n + 1) 98 [l0, some (.inl x), l2] st w = jblk jT0 89 cl bk n 99 [l0, some (.inl x), l2] (.inl x :: st) w := rfl
theorem E89_99 (a : Nat) (st : List jV) (l1 l2 : Option jV) (w : jH) : jblk jT0 89 cl bk (n + 1) 99 [some (jr a), l1, l2] st w = jblk jT0 89 cl bk n 100 [some (jr a), l1, l2] (jr a :: st) w := rfl
theorem E89_100 (st : List jV) (l0 l1 l2 : Option jV) (w : jH) : jblk jT0 89 cl bk (n + 1) 100 [l0, l1, l2] st w = jblk jT0 89 cl bk n 101 [l0, l1, l2] (.inl 1 :: st) w := rfl
theorem E89_101 (a : Nat) (v0 : jV) (st : List jV) (l0 l1 l2 : Option jV) (w : jH) : jblk jT0 89 cl bk (n + 1) 101 [l0, l1, l2] (v0 :: jr a :: st) w = jsh st (jgo w a 5 fun _ => jcl (cl 91 [jr a, v0] w) (fun v w' => jblk jT0 89 cl bk n 104 [l0, l1, l2] (jpush v st) w') (fun E w' => some (.inr E, w'))) := rfl
theorem E89_104 (x : Int) (y : Int) (a : Nat) (st : List jV) (l0 l1 l2 : Option jV) (w : jH) : jblk jT0 89 cl bk (n + 1) 104 [l0, l1, l2] (.inl y :: .inl x :: jr a :: st) w = jai w a .int x y fun w' => jblk jT0 89 cl bk n 105 [l0, l1, l2] st w' := rfl
theorem E89_105 (a : Nat) (st : List jV) (l1 l2 : Option jV) (w : jH) : jblk jT0 89 cl bk (n + 1) 105 [some (jr a), l1, l2] st w = jblk jT0 89 cl bk n 106 [some (jr a), l1, l2] (jr a :: st) w := rfl
theorem E89_106 (a : Nat) (st : List jV) (l0 l1 l2 : Option jV) (w : jH) : jblk jT0 89 cl bk (n + 1) 106 [l0, l1, l2] (jr a :: st) w = jgf w a 5 4 fun v => jblk jT0 89 cl bk n 109 [l0, l1, l2] (v :: st) w := rfl
theorem E89_109 (x : Int) (st : List jV) (l0 l2 : Option jV) (w : jH) : jblk jT0 89 cl bk (n + 1) 109 [l0, some (.inl x), l2] st w = jblk jT0 89 cl bk n 110 [l0, some (.inl x), l2] (.inl x :: st) w := rfl
theorem E89_110 (x : Int) (a : Nat) (st : List jV) (l0 l1 l2 : Option jV) (w : jH) : jblk jT0 89 cl bk (n + 1) 110 [l0, l1, l2] (.inl x :: jr a :: st) w = jlda w a x (fun z => jblk jT0 89 cl bk n 111 [l0, l1, l2] (.inl z :: st) w) := rfl
theorem E89_111 (st : List jV) (l0 l1 l2 : Option jV) (w : jH) : jblk jT0 89 cl bk (n + 1) 111 [l0, l1, l2] st w = jblk jT0 89 cl bk n 112 [l0, l1, l2] (.inl (-1) :: st) w := rfl
theorem E89_112 (x : Int) (y : Int) (st : List jV) (l0 l1 l2 : Option jV) (w : jH) : jblk jT0 89 cl bk (n + 1) 112 [l0, l1, l2] (.inl y :: .inl x :: st) w = if x = y then jblk jT0 89 cl bk n 119 [l0, l1, l2] st w else jblk jT0 89 cl bk n 115 [l0, l1, l2] st w := rfl
theorem E89_115 (st : List jV) (l0 l1 l2 : Option jV) (w : jH) : jblk jT0 89 cl bk (n + 1) 115 [l0, l1, l2] st w = jblk jT0 89 cl bk n 116 [l0, l1, l2] (.inl 1 :: st) w := rfl
theorem E89_116 (st : List jV) (l0 l1 l2 : Option jV) (w : jH) : jblk jT0 89 cl bk (n + 1) 116 [l0, l1, l2] st w = jblk jT0 89 cl bk n 120 [l0, l1, l2] st w := rfl
theorem E89_119 (st : List jV) (l0 l1 l2 : Option jV) (w : jH) : jblk jT0 89 cl bk (n + 1) 119 [l0, l1, l2] st w = jblk jT0 89 cl bk n 120 [l0, l1, l2] (.inl 0 :: st) w := rfl
theorem E89_120 (x : Int) (l0 l1 l2 : Option jV) (w : jH) : jblk jT0 89 cl bk (n + 1) 120 [l0, l1, l2] [.inl x] w = if jfits .boolean x = true then some (.inl (some (.inl x)), w) else none := rfl
theorem E89_121 (a : Nat) (st : List jV) (l1 l2 : Option jV) (w : jH) : jblk jT0 89 cl bk (n + 1) 121 [some (jr a), l1, l2] st w = jblk jT0 89 cl bk n 122 [some (jr a), l1, l2] (jr a :: st) w := rfl
theorem E89_122 (a : Nat) (st : List jV) (l0 l1 l2 : Option jV) (w : jH) : jblk jT0 89 cl bk (n + 1) 122 [l0, l1, l2] (jr a :: st) w = jgf w a 5 4 fun v => jblk jT0 89 cl bk n 125 [l0, l1, l2] (v :: st) w := rfl
theorem E89_125 (x : Int) (st : List jV) (l0 l2 : Option jV) (w : jH) : jblk jT0 89 cl bk (n + 1) 125 [l0, some (.inl x), l2] st w = jblk jT0 89 cl bk n 126 [l0, some (.inl x), l2] (.inl x :: st) w := rfl
theorem E89_126 (a : Nat) (st : List jV) (l1 l2 : Option jV) (w : jH) : jblk jT0 89 cl bk (n + 1) 126 [some (jr a), l1, l2] st w = jblk jT0 89 cl bk n 127 [some (jr a), l1, l2] (jr a :: st) w := rfl
theorem E89_127 (st : List jV) (l0 l1 l2 : Option jV) (w : jH) : jblk jT0 89 cl bk (n + 1) 127 [l0, l1, l2] st w = jblk jT0 89 cl bk n 128 [l0, l1, l2] (.inl 2 :: st) w := rfl
theorem E89_128 (a : Nat) (v0 : jV) (st : List jV) (l0 l1 l2 : Option jV) (w : jH) : jblk jT0 89 cl bk (n + 1) 128 [l0, l1, l2] (v0 :: jr a :: st) w = jsh st (jgo w a 5 fun _ => jcl (cl 91 [jr a, v0] w) (fun v w' => jblk jT0 89 cl bk n 131 [l0, l1, l2] (jpush v st) w') (fun E w' => some (.inr E, w'))) := rfl
theorem E89_131 (x : Int) (y : Int) (a : Nat) (st : List jV) (l0 l1 l2 : Option jV) (w : jH) : jblk jT0 89 cl bk (n + 1) 131 [l0, l1, l2] (.inl y :: .inl x :: jr a :: st) w = jai w a .int x y fun w' => jblk jT0 89 cl bk n 132 [l0, l1, l2] st w' := rfl
theorem E89_132 (a : Nat) (st : List jV) (l1 l2 : Option jV) (w : jH) : jblk jT0 89 cl bk (n + 1) 132 [some (jr a), l1, l2] st w = jblk jT0 89 cl bk n 133 [some (jr a), l1, l2] (jr a :: st) w := rfl
theorem E89_133 (a : Nat) (st : List jV) (l0 l1 l2 : Option jV) (w : jH) : jblk jT0 89 cl bk (n + 1) 133 [l0, l1, l2] (jr a :: st) w = jgf w a 5 5 fun v => jblk jT0 89 cl bk n 136 [l0, l1, l2] (v :: st) w := rfl
theorem E89_136 (x : Int) (st : List jV) (l0 l2 : Option jV) (w : jH) : jblk jT0 89 cl bk (n + 1) 136 [l0, some (.inl x), l2] st w = jblk jT0 89 cl bk n 137 [l0, some (.inl x), l2] (.inl x :: st) w := rfl
theorem E89_137 (a : Nat) (st : List jV) (l1 l2 : Option jV) (w : jH) : jblk jT0 89 cl bk (n + 1) 137 [some (jr a), l1, l2] st w = jblk jT0 89 cl bk n 138 [some (jr a), l1, l2] (jr a :: st) w := rfl
theorem E89_138 (a : Nat) (st : List jV) (l0 l1 l2 : Option jV) (w : jH) : jblk jT0 89 cl bk (n + 1) 138 [l0, l1, l2] (jr a :: st) w = jsh st (jgo w a 5 fun _ => jcl (cl 94 [jr a] w) (fun v w' => jblk jT0 89 cl bk n 141 [l0, l1, l2] (jpush v st) w') (fun E w' => some (.inr E, w'))) := rfl
theorem E89_141 (x : Int) (y : Int) (a : Nat) (st : List jV) (l0 l1 l2 : Option jV) (w : jH) : jblk jT0 89 cl bk (n + 1) 141 [l0, l1, l2] (.inl y :: .inl x :: jr a :: st) w = jai w a .char x y fun w' => jblk jT0 89 cl bk n 142 [l0, l1, l2] st w' := rfl
theorem E89_142 (a : Nat) (st : List jV) (l1 l2 : Option jV) (w : jH) : jblk jT0 89 cl bk (n + 1) 142 [some (jr a), l1, l2] st w = jblk jT0 89 cl bk n 143 [some (jr a), l1, l2] (jr a :: st) w := rfl
theorem E89_143 (a : Nat) (st : List jV) (l0 l1 l2 : Option jV) (w : jH) : jblk jT0 89 cl bk (n + 1) 143 [l0, l1, l2] (jr a :: st) w = jgf w a 5 4 fun v => jblk jT0 89 cl bk n 146 [l0, l1, l2] (v :: st) w := rfl
theorem E89_146 (x : Int) (st : List jV) (l0 l2 : Option jV) (w : jH) : jblk jT0 89 cl bk (n + 1) 146 [l0, some (.inl x), l2] st w = jblk jT0 89 cl bk n 147 [l0, some (.inl x), l2] (.inl x :: st) w := rfl
theorem E89_147 (x : Int) (a : Nat) (st : List jV) (l0 l1 l2 : Option jV) (w : jH) : jblk jT0 89 cl bk (n + 1) 147 [l0, l1, l2] (.inl x :: jr a :: st) w = jlda w a x (fun z => jblk jT0 89 cl bk n 148 [l0, l1, l2] (.inl z :: st) w) := rfl
theorem E89_148 (st : List jV) (l0 l1 l2 : Option jV) (w : jH) : jblk jT0 89 cl bk (n + 1) 148 [l0, l1, l2] st w = jblk jT0 89 cl bk n 149 [l0, l1, l2] (.inl (-1) :: st) w := rfl
theorem E89_149 (x : Int) (y : Int) (st : List jV) (l0 l1 l2 : Option jV) (w : jH) : jblk jT0 89 cl bk (n + 1) 149 [l0, l1, l2] (.inl y :: .inl x :: st) w = if x = y then jblk jT0 89 cl bk n 172 [l0, l1, l2] st w else jblk jT0 89 cl bk n 152 [l0, l1, l2] st w := rfl
theorem E89_152 (a : Nat) (st : List jV) (l1 l2 : Option jV) (w : jH) : jblk jT0 89 cl bk (n + 1) 152 [some (jr a), l1, l2] st w = jblk jT0 89 cl bk n 153 [some (jr a), l1, l2] (jr a :: st) w := rfl
theorem E89_153 (a : Nat) (st : List jV) (l0 l1 l2 : Option jV) (w : jH) : jblk jT0 89 cl bk (n + 1) 153 [l0, l1, l2] (jr a :: st) w = jsh st (jgo w a 5 fun _ => jcl (cl 92 [jr a] w) (fun v w' => jblk jT0 89 cl bk n 156 [l0, l1, l2] (jpush v st) w') (fun E w' => some (.inr E, w'))) := rfl
theorem E89_156 (x : Int) (st : List jV) (l0 l1 l2 : Option jV) (w : jH) : jblk jT0 89 cl bk (n + 1) 156 [l0, l1, l2] (.inl x :: st) w = if x = 0 then jblk jT0 89 cl bk n 172 [l0, l1, l2] st w else jblk jT0 89 cl bk n 159 [l0, l1, l2] st w := rfl
theorem E89_159 (a : Nat) (st : List jV) (l1 l2 : Option jV) (w : jH) : jblk jT0 89 cl bk (n + 1) 159 [some (jr a), l1, l2] st w = jblk jT0 89 cl bk n 160 [some (jr a), l1, l2] (jr a :: st) w := rfl
theorem E89_160 (x : Int) (st : List jV) (l0 l2 : Option jV) (w : jH) : jblk jT0 89 cl bk (n + 1) 160 [l0, some (.inl x), l2] st w = jblk jT0 89 cl bk n 161 [l0, some (.inl x), l2] (.inl x :: st) w := rfl
theorem E89_161 (st : List jV) (l0 l1 l2 : Option jV) (w : jH) : jblk jT0 89 cl bk (n + 1) 161 [l0, l1, l2] st w = jblk jT0 89 cl bk n 162 [l0, l1, l2] (.inl 1 :: st) w := rfl
theorem E89_162 (a : Nat) (v0 : jV) (v1 : jV) (st : List jV) (l0 l1 l2 : Option jV) (w : jH) : jblk jT0 89 cl bk (n + 1) 162 [l0, l1, l2] (v1 :: v0 :: jr a :: st) w = jsh st (jgo w a 5 fun _ => jcl (cl 90 [jr a, v0, v1] w) (fun v w' => jblk jT0 89 cl bk n 165 [l0, l1, l2] (jpush v st) w') (fun E w' => some (.inr E, w'))) := rfl
theorem E89_165 (x : Int) (st : List jV) (l0 l1 l2 : Option jV) (w : jH) : jblk jT0 89 cl bk (n + 1) 165 [l0, l1, l2] (.inl x :: st) w = if x = 0 then jblk jT0 89 cl bk n 172 [l0, l1, l2] st w else jblk jT0 89 cl bk n 168 [l0, l1, l2] st w := rfl
theorem E89_168 (st : List jV) (l0 l1 l2 : Option jV) (w : jH) : jblk jT0 89 cl bk (n + 1) 168 [l0, l1, l2] st w = jblk jT0 89 cl bk n 169 [l0, l1, l2] (.inl 1 :: st) w := rfl
theorem E89_169 (st : List jV) (l0 l1 l2 : Option jV) (w : jH) : jblk jT0 89 cl bk (n + 1) 169 [l0, l1, l2] st w = jblk jT0 89 cl bk n 173 [l0, l1, l2] st w := rfl
theorem E89_172 (st : List jV) (l0 l1 l2 : Option jV) (w : jH) : jblk jT0 89 cl bk (n + 1) 172 [l0, l1, l2] st w = jblk jT0 89 cl bk n 173 [l0, l1, l2] (.inl 0 :: st) w := rfl
theorem E89_173 (x : Int) (l0 l1 l2 : Option jV) (w : jH) : jblk jT0 89 cl bk (n + 1) 173 [l0, l1, l2] [.inl x] w = if jfits .boolean x = true then some (.inl (some (.inl x)), w) else none := rfl
theorem E89_174 (a : Nat) (st : List jV) (l1 l2 : Option jV) (w : jH) : jblk jT0 89 cl bk (n + 1) 174 [some (jr a), l1, l2] st w = jblk jT0 89 cl bk n 175 [some (jr a), l1, l2] (jr a :: st) w := rfl
theorem E89_175 (a : Nat) (st : List jV) (l0 l1 l2 : Option jV) (w : jH) : jblk jT0 89 cl bk (n + 1) 175 [l0, l1, l2] (jr a :: st) w = jgf w a 5 4 fun v => jblk jT0 89 cl bk n 178 [l0, l1, l2] (v :: st) w := rfl
theorem E89_178 (x : Int) (st : List jV) (l0 l2 : Option jV) (w : jH) : jblk jT0 89 cl bk (n + 1) 178 [l0, some (.inl x), l2] st w = jblk jT0 89 cl bk n 179 [l0, some (.inl x), l2] (.inl x :: st) w := rfl
theorem E89_179 (a : Nat) (st : List jV) (l1 l2 : Option jV) (w : jH) : jblk jT0 89 cl bk (n + 1) 179 [some (jr a), l1, l2] st w = jblk jT0 89 cl bk n 180 [some (jr a), l1, l2] (jr a :: st) w := rfl
theorem E89_180 (st : List jV) (l0 l1 l2 : Option jV) (w : jH) : jblk jT0 89 cl bk (n + 1) 180 [l0, l1, l2] st w = jblk jT0 89 cl bk n 181 [l0, l1, l2] (.inl 2 :: st) w := rfl
theorem E89_181 (a : Nat) (v0 : jV) (st : List jV) (l0 l1 l2 : Option jV) (w : jH) : jblk jT0 89 cl bk (n + 1) 181 [l0, l1, l2] (v0 :: jr a :: st) w = jsh st (jgo w a 5 fun _ => jcl (cl 91 [jr a, v0] w) (fun v w' => jblk jT0 89 cl bk n 184 [l0, l1, l2] (jpush v st) w') (fun E w' => some (.inr E, w'))) := rfl
theorem E89_184 (x : Int) (y : Int) (a : Nat) (st : List jV) (l0 l1 l2 : Option jV) (w : jH) : jblk jT0 89 cl bk (n + 1) 184 [l0, l1, l2] (.inl y :: .inl x :: jr a :: st) w = jai w a .int x y fun w' => jblk jT0 89 cl bk n 185 [l0, l1, l2] st w' := rfl
theorem E89_185 (a : Nat) (st : List jV) (l1 l2 : Option jV) (w : jH) : jblk jT0 89 cl bk (n + 1) 185 [some (jr a), l1, l2] st w = jblk jT0 89 cl bk n 186 [some (jr a), l1, l2] (jr a :: st) w := rfl
theorem E89_186 (a : Nat) (st : List jV) (l0 l1 l2 : Option jV) (w : jH) : jblk jT0 89 cl bk (n + 1) 186 [l0, l1, l2] (jr a :: st) w = jgf w a 5 4 fun v => jblk jT0 89 cl bk n 189 [l0, l1, l2] (v :: st) w := rfl
theorem E89_189 (x : Int) (st : List jV) (l0 l2 : Option jV) (w : jH) : jblk jT0 89 cl bk (n + 1) 189 [l0, some (.inl x), l2] st w = jblk jT0 89 cl bk n 190 [l0, some (.inl x), l2] (.inl x :: st) w := rfl
theorem E89_190 (x : Int) (a : Nat) (st : List jV) (l0 l1 l2 : Option jV) (w : jH) : jblk jT0 89 cl bk (n + 1) 190 [l0, l1, l2] (.inl x :: jr a :: st) w = jlda w a x (fun z => jblk jT0 89 cl bk n 191 [l0, l1, l2] (.inl z :: st) w) := rfl
theorem E89_191 (st : List jV) (l0 l1 l2 : Option jV) (w : jH) : jblk jT0 89 cl bk (n + 1) 191 [l0, l1, l2] st w = jblk jT0 89 cl bk n 192 [l0, l1, l2] (.inl (-1) :: st) w := rfl
theorem E89_192 (x : Int) (y : Int) (st : List jV) (l0 l1 l2 : Option jV) (w : jH) : jblk jT0 89 cl bk (n + 1) 192 [l0, l1, l2] (.inl y :: .inl x :: st) w = if x = y then jblk jT0 89 cl bk n 217 [l0, l1, l2] st w else jblk jT0 89 cl bk n 195 [l0, l1, l2] st w := rfl
theorem E89_195 (a : Nat) (st : List jV) (l1 l2 : Option jV) (w : jH) : jblk jT0 89 cl bk (n + 1) 195 [some (jr a), l1, l2] st w = jblk jT0 89 cl bk n 196 [some (jr a), l1, l2] (jr a :: st) w := rfl
theorem E89_196 (st : List jV) (l0 l1 l2 : Option jV) (w : jH) : jblk jT0 89 cl bk (n + 1) 196 [l0, l1, l2] st w = jblk jT0 89 cl bk n 198 [l0, l1, l2] (.inl 62 :: st) w := rfl
theorem E89_198 (a : Nat) (v0 : jV) (st : List jV) (l0 l1 l2 : Option jV) (w : jH) : jblk jT0 89 cl bk (n + 1) 198 [l0, l1, l2] (v0 :: jr a :: st) w = jsh st (jgo w a 5 fun _ => jcl (cl 93 [jr a, v0] w) (fun v w' => jblk jT0 89 cl bk n 201 [l0, l1, l2] (jpush v st) w') (fun E w' => some (.inr E, w'))) := rfl
theorem E89_201 (x : Int) (st : List jV) (l0 l1 l2 : Option jV) (w : jH) : jblk jT0 89 cl bk (n + 1) 201 [l0, l1, l2] (.inl x :: st) w = if x = 0 then jblk jT0 89 cl bk n 217 [l0, l1, l2] st w else jblk jT0 89 cl bk n 204 [l0, l1, l2] st w := rfl
theorem E89_204 (a : Nat) (st : List jV) (l1 l2 : Option jV) (w : jH) : jblk jT0 89 cl bk (n + 1) 204 [some (jr a), l1, l2] st w = jblk jT0 89 cl bk n 205 [some (jr a), l1, l2] (jr a :: st) w := rfl
theorem E89_205 (x : Int) (st : List jV) (l0 l2 : Option jV) (w : jH) : jblk jT0 89 cl bk (n + 1) 205 [l0, some (.inl x), l2] st w = jblk jT0 89 cl bk n 206 [l0, some (.inl x), l2] (.inl x :: st) w := rfl
theorem E89_206 (st : List jV) (l0 l1 l2 : Option jV) (w : jH) : jblk jT0 89 cl bk (n + 1) 206 [l0, l1, l2] st w = jblk jT0 89 cl bk n 207 [l0, l1, l2] (.inl 2 :: st) w := rfl
theorem E89_207 (a : Nat) (v0 : jV) (v1 : jV) (st : List jV) (l0 l1 l2 : Option jV) (w : jH) : jblk jT0 89 cl bk (n + 1) 207 [l0, l1, l2] (v1 :: v0 :: jr a :: st) w = jsh st (jgo w a 5 fun _ => jcl (cl 90 [jr a, v0, v1] w) (fun v w' => jblk jT0 89 cl bk n 210 [l0, l1, l2] (jpush v st) w') (fun E w' => some (.inr E, w'))) := rfl
theorem E89_210 (x : Int) (st : List jV) (l0 l1 l2 : Option jV) (w : jH) : jblk jT0 89 cl bk (n + 1) 210 [l0, l1, l2] (.inl x :: st) w = if x = 0 then jblk jT0 89 cl bk n 217 [l0, l1, l2] st w else jblk jT0 89 cl bk n 213 [l0, l1, l2] st w := rfl
theorem E89_213 (st : List jV) (l0 l1 l2 : Option jV) (w : jH) : jblk jT0 89 cl bk (n + 1) 213 [l0, l1, l2] st w = jblk jT0 89 cl bk n 214 [l0, l1, l2] (.inl 1 :: st) w := rfl
theorem E89_214 (st : List jV) (l0 l1 l2 : Option jV) (w : jH) : jblk jT0 89 cl bk (n + 1) 214 [l0, l1, l2] st w = jblk jT0 89 cl bk n 218 [l0, l1, l2] st w := rfl
theorem E89_217 (st : List jV) (l0 l1 l2 : Option jV) (w : jH) : jblk jT0 89 cl bk (n + 1) 217 [l0, l1, l2] st w = jblk jT0 89 cl bk n 218 [l0, l1, l2] (.inl 0 :: st) w := rfl
theorem E89_218 (x : Int) (l0 l1 l2 : Option jV) (w : jH) : jblk jT0 89 cl bk (n + 1) 218 [l0, l1, l2] [.inl x] w = if jfits .boolean x = true then some (.inl (some (.inl x)), w) else none := rfl
theorem E89_219 (a : Nat) (st : List jV) (l1 l2 : Option jV) (w : jH) : jblk jT0 89 cl bk (n + 1) 219 [some (jr a), l1, l2] st w = jblk jT0 89 cl bk n 220 [some (jr a), l1, l2] (jr a :: st) w := rfl
theorem E89_220 (a : Nat) (st : List jV) (l0 l1 l2 : Option jV) (w : jH) : jblk jT0 89 cl bk (n + 1) 220 [l0, l1, l2] (jr a :: st) w = jgf w a 5 4 fun v => jblk jT0 89 cl bk n 223 [l0, l1, l2] (v :: st) w := rfl
theorem E89_223 (x : Int) (st : List jV) (l0 l2 : Option jV) (w : jH) : jblk jT0 89 cl bk (n + 1) 223 [l0, some (.inl x), l2] st w = jblk jT0 89 cl bk n 224 [l0, some (.inl x), l2] (.inl x :: st) w := rfl
theorem E89_224 (a : Nat) (st : List jV) (l1 l2 : Option jV) (w : jH) : jblk jT0 89 cl bk (n + 1) 224 [some (jr a), l1, l2] st w = jblk jT0 89 cl bk n 225 [some (jr a), l1, l2] (jr a :: st) w := rfl
theorem E89_225 (st : List jV) (l0 l1 l2 : Option jV) (w : jH) : jblk jT0 89 cl bk (n + 1) 225 [l0, l1, l2] st w = jblk jT0 89 cl bk n 226 [l0, l1, l2] (.inl 2 :: st) w := rfl
theorem E89_226 (a : Nat) (v0 : jV) (st : List jV) (l0 l1 l2 : Option jV) (w : jH) : jblk jT0 89 cl bk (n + 1) 226 [l0, l1, l2] (v0 :: jr a :: st) w = jsh st (jgo w a 5 fun _ => jcl (cl 91 [jr a, v0] w) (fun v w' => jblk jT0 89 cl bk n 229 [l0, l1, l2] (jpush v st) w') (fun E w' => some (.inr E, w'))) := rfl
theorem E89_229 (x : Int) (y : Int) (a : Nat) (st : List jV) (l0 l1 l2 : Option jV) (w : jH) : jblk jT0 89 cl bk (n + 1) 229 [l0, l1, l2] (.inl y :: .inl x :: jr a :: st) w = jai w a .int x y fun w' => jblk jT0 89 cl bk n 230 [l0, l1, l2] st w' := rfl
theorem E89_230 (a : Nat) (st : List jV) (l1 l2 : Option jV) (w : jH) : jblk jT0 89 cl bk (n + 1) 230 [some (jr a), l1, l2] st w = jblk jT0 89 cl bk n 231 [some (jr a), l1, l2] (jr a :: st) w := rfl
theorem E89_231 (a : Nat) (st : List jV) (l0 l1 l2 : Option jV) (w : jH) : jblk jT0 89 cl bk (n + 1) 231 [l0, l1, l2] (jr a :: st) w = jgf w a 5 4 fun v => jblk jT0 89 cl bk n 234 [l0, l1, l2] (v :: st) w := rfl
theorem E89_234 (x : Int) (st : List jV) (l0 l2 : Option jV) (w : jH) : jblk jT0 89 cl bk (n + 1) 234 [l0, some (.inl x), l2] st w = jblk jT0 89 cl bk n 235 [l0, some (.inl x), l2] (.inl x :: st) w := rfl
theorem E89_235 (x : Int) (a : Nat) (st : List jV) (l0 l1 l2 : Option jV) (w : jH) : jblk jT0 89 cl bk (n + 1) 235 [l0, l1, l2] (.inl x :: jr a :: st) w = jlda w a x (fun z => jblk jT0 89 cl bk n 236 [l0, l1, l2] (.inl z :: st) w) := rfl
theorem E89_236 (st : List jV) (l0 l1 l2 : Option jV) (w : jH) : jblk jT0 89 cl bk (n + 1) 236 [l0, l1, l2] st w = jblk jT0 89 cl bk n 237 [l0, l1, l2] (.inl (-1) :: st) w := rfl
theorem E89_237 (x : Int) (y : Int) (st : List jV) (l0 l1 l2 : Option jV) (w : jH) : jblk jT0 89 cl bk (n + 1) 237 [l0, l1, l2] (.inl y :: .inl x :: st) w = if x = y then jblk jT0 89 cl bk n 244 [l0, l1, l2] st w else jblk jT0 89 cl bk n 240 [l0, l1, l2] st w := rfl
theorem E89_240 (st : List jV) (l0 l1 l2 : Option jV) (w : jH) : jblk jT0 89 cl bk (n + 1) 240 [l0, l1, l2] st w = jblk jT0 89 cl bk n 241 [l0, l1, l2] (.inl 1 :: st) w := rfl
theorem E89_241 (st : List jV) (l0 l1 l2 : Option jV) (w : jH) : jblk jT0 89 cl bk (n + 1) 241 [l0, l1, l2] st w = jblk jT0 89 cl bk n 245 [l0, l1, l2] st w := rfl
theorem E89_244 (st : List jV) (l0 l1 l2 : Option jV) (w : jH) : jblk jT0 89 cl bk (n + 1) 244 [l0, l1, l2] st w = jblk jT0 89 cl bk n 245 [l0, l1, l2] (.inl 0 :: st) w := rfl
theorem E89_245 (x : Int) (l0 l1 l2 : Option jV) (w : jH) : jblk jT0 89 cl bk (n + 1) 245 [l0, l1, l2] [.inl x] w = if jfits .boolean x = true then some (.inl (some (.inl x)), w) else none := rfl
theorem E90_0 (a : Nat) (st : List jV) (l1 l2 l3 : Option jV) (w : jH) : jblk jT0 90 cl bk (n + 1) 0 [some (jr a), l1, l2, l3] st w = jblk jT0 90 cl bk n 1 [some (jr a), l1, l2, l3] (jr a :: st) w := rfl
theorem E90_1 (x : Int) (st : List jV) (l0 l1 l3 : Option jV) (w : jH) : jblk jT0 90 cl bk (n + 1) 1 [l0, l1, some (.inl x), l3] st w = jblk jT0 90 cl bk n 2 [l0, l1, some (.inl x), l3] (.inl x :: st) w := rfl
theorem E90_2 (a : Nat) (v0 : jV) (st : List jV) (l0 l1 l2 l3 : Option jV) (w : jH) : jblk jT0 90 cl bk (n + 1) 2 [l0, l1, l2, l3] (v0 :: jr a :: st) w = jsh st (jgo w a 5 fun _ => jcl (cl 91 [jr a, v0] w) (fun v w' => jblk jT0 90 cl bk n 5 [l0, l1, l2, l3] (jpush v st) w') (fun E w' => some (.inr E, w'))) := rfl
theorem E90_5 (x : Int) (st : List jV) (l0 l1 l2 l3 : Option jV) (w : jH) : jblk jT0 90 cl bk (n + 1) 5 [l0, l1, l2, l3] (.inl x :: st) w = jblk jT0 90 cl bk n 6 [l0, l1, l2, some (.inl x)] st w := rfl
theorem E90_6 (x : Int) (st : List jV) (l0 l2 l3 : Option jV) (w : jH) : jblk jT0 90 cl bk (n + 1) 6 [l0, some (.inl x), l2, l3] st w = jblk jT0 90 cl bk n 7 [l0, some (.inl x), l2, l3] (.inl x :: st) w := rfl
theorem E90_7 (x : Int) (st : List jV) (l0 l1 l2 l3 : Option jV) (w : jH) : jblk jT0 90 cl bk (n + 1) 7 [l0, l1, l2, l3] (.inl x :: st) w = if x < 0 then jblk jT0 90 cl bk n 23 [l0, l1, l2, l3] st w else jblk jT0 90 cl bk n 10 [l0, l1, l2, l3] st w := rfl
theorem E90_10 (x : Int) (st : List jV) (l0 l2 l3 : Option jV) (w : jH) : jblk jT0 90 cl bk (n + 1) 10 [l0, some (.inl x), l2, l3] st w = jblk jT0 90 cl bk n 11 [l0, some (.inl x), l2, l3] (.inl x :: st) w := rfl
theorem E90_11 (st : List jV) (l0 l1 l2 l3 : Option jV) (w : jH) : jblk jT0 90 cl bk (n + 1) 11 [l0, l1, l2, l3] st w = jblk jT0 90 cl bk n 13 [l0, l1, l2, l3] (.inl 60 :: st) w := rfl
theorem E90_13 (x : Int) (y : Int) (st : List jV) (l0 l1 l2 l3 : Option jV) (w : jH) : jblk jT0 90 cl bk (n + 1) 13 [l0, l1, l2, l3] (.inl y :: .inl x :: st) w = if x < y then jblk jT0 90 cl bk n 16 [l0, l1, l2, l3] st w else jblk jT0 90 cl bk n 23 [l0, l1, l2, l3] st w := rfl
theorem E90_16 (a : Nat) (st : List jV) (l1 l2 l3 : Option jV) (w : jH) : jblk jT0 90 cl bk (n + 1) 16 [some (jr a), l1, l2, l3] st w = jblk jT0 90 cl bk n 17 [some (jr a), l1, l2, l3] (jr a :: st) w := rfl
theorem E90_17 (a : Nat) (st : List jV) (l0 l1 l2 l3 : Option jV) (w : jH) : jblk jT0 90 cl bk (n + 1) 17 [l0, l1, l2, l3] (jr a :: st) w = jgf w a 5 6 fun v => jblk jT0 90 cl bk n 20 [l0, l1, l2, l3] (v :: st) w := rfl
theorem E90_20 (x : Int) (st : List jV) (l0 l2 l3 : Option jV) (w : jH) : jblk jT0 90 cl bk (n + 1) 20 [l0, some (.inl x), l2, l3] st w = jblk jT0 90 cl bk n 21 [l0, some (.inl x), l2, l3] (.inl x :: st) w := rfl
theorem E90_21 (x : Int) (st : List jV) (l0 l1 l2 : Option jV) (w : jH) : jblk jT0 90 cl bk (n + 1) 21 [l0, l1, l2, some (.inl x)] st w = jblk jT0 90 cl bk n 22 [l0, l1, l2, some (.inl x)] (.inl x :: st) w := rfl
theorem E90_22 (x : Int) (y : Int) (a : Nat) (st : List jV) (l0 l1 l2 l3 : Option jV) (w : jH) : jblk jT0 90 cl bk (n + 1) 22 [l0, l1, l2, l3] (.inl y :: .inl x :: jr a :: st) w = jai w a .int x y fun w' => jblk jT0 90 cl bk n 23 [l0, l1, l2, l3] st w' := rfl
theorem E90_23 (x : Int) (st : List jV) (l0 l1 l2 : Option jV) (w : jH) : jblk jT0 90 cl bk (n + 1) 23 [l0, l1, l2, some (.inl x)] st w = jblk jT0 90 cl bk n 24 [l0, l1, l2, some (.inl x)] (.inl x :: st) w := rfl
theorem E90_24 (st : List jV) (l0 l1 l2 l3 : Option jV) (w : jH) : jblk jT0 90 cl bk (n + 1) 24 [l0, l1, l2, l3] st w = jblk jT0 90 cl bk n 25 [l0, l1, l2, l3] (.inl (-1) :: st) w := rfl
theorem E90_25 (x : Int) (y : Int) (st : List jV) (l0 l1 l2 l3 : Option jV) (w : jH) : jblk jT0 90 cl bk (n + 1) 25 [l0, l1, l2, l3] (.inl y :: .inl x :: st) w = if x = y then jblk jT0 90 cl bk n 32 [l0, l1, l2, l3] st w else jblk jT0 90 cl bk n 28 [l0, l1, l2, l3] st w := rfl
theorem E90_28 (st : List jV) (l0 l1 l2 l3 : Option jV) (w : jH) : jblk jT0 90 cl bk (n + 1) 28 [l0, l1, l2, l3] st w = jblk jT0 90 cl bk n 29 [l0, l1, l2, l3] (.inl 1 :: st) w := rfl
theorem E90_29 (st : List jV) (l0 l1 l2 l3 : Option jV) (w : jH) : jblk jT0 90 cl bk (n + 1) 29 [l0, l1, l2, l3] st w = jblk jT0 90 cl bk n 33 [l0, l1, l2, l3] st w := rfl
theorem E90_32 (st : List jV) (l0 l1 l2 l3 : Option jV) (w : jH) : jblk jT0 90 cl bk (n + 1) 32 [l0, l1, l2, l3] st w = jblk jT0 90 cl bk n 33 [l0, l1, l2, l3] (.inl 0 :: st) w := rfl
theorem E90_33 (x : Int) (l0 l1 l2 l3 : Option jV) (w : jH) : jblk jT0 90 cl bk (n + 1) 33 [l0, l1, l2, l3] [.inl x] w = if jfits .boolean x = true then some (.inl (some (.inl x)), w) else none := rfl
theorem E91_0 (st : List jV) (l0 l1 l2 l3 l4 : Option jV) (w : jH) : jblk jT0 91 cl bk (n + 1) 0 [l0, l1, l2, l3, l4] st w = jblk jT0 91 cl bk n 1 [l0, l1, l2, l3, l4] (.inl (-1) :: st) w := rfl
theorem E91_1 (x : Int) (st : List jV) (l0 l1 l2 l3 l4 : Option jV) (w : jH) : jblk jT0 91 cl bk (n + 1) 1 [l0, l1, l2, l3, l4] (.inl x :: st) w = jblk jT0 91 cl bk n 2 [l0, l1, some (.inl x), l3, l4] st w := rfl
theorem E91_2 (st : List jV) (l0 l1 l2 l3 l4 : Option jV) (w : jH) : jblk jT0 91 cl bk (n + 1) 2 [l0, l1, l2, l3, l4] st w = jblk jT0 91 cl bk n 3 [l0, l1, l2, l3, l4] (.inl 0 :: st) w := rfl
theorem E91_3 (x : Int) (st : List jV) (l0 l1 l2 l3 l4 : Option jV) (w : jH) : jblk jT0 91 cl bk (n + 1) 3 [l0, l1, l2, l3, l4] (.inl x :: st) w = bk 4 [l0, l1, l2, some (.inl x), l4] st w := rfl
theorem E91_4 (x : Int) (st : List jV) (l0 l1 l2 l4 : Option jV) (w : jH) : jblk jT0 91 cl bk (n + 1) 4 [l0, l1, l2, some (.inl x), l4] st w = jblk jT0 91 cl bk n 5 [l0, l1, l2, some (.inl x), l4] (.inl x :: st) w := rfl
theorem E91_5 (x : Int) (st : List jV) (l0 l2 l3 l4 : Option jV) (w : jH) : jblk jT0 91 cl bk (n + 1) 5 [l0, some (.inl x), l2, l3, l4] st w = jblk jT0 91 cl bk n 6 [l0, some (.inl x), l2, l3, l4] (.inl x :: st) w := rfl
theorem E91_6 (x : Int) (y : Int) (st : List jV) (l0 l1 l2 l3 l4 : Option jV) (w : jH) : jblk jT0 91 cl bk (n + 1) 6 [l0, l1, l2, l3, l4] (.inl y :: .inl x :: st) w = if x < y then jblk jT0 91 cl bk n 9 [l0, l1, l2, l3, l4] st w else jblk jT0 91 cl bk n 62 [l0, l1, l2, l3, l4] st w := rfl
theorem E91_9 (a : Nat) (st : List jV) (l1 l2 l3 l4 : Option jV) (w : jH) : jblk jT0 91 cl bk (n + 1) 9 [some (jr a), l1, l2, l3, l4] st w = jblk jT0 91 cl bk n 10 [some (jr a), l1, l2, l3, l4] (jr a :: st) w := rfl
theorem E91_10 (a : Nat) (st : List jV) (l0 l1 l2 l3 l4 : Option jV) (w : jH) : jblk jT0 91 cl bk (n + 1) 10 [l0, l1, l2, l3, l4] (jr a :: st) w = jsh st (jgo w a 5 fun _ => jcl (cl 94 [jr a] w) (fun v w' => jblk jT0 91 cl bk n 13 [l0, l1, l2, l3, l4] (jpush v st) w') (fun E w' => some (.inr E, w'))) := rfl
theorem E91_13 (x : Int) (st : List jV) (l0 l1 l2 l3 l4 : Option jV) (w : jH) : jblk jT0 91 cl bk (n + 1) 13 [l0, l1, l2, l3, l4] (.inl x :: st) w = jblk jT0 91 cl bk n 15 [l0, l1, l2, l3, some (.inl x)] st w := rfl
theorem E91_15 (x : Int) (st : List jV) (l0 l1 l2 l3 : Option jV) (w : jH) : jblk jT0 91 cl bk (n + 1) 15 [l0, l1, l2, l3, some (.inl x)] st w = jblk jT0 91 cl bk n 17 [l0, l1, l2, l3, some (.inl x)] (.inl x :: st) w := rfl
theorem E91_17 (st : List jV) (l0 l1 l2 l3 l4 : Option jV) (w : jH) : jblk jT0 91 cl bk (n + 1) 17 [l0, l1, l2, l3, l4] st w = jblk jT0 91 cl bk n 19 [l0, l1, l2, l3, l4] (.inl 48 :: st) w := rfl
theorem E91_19 (x : Int) (y : Int) (st : List jV) (l0 l1 l2 l3 l4 : Option jV) (w : jH) : jblk jT0 91 cl bk (n + 1) 19 [l0, l1, l2, l3, l4] (.inl y :: .inl x :: st) w = if x < y then jblk jT0 91 cl bk n 29 [l0, l1, l2, l3, l4] st w else jblk jT0 91 cl bk n 22 [l0, l1, l2, l3, l4] st w := rfl
theorem E91_22 (x : Int) (st : List jV) (l0 l1 l2 l3 : Option jV) (w : jH) : jblk jT0 91 cl bk (n + 1) 22 [l0, l1, l2, l3, some (.inl x)] st w = jblk jT0 91 cl bk n 24 [l0, l1, l2, l3, some (.inl x)] (.inl x :: st) w := rfl
theorem E91_24 (st : List jV) (l0 l1 l2 l3 l4 : Option jV) (w : jH) : jblk jT0 91 cl bk (n + 1) 24 [l0, l1, l2, l3, l4] st w = jblk jT0 91 cl bk n 26 [l0, l1, l2, l3, l4] (.inl 57 :: st) w := rfl
theorem E91_26 (x : Int) (y : Int) (st : List jV) (l0 l1 l2 l3 l4 : Option jV) (w : jH) : jblk jT0 91 cl bk (n + 1) 26 [l0, l1, l2, l3, l4] (.inl y :: .inl x :: st) w = if y < x then jblk jT0 91 cl bk n 29 [l0, l1, l2, l3, l4] st w else jblk jT0 91 cl bk n 31 [l0, l1, l2, l3, l4] st w := rfl
theorem E91_29 (x : Int) (st : List jV) (l0 l1 l3 l4 : Option jV) (w : jH) : jblk jT0 91 cl bk (n + 1) 29 [l0, l1, some (.inl x), l3, l4] st w = jblk jT0 91 cl bk n 30 [l0, l1, some (.inl x), l3, l4] (.inl x :: st) w := rfl
theorem E91_30 (x : Int) (l0 l1 l2 l3 l4 : Option jV) (w : jH) : jblk jT0 91 cl bk (n + 1) 30 [l0, l1, l2, l3, l4] [.inl x] w = if jfits .int x = true then some (.inl (some (.inl x)), w) else none := rfl
theorem E91_31 (x : Int) (st : List jV) (l0 l1 l3 l4 : Option jV) (w : jH) : jblk jT0 91 cl bk (n + 1) 31 [l0, l1, some (.inl x), l3, l4] st w = jblk jT0 91 cl bk n 32 [l0, l1, some (.inl x), l3, l4] (.inl x :: st) w := rfl
theorem E91_32 (st : List jV) (l0 l1 l2 l3 l4 : Option jV) (w : jH) : jblk jT0 91 cl bk (n + 1) 32 [l0, l1, l2, l3, l4] st w = jblk jT0 91 cl bk n 33 [l0, l1, l2, l3, l4] (.inl 0 :: st) w := rfl
theorem E91_33 (x : Int) (y : Int) (st : List jV) (l0 l1 l2 l3 l4 : Option jV) (w : jH) : jblk jT0 91 cl bk (n + 1) 33 [l0, l1, l2, l3, l4] (.inl y :: .inl x :: st) w = jsh st (jblk jT0 91 cl bk n 36 [l0, l1, l2, l3, l4] (.inl (if x < y then y else x) :: st) w) := rfl
theorem E91_36 (st : List jV) (l0 l1 l2 l3 l4 : Option jV) (w : jH) : jblk jT0 91 cl bk (n + 1) 36 [l0, l1, l2, l3, l4] st w = jblk jT0 91 cl bk n 38 [l0, l1, l2, l3, l4] (.inl 10 :: st) w := rfl
theorem E91_38 (x : Int) (y : Int) (st : List jV) (l0 l1 l2 l3 l4 : Option jV) (w : jH) : jblk jT0 91 cl bk (n + 1) 38 [l0, l1, l2, l3, l4] (.inl y :: .inl x :: st) w = jblk jT0 91 cl bk n 39 [l0, l1, l2, l3, l4] (.inl (jw (x * y)) :: st) w := rfl
theorem E91_39 (x : Int) (st : List jV) (l0 l1 l2 l3 : Option jV) (w : jH) : jblk jT0 91 cl bk (n + 1) 39 [l0, l1, l2, l3, some (.inl x)] st w = jblk jT0 91 cl bk n 41 [l0, l1, l2, l3, some (.inl x)] (.inl x :: st) w := rfl
theorem E91_41 (st : List jV) (l0 l1 l2 l3 l4 : Option jV) (w : jH) : jblk jT0 91 cl bk (n + 1) 41 [l0, l1, l2, l3, l4] st w = jblk jT0 91 cl bk n 43 [l0, l1, l2, l3, l4] (.inl 48 :: st) w := rfl
theorem E91_43 (x : Int) (y : Int) (st : List jV) (l0 l1 l2 l3 l4 : Option jV) (w : jH) : jblk jT0 91 cl bk (n + 1) 43 [l0, l1, l2, l3, l4] (.inl y :: .inl x :: st) w = jblk jT0 91 cl bk n 44 [l0, l1, l2, l3, l4] (.inl (jw (x - y)) :: st) w := rfl
theorem E91_44 (x : Int) (y : Int) (st : List jV) (l0 l1 l2 l3 l4 : Option jV) (w : jH) : jblk jT0 91 cl bk (n + 1) 44 [l0, l1, l2, l3, l4] (.inl y :: .inl x :: st) w = jblk jT0 91 cl bk n 45 [l0, l1, l2, l3, l4] (.inl (jw (x + y)) :: st) w := rfl
theorem E91_45 (x : Int) (st : List jV) (l0 l1 l2 l3 l4 : Option jV) (w : jH) : jblk jT0 91 cl bk (n + 1) 45 [l0, l1, l2, l3, l4] (.inl x :: st) w = jblk jT0 91 cl bk n 46 [l0, l1, some (.inl x), l3, l4] st w := rfl
theorem E91_46 (a : Nat) (st : List jV) (l1 l2 l3 l4 : Option jV) (w : jH) : jblk jT0 91 cl bk (n + 1) 46 [some (jr a), l1, l2, l3, l4] st w = jblk jT0 91 cl bk n 47 [some (jr a), l1, l2, l3, l4] (jr a :: st) w := rfl
theorem E91_47_0 (x : Int) (st : List jV) (l0 l1 l2 l3 l4 : Option jV) (w : jH) : jblk jT0 91 cl bk (n + 1) 47 [l0, l1, l2, l3, l4] (.inl x :: st) w = jblk jT0 91 cl bk n 48 [l0, l1, l2, l3, l4] (.inl x :: .inl x :: st) w := rfl
theorem E91_47_1 (a : Nat) (st : List jV) (l0 l1 l2 l3 l4 : Option jV) (w : jH) : jblk jT0 91 cl bk (n + 1) 47 [l0, l1, l2, l3, l4] (jr a :: st) w = jblk jT0 91 cl bk n 48 [l0, l1, l2, l3, l4] (jr a :: jr a :: st) w := rfl
theorem E91_48 (a : Nat) (st : List jV) (l0 l1 l2 l3 l4 : Option jV) (w : jH) : jblk jT0 91 cl bk (n + 1) 48 [l0, l1, l2, l3, l4] (jr a :: st) w = jgf w a 5 2 fun v => jblk jT0 91 cl bk n 51 [l0, l1, l2, l3, l4] (v :: st) w := rfl
theorem E91_51 (st : List jV) (l0 l1 l2 l3 l4 : Option jV) (w : jH) : jblk jT0 91 cl bk (n + 1) 51 [l0, l1, l2, l3, l4] st w = jblk jT0 91 cl bk n 52 [l0, l1, l2, l3, l4] (.inl 1 :: st) w := rfl
theorem E91_52 (x : Int) (y : Int) (st : List jV) (l0 l1 l2 l3 l4 : Option jV) (w : jH) : jblk jT0 91 cl bk (n + 1) 52 [l0, l1, l2, l3, l4] (.inl y :: .inl x :: st) w = jblk jT0 91 cl bk n 53 [l0, l1, l2, l3, l4] (.inl (jw (x + y)) :: st) w := rfl
theorem E91_53 (a : Nat) (v : jV) (st : List jV) (l0 l1 l2 l3 l4 : Option jV) (w : jH) : jblk jT0 91 cl bk (n + 1) 53 [l0, l1, l2, l3, l4] (v :: jr a :: st) w = jpf w a 5 2 .int v fun w' => jblk jT0 91 cl bk n 56 [l0, l1, l2, l3, l4] st w' := rfl
theorem E91_56 (x : Int) (st : List jV) (l0 l1 l2 l4 : Option jV) (w : jH) : jblk jT0 91 cl bk (n + 1) 56 [l0, l1, l2, some (.inl x), l4] st w = jblk jT0 91 cl bk n 59 [l0, l1, l2, some (.inl (jw (x + 1))), l4] st w := rfl
theorem E91_59 (st : List jV) (l0 l1 l2 l3 l4 : Option jV) (w : jH) : jblk jT0 91 cl bk (n + 1) 59 [l0, l1, l2, l3, l4] st w = bk 4 [l0, l1, l2, l3, l4] st w := rfl
theorem E91_62 (x : Int) (st : List jV) (l0 l1 l3 l4 : Option jV) (w : jH) : jblk jT0 91 cl bk (n + 1) 62 [l0, l1, some (.inl x), l3, l4] st w = jblk jT0 91 cl bk n 63 [l0, l1, some (.inl x), l3, l4] (.inl x :: st) w := rfl
theorem E91_63 (x : Int) (l0 l1 l2 l3 l4 : Option jV) (w : jH) : jblk jT0 91 cl bk (n + 1) 63 [l0, l1, l2, l3, l4] [.inl x] w = if jfits .int x = true then some (.inl (some (.inl x)), w) else none := rfl
theorem E92_0 (a : Nat) (st : List jV) (w : jH) : jblk jT0 92 cl bk (n + 1) 0 [some (jr a)] st w = jblk jT0 92 cl bk n 1 [some (jr a)] (jr a :: st) w := rfl
theorem E92_1 (a : Nat) (st : List jV) (l0 : Option jV) (w : jH) : jblk jT0 92 cl bk (n + 1) 1 [l0] (jr a :: st) w = jsh st (jgo w a 5 fun _ => jcl (cl 94 [jr a] w) (fun v w' => jblk jT0 92 cl bk n 4 [l0] (jpush v st) w') (fun E w' => some (.inr E, w'))) := rfl
theorem E92_4 (v0 : jV) (st : List jV) (l0 : Option jV) (w : jH) : jblk jT0 92 cl bk (n + 1) 4 [l0] (v0 :: st) w = jsh st (jcl (cl 173 [v0] w) (fun v w' => jblk jT0 92 cl bk n 7 [l0] (jpush v st) w') (fun E w' => some (.inr E, w'))) := rfl
theorem E92_7 (x : Int) (st : List jV) (l0 : Option jV) (w : jH) : jblk jT0 92 cl bk (n + 1) 7 [l0] (.inl x :: st) w = if x = 0 then jblk jT0 92 cl bk n 25 [l0] st w else jblk jT0 92 cl bk n 10 [l0] st w := rfl
theorem E92_10 (a : Nat) (st : List jV) (w : jH) : jblk jT0 92 cl bk (n + 1) 10 [some (jr a)] st w = jblk jT0 92 cl bk n 11 [some (jr a)] (jr a :: st) w := rfl
theorem E92_11 (a : Nat) (st : List jV) (w : jH) : jblk jT0 92 cl bk (n + 1) 11 [some (jr a)] st w = jblk jT0 92 cl bk n 12 [some (jr a)] (jr a :: st) w := rfl
theorem E92_12 (a : Nat) (st : List jV) (l0 : Option jV) (w : jH) : jblk jT0 92 cl bk (n + 1) 12 [l0] (jr a :: st) w = jsh st (jgo w a 5 fun _ => jcl (cl 94 [jr a] w) (fun v w' => jblk jT0 92 cl bk n 15 [l0] (jpush v st) w') (fun E w' => some (.inr E, w'))) := rfl
theorem E92_15 (a : Nat) (v0 : jV) (st : List jV) (l0 : Option jV) (w : jH) : jblk jT0 92 cl bk (n + 1) 15 [l0] (v0 :: jr a :: st) w = jsh st (jgo w a 5 fun _ => jcl (cl 93 [jr a, v0] w) (fun v w' => jblk jT0 92 cl bk n 18 [l0] (jpush v st) w') (fun E w' => some (.inr E, w'))) := rfl
theorem E92_18 (x : Int) (st : List jV) (l0 : Option jV) (w : jH) : jblk jT0 92 cl bk (n + 1) 18 [l0] (.inl x :: st) w = if x = 0 then jblk jT0 92 cl bk n 25 [l0] st w else jblk jT0 92 cl bk n 21 [l0] st w := rfl
theorem E92_21 (st : List jV) (l0 : Option jV) (w : jH) : jblk jT0 92 cl bk (n + 1) 21 [l0] st w = jblk jT0 92 cl bk n 22 [l0] (.inl 1 :: st) w := rfl
theorem E92_22 (st : List jV) (l0 : Option jV) (w : jH) : jblk jT0 92 cl bk (n + 1) 22 [l0] st w = jblk jT0 92 cl bk n 26 [l0] st w := rfl
theorem E92_25 (st : List jV) (l0 : Option jV) (w : jH) : jblk jT0 92 cl bk (n + 1) 25 [l0] st w = jblk jT0 92 cl bk n 26 [l0] (.inl 0 :: st) w := rfl
theorem E92_26 (x : Int) (l0 : Option jV) (w : jH) : jblk jT0 92 cl bk (n + 1) 26 [l0] [.inl x] w = if jfits .boolean x = true then some (.inl (some (.inl x)), w) else none := rfl
theorem E93_0 (a : Nat) (st : List jV) (l1 : Option jV) (w : jH) : jblk jT0 93 cl bk (n + 1) 0 [some (jr a), l1] st w = jblk jT0 93 cl bk n 1 [some (jr a), l1] (jr a :: st) w := rfl
theorem E93_1 (a : Nat) (st : List jV) (l0 l1 : Option jV) (w : jH) : jblk jT0 93 cl bk (n + 1) 1 [l0, l1] (jr a :: st) w = jsh st (jgo w a 5 fun _ => jcl (cl 94 [jr a] w) (fun v w' => jblk jT0 93 cl bk n 4 [l0, l1] (jpush v st) w') (fun E w' => some (.inr E, w'))) := rfl
theorem E93_4 (x : Int) (st : List jV) (l0 : Option jV) (w : jH) : jblk jT0 93 cl bk (n + 1) 4 [l0, some (.inl x)] st w = jblk jT0 93 cl bk n 5 [l0, some (.inl x)] (.inl x :: st) w := rfl
theorem E93_5 (x : Int) (y : Int) (st : List jV) (l0 l1 : Option jV) (w : jH) : jblk jT0 93 cl bk (n + 1) 5 [l0, l1] (.inl y :: .inl x :: st) w = if x = y then jblk jT0 93 cl bk n 10 [l0, l1] st w else jblk jT0 93 cl bk n 8 [l0, l1] st w := rfl
theorem E93_8 (st : List jV) (l0 l1 : Option jV) (w : jH) : jblk jT0 93 cl bk (n + 1) 8 [l0, l1] st w = jblk jT0 93 cl bk n 9 [l0, l1] (.inl 0 :: st) w := rfl
theorem E93_9 (x : Int) (l0 l1 : Option jV) (w : jH) : jblk jT0 93 cl bk (n + 1) 9 [l0, l1] [.inl x] w = if jfits .boolean x = true then some (.inl (some (.inl x)), w) else none := rfl
theorem E93_10 (a : Nat) (st : List jV) (l1 : Option jV) (w : jH) : jblk jT0 93 cl bk (n + 1) 10 [some (jr a), l1] st w = jblk jT0 93 cl bk n 11 [some (jr a), l1] (jr a :: st) w := rfl
theorem E93_11_0 (x : Int) (st : List jV) (l0 l1 : Option jV) (w : jH) : jblk jT0 93 cl bk (n + 1) 11 [l0, l1] (.inl x :: st) w = jblk jT0 93 cl bk n 12 [l0, l1] (.inl x :: .inl x :: st) w := rfl
theorem E93_11_1 (a : Nat) (st : List jV) (l0 l1 : Option jV) (w : jH) : jblk jT0 93 cl bk (n + 1) 11 [l0, l1] (jr a :: st) w = jblk jT0 93 cl bk n 12 [l0, l1] (jr a :: jr a :: st) w := rfl
theorem E93_12 (a : Nat) (st : List jV) (l0 l1 : Option jV) (w : jH) : jblk jT0 93 cl bk (n + 1) 12 [l0, l1] (jr a :: st) w = jgf w a 5 2 fun v => jblk jT0 93 cl bk n 15 [l0, l1] (v :: st) w := rfl
theorem E93_15 (st : List jV) (l0 l1 : Option jV) (w : jH) : jblk jT0 93 cl bk (n + 1) 15 [l0, l1] st w = jblk jT0 93 cl bk n 16 [l0, l1] (.inl 1 :: st) w := rfl
theorem E93_16 (x : Int) (y : Int) (st : List jV) (l0 l1 : Option jV) (w : jH) : jblk jT0 93 cl bk (n + 1) 16 [l0, l1] (.inl y :: .inl x :: st) w = jblk jT0 93 cl bk n 17 [l0, l1] (.inl (jw (x + y)) :: st) w := rfl
theorem E93_17 (a : Nat) (v : jV) (st : List jV) (l0 l1 : Option jV) (w : jH) : jblk jT0 93 cl bk (n + 1) 17 [l0, l1] (v :: jr a :: st) w = jpf w a 5 2 .int v fun w' => jblk jT0 93 cl bk n 20 [l0, l1] st w' := rfl
theorem E93_20 (st : List jV) (l0 l1 : Option jV) (w : jH) : jblk jT0 93 cl bk (n + 1) 20 [l0, l1] st w = jblk jT0 93 cl bk n 21 [l0, l1] (.inl 1 :: st) w := rfl
theorem E93_21 (x : Int) (l0 l1 : Option jV) (w : jH) : jblk jT0 93 cl bk (n + 1) 21 [l0, l1] [.inl x] w = if jfits .boolean x = true then some (.inl (some (.inl x)), w) else none := rfl
theorem E94_0 (a : Nat) (st : List jV) (w : jH) : jblk jT0 94 cl bk (n + 1) 0 [some (jr a)] st w = jblk jT0 94 cl bk n 1 [some (jr a)] (jr a :: st) w := rfl
theorem E94_1 (a : Nat) (st : List jV) (l0 : Option jV) (w : jH) : jblk jT0 94 cl bk (n + 1) 1 [l0] (jr a :: st) w = jgf w a 5 2 fun v => jblk jT0 94 cl bk n 4 [l0] (v :: st) w := rfl
theorem E94_4 (x : Int) (st : List jV) (l0 : Option jV) (w : jH) : jblk jT0 94 cl bk (n + 1) 4 [l0] (.inl x :: st) w = if x < 0 then jblk jT0 94 cl bk n 30 [l0] st w else jblk jT0 94 cl bk n 7 [l0] st w := rfl
theorem E94_7 (a : Nat) (st : List jV) (w : jH) : jblk jT0 94 cl bk (n + 1) 7 [some (jr a)] st w = jblk jT0 94 cl bk n 8 [some (jr a)] (jr a :: st) w := rfl
theorem E94_8 (a : Nat) (st : List jV) (l0 : Option jV) (w : jH) : jblk jT0 94 cl bk (n + 1) 8 [l0] (jr a :: st) w = jgf w a 5 2 fun v => jblk jT0 94 cl bk n 11 [l0] (v :: st) w := rfl
theorem E94_11 (a : Nat) (st : List jV) (w : jH) : jblk jT0 94 cl bk (n + 1) 11 [some (jr a)] st w = jblk jT0 94 cl bk n 12 [some (jr a)] (jr a :: st) w := rfl
theorem E94_12 (a : Nat) (st : List jV) (l0 : Option jV) (w : jH) : jblk jT0 94 cl bk (n + 1) 12 [l0] (jr a :: st) w = jgf w a 5 1 fun v => jblk jT0 94 cl bk n 15 [l0] (v :: st) w := rfl
theorem E94_15 (x : Int) (y : Int) (st : List jV) (l0 : Option jV) (w : jH) : jblk jT0 94 cl bk (n + 1) 15 [l0] (.inl y :: .inl x :: st) w = if x < y then jblk jT0 94 cl bk n 18 [l0] st w else jblk jT0 94 cl bk n 30 [l0] st w := rfl
theorem E94_18 (a : Nat) (st : List jV) (w : jH) : jblk jT0 94 cl bk (n + 1) 18 [some (jr a)] st w = jblk jT0 94 cl bk n 19 [some (jr a)] (jr a :: st) w := rfl
theorem E94_19 (a : Nat) (st : List jV) (l0 : Option jV) (w : jH) : jblk jT0 94 cl bk (n + 1) 19 [l0] (jr a :: st) w = jgf w a 5 0 fun v => jblk jT0 94 cl bk n 22 [l0] (v :: st) w := rfl
theorem E94_22 (a : Nat) (st : List jV) (w : jH) : jblk jT0 94 cl bk (n + 1) 22 [some (jr a)] st w = jblk jT0 94 cl bk n 23 [some (jr a)] (jr a :: st) w := rfl
theorem E94_23 (a : Nat) (st : List jV) (l0 : Option jV) (w : jH) : jblk jT0 94 cl bk (n + 1) 23 [l0] (jr a :: st) w = jgf w a 5 2 fun v => jblk jT0 94 cl bk n 26 [l0] (v :: st) w := rfl
theorem E94_26 (x : Int) (a : Nat) (st : List jV) (l0 : Option jV) (w : jH) : jblk jT0 94 cl bk (n + 1) 26 [l0] (.inl x :: jr a :: st) w = jgi w a .char x fun z => jblk jT0 94 cl bk n 27 [l0] (.inl z :: st) w := rfl
theorem E94_27 (st : List jV) (l0 : Option jV) (w : jH) : jblk jT0 94 cl bk (n + 1) 27 [l0] st w = jblk jT0 94 cl bk n 31 [l0] st w := rfl
theorem E94_30 (st : List jV) (l0 : Option jV) (w : jH) : jblk jT0 94 cl bk (n + 1) 30 [l0] st w = jblk jT0 94 cl bk n 31 [l0] (.inl 0 :: st) w := rfl
theorem E94_31 (x : Int) (l0 : Option jV) (w : jH) : jblk jT0 94 cl bk (n + 1) 31 [l0] [.inl x] w = if jfits .char x = true then some (.inl (some (.inl x)), w) else none := rfl
theorem E96_0 (x : Int) (st : List jV) (l0 : Option jV) (w : jH) : jblk jT0 96 cl bk (n + 1) 0 [l0, some (.inl x)] st w = jblk jT0 96 cl bk n 1 [l0, some (.inl x)] (.inl x :: st) w := rfl
theorem E96_1 (x : Int) (st : List jV) (l0 l1 : Option jV) (w : jH) : jblk jT0 96 cl bk (n + 1) 1 [l0, l1] (.inl x :: st) w = if x < 0 then jblk jT0 96 cl bk n 16 [l0, l1] st w else jblk jT0 96 cl bk n 4 [l0, l1] st w := rfl
theorem E96_4 (x : Int) (st : List jV) (l0 : Option jV) (w : jH) : jblk jT0 96 cl bk (n + 1) 4 [l0, some (.inl x)] st w = jblk jT0 96 cl bk n 5 [l0, some (.inl x)] (.inl x :: st) w := rfl
theorem E96_5 (a : Nat) (st : List jV) (l1 : Option jV) (w : jH) : jblk jT0 96 cl bk (n + 1) 5 [some (jr a), l1] st w = jblk jT0 96 cl bk n 6 [some (jr a), l1] (jr a :: st) w := rfl
theorem E96_6 (a : Nat) (st : List jV) (l0 l1 : Option jV) (w : jH) : jblk jT0 96 cl bk (n + 1) 6 [l0, l1] (jr a :: st) w = jgf w a 4 1 fun v => jblk jT0 96 cl bk n 9 [l0, l1] (v :: st) w := rfl
theorem E96_9 (x : Int) (y : Int) (st : List jV) (l0 l1 : Option jV) (w : jH) : jblk jT0 96 cl bk (n + 1) 9 [l0, l1] (.inl y :: .inl x :: st) w = if x < y then jblk jT0 96 cl bk n 12 [l0, l1] st w else jblk jT0 96 cl bk n 16 [l0, l1] st w := rfl
theorem E96_12 (st : List jV) (l0 l1 : Option jV) (w : jH) : jblk jT0 96 cl bk (n + 1) 12 [l0, l1] st w = jblk jT0 96 cl bk n 13 [l0, l1] (.inl 1 :: st) w := rfl
theorem E96_13 (st : List jV) (l0 l1 : Option jV) (w : jH) : jblk jT0 96 cl bk (n + 1) 13 [l0, l1] st w = jblk jT0 96 cl bk n 17 [l0, l1] st w := rfl
theorem E96_16 (st : List jV) (l0 l1 : Option jV) (w : jH) : jblk jT0 96 cl bk (n + 1) 16 [l0, l1] st w = jblk jT0 96 cl bk n 17 [l0, l1] (.inl 0 :: st) w := rfl
theorem E96_17 (x : Int) (l0 l1 : Option jV) (w : jH) : jblk jT0 96 cl bk (n + 1) 17 [l0, l1] [.inl x] w = if jfits .boolean x = true then some (.inl (some (.inl x)), w) else none := rfl
theorem E97_0 (a : Nat) (st : List jV) (l1 : Option jV) (w : jH) : jblk jT0 97 cl bk (n + 1) 0 [some (jr a), l1] st w = jblk jT0 97 cl bk n 1 [some (jr a), l1] (jr a :: st) w := rfl
theorem E97_1 (x : Int) (st : List jV) (l0 : Option jV) (w : jH) : jblk jT0 97 cl bk (n + 1) 1 [l0, some (.inl x)] st w = jblk jT0 97 cl bk n 2 [l0, some (.inl x)] (.inl x :: st) w := rfl
theorem E97_2 (a : Nat) (v0 : jV) (st : List jV) (l0 l1 : Option jV) (w : jH) : jblk jT0 97 cl bk (n + 1) 2 [l0, l1] (v0 :: jr a :: st) w = jsh st (jgo w a 4 fun _ => jcl (cl 96 [jr a, v0] w) (fun v w' => jblk jT0 97 cl bk n 5 [l0, l1] (jpush v st) w') (fun E w' => some (.inr E, w'))) := rfl
theorem E97_5 (x : Int) (st : List jV) (l0 l1 : Option jV) (w : jH) : jblk jT0 97 cl bk (n + 1) 5 [l0, l1] (.inl x :: st) w = if x = 0 then jblk jT0 97 cl bk n 17 [l0, l1] st w else jblk jT0 97 cl bk n 8 [l0, l1] st w := rfl
theorem E97_8 (a : Nat) (st : List jV) (l1 : Option jV) (w : jH) : jblk jT0 97 cl bk (n + 1) 8 [some (jr a), l1] st w = jblk jT0 97 cl bk n 9 [some (jr a), l1] (jr a :: st) w := rfl
theorem E97_9 (a : Nat) (st : List jV) (l0 l1 : Option jV) (w : jH) : jblk jT0 97 cl bk (n + 1) 9 [l0, l1] (jr a :: st) w = jgf w a 4 0 fun v => jblk jT0 97 cl bk n 12 [l0, l1] (v :: st) w := rfl
theorem E97_12 (x : Int) (st : List jV) (l0 : Option jV) (w : jH) : jblk jT0 97 cl bk (n + 1) 12 [l0, some (.inl x)] st w = jblk jT0 97 cl bk n 13 [l0, some (.inl x)] (.inl x :: st) w := rfl
theorem E97_13 (x : Int) (a : Nat) (st : List jV) (l0 l1 : Option jV) (w : jH) : jblk jT0 97 cl bk (n + 1) 13 [l0, l1] (.inl x :: jr a :: st) w = jgi w a .char x fun z => jblk jT0 97 cl bk n 14 [l0, l1] (.inl z :: st) w := rfl
theorem E97_14 (st : List jV) (l0 l1 : Option jV) (w : jH) : jblk jT0 97 cl bk (n + 1) 14 [l0, l1] st w = jblk jT0 97 cl bk n 19 [l0, l1] st w := rfl
theorem E97_17 (st : List jV) (l0 l1 : Option jV) (w : jH) : jblk jT0 97 cl bk (n + 1) 17 [l0, l1] st w = jblk jT0 97 cl bk n 19 [l0, l1] (.inl 32 :: st) w := rfl
theorem E97_19 (x : Int) (l0 l1 : Option jV) (w : jH) : jblk jT0 97 cl bk (n + 1) 19 [l0, l1] [.inl x] w = if jfits .char x = true then some (.inl (some (.inl x)), w) else none := rfl
theorem E98_0 (a : Nat) (st : List jV) (w : jH) : jblk jT0 98 cl bk (n + 1) 0 [some (jr a)] st w = jblk jT0 98 cl bk n 1 [some (jr a)] (jr a :: st) w := rfl
theorem E98_1 (st : List jV) (l0 : Option jV) (w : jH) : jblk jT0 98 cl bk (n + 1) 1 [l0] st w = jblk jT0 98 cl bk n 2 [l0] (.inl 0 :: st) w := rfl
theorem E98_2 (a : Nat) (v : jV) (st : List jV) (l0 : Option jV) (w : jH) : jblk jT0 98 cl bk (n + 1) 2 [l0] (v :: jr a :: st) w = jpf w a 4 1 .int v fun w' => jblk jT0 98 cl bk n 5 [l0] st w' := rfl
theorem E98_5 (l0 : Option jV) (w : jH) : jblk jT0 98 cl bk (n + 1) 5 [l0] [] w = some (.inl none, w) := rfl
theorem E99_0 (a : Nat) (st : List jV) (l1 : Option jV) (w : jH) : jblk jT0 99 cl bk (n + 1) 0 [some (jr a), l1] st w = jblk jT0 99 cl bk n 1 [some (jr a), l1] (jr a :: st) w := rfl
theorem E99_1 (a : Nat) (st : List jV) (l0 l1 : Option jV) (w : jH) : jblk jT0 99 cl bk (n + 1) 1 [l0, l1] (jr a :: st) w = jgf w a 4 1 fun v => jblk jT0 99 cl bk n 4 [l0, l1] (v :: st) w := rfl
theorem E99_4 (x : Int) (st : List jV) (l0 l1 : Option jV) (w : jH) : jblk jT0 99 cl bk (n + 1) 4 [l0, l1] (.inl x :: st) w = if x < 0 then jblk jT0 99 cl bk n 36 [l0, l1] st w else jblk jT0 99 cl bk n 7 [l0, l1] st w := rfl
theorem E99_7 (a : Nat) (st : List jV) (l1 : Option jV) (w : jH) : jblk jT0 99 cl bk (n + 1) 7 [some (jr a), l1] st w = jblk jT0 99 cl bk n 8 [some (jr a), l1] (jr a :: st) w := rfl
theorem E99_8 (a : Nat) (st : List jV) (l0 l1 : Option jV) (w : jH) : jblk jT0 99 cl bk (n + 1) 8 [l0, l1] (jr a :: st) w = jgf w a 4 1 fun v => jblk jT0 99 cl bk n 11 [l0, l1] (v :: st) w := rfl
theorem E99_11 (st : List jV) (l0 l1 : Option jV) (w : jH) : jblk jT0 99 cl bk (n + 1) 11 [l0, l1] st w = jblk jT0 99 cl bk n 13 [l0, l1] (.inl 60 :: st) w := rfl
theorem E99_13 (x : Int) (y : Int) (st : List jV) (l0 l1 : Option jV) (w : jH) : jblk jT0 99 cl bk (n + 1) 13 [l0, l1] (.inl y :: .inl x :: st) w = if x < y then jblk jT0 99 cl bk n 16 [l0, l1] st w else jblk jT0 99 cl bk n 36 [l0, l1] st w := rfl
theorem E99_16 (a : Nat) (st : List jV) (l1 : Option jV) (w : jH) : jblk jT0 99 cl bk (n + 1) 16 [some (jr a), l1] st w = jblk jT0 99 cl bk n 17 [some (jr a), l1] (jr a :: st) w := rfl
theorem E99_17 (a : Nat) (st : List jV) (l0 l1 : Option jV) (w : jH) : jblk jT0 99 cl bk (n + 1) 17 [l0, l1] (jr a :: st) w = jgf w a 4 0 fun v => jblk jT0 99 cl bk n 20 [l0, l1] (v :: st) w := rfl
theorem E99_20 (a : Nat) (st : List jV) (l1 : Option jV) (w : jH) : jblk jT0 99 cl bk (n + 1) 20 [some (jr a), l1] st w = jblk jT0 99 cl bk n 21 [some (jr a), l1] (jr a :: st) w := rfl
theorem E99_21 (a : Nat) (st : List jV) (l0 l1 : Option jV) (w : jH) : jblk jT0 99 cl bk (n + 1) 21 [l0, l1] (jr a :: st) w = jgf w a 4 1 fun v => jblk jT0 99 cl bk n 24 [l0, l1] (v :: st) w := rfl
theorem E99_24 (x : Int) (st : List jV) (l0 : Option jV) (w : jH) : jblk jT0 99 cl bk (n + 1) 24 [l0, some (.inl x)] st w = jblk jT0 99 cl bk n 25 [l0, some (.inl x)] (.inl x :: st) w := rfl
theorem E99_25 (x : Int) (y : Int) (a : Nat) (st : List jV) (l0 l1 : Option jV) (w : jH) : jblk jT0 99 cl bk (n + 1) 25 [l0, l1] (.inl y :: .inl x :: jr a :: st) w = jai w a .char x y fun w' => jblk jT0 99 cl bk n 26 [l0, l1] st w' := rfl
theorem E99_26 (a : Nat) (st : List jV) (l1 : Option jV) (w : jH) : jblk jT0 99 cl bk (n + 1) 26 [some (jr a), l1] st w = jblk jT0 99 cl bk n 27 [some (jr a), l1] (jr a :: st) w := rfl
theorem E99_27_0 (x : Int) (st : List jV) (l0 l1 : Option jV) (w : jH) : jblk jT0 99 cl bk (n + 1) 27 [l0, l1] (.inl x :: st) w = jblk jT0 99 cl bk n 28 [l0, l1] (.inl x :: .inl x :: st) w := rfl
theorem E99_27_1 (a : Nat) (st : List jV) (l0 l1 : Option jV) (w : jH) : jblk jT0 99 cl bk (n + 1) 27 [l0, l1] (jr a :: st) w = jblk jT0 99 cl bk n 28 [l0, l1] (jr a :: jr a :: st) w := rfl
theorem E99_28 (a : Nat) (st : List jV) (l0 l1 : Option jV) (w : jH) : jblk jT0 99 cl bk (n + 1) 28 [l0, l1] (jr a :: st) w = jgf w a 4 1 fun v => jblk jT0 99 cl bk n 31 [l0, l1] (v :: st) w := rfl
theorem E99_31 (st : List jV) (l0 l1 : Option jV) (w : jH) : jblk jT0 99 cl bk (n + 1) 31 [l0, l1] st w = jblk jT0 99 cl bk n 32 [l0, l1] (.inl 1 :: st) w := rfl
theorem E99_32 (x : Int) (y : Int) (st : List jV) (l0 l1 : Option jV) (w : jH) : jblk jT0 99 cl bk (n + 1) 32 [l0, l1] (.inl y :: .inl x :: st) w = jblk jT0 99 cl bk n 33 [l0, l1] (.inl (jw (x + y)) :: st) w := rfl
theorem E99_33 (a : Nat) (v : jV) (st : List jV) (l0 l1 : Option jV) (w : jH) : jblk jT0 99 cl bk (n + 1) 33 [l0, l1] (v :: jr a :: st) w = jpf w a 4 1 .int v fun w' => jblk jT0 99 cl bk n 36 [l0, l1] st w' := rfl
theorem E99_36 (l0 l1 : Option jV) (w : jH) : jblk jT0 99 cl bk (n + 1) 36 [l0, l1] [] w = some (.inl none, w) := rfl
theorem E100_0 (x : Int) (st : List jV) (l0 : Option jV) (w : jH) : jblk jT0 100 cl bk (n + 1) 0 [l0, some (.inl x)] st w = jblk jT0 100 cl bk n 1 [l0, some (.inl x)] (.inl x :: st) w := rfl
theorem E100_1 (st : List jV) (l0 l1 : Option jV) (w : jH) : jblk jT0 100 cl bk (n + 1) 1 [l0, l1] st w = jblk jT0 100 cl bk n 3 [l0, l1] (.inl 10 :: st) w := rfl
theorem E100_3 (x : Int) (y : Int) (st : List jV) (l0 l1 : Option jV) (w : jH) : jblk jT0 100 cl bk (n + 1) 3 [l0, l1] (.inl y :: .inl x :: st) w = if x < y then jblk jT0 100 cl bk n 18 [l0, l1] st w else jblk jT0 100 cl bk n 6 [l0, l1] st w := rfl
theorem E100_6 (a : Nat) (st : List jV) (l1 : Option jV) (w : jH) : jblk jT0 100 cl bk (n + 1) 6 [some (jr a), l1] st w = jblk jT0 100 cl bk n 7 [some (jr a), l1] (jr a :: st) w := rfl
theorem E100_7 (st : List jV) (l0 l1 : Option jV) (w : jH) : jblk jT0 100 cl bk (n + 1) 7 [l0, l1] st w = jblk jT0 100 cl bk n 9 [l0, l1] (.inl 48 :: st) w := rfl
theorem E100_9 (x : Int) (st : List jV) (l0 : Option jV) (w : jH) : jblk jT0 100 cl bk (n + 1) 9 [l0, some (.inl x)] st w = jblk jT0 100 cl bk n 10 [l0, some (.inl x)] (.inl x :: st) w := rfl
theorem E100_10 (st : List jV) (l0 l1 : Option jV) (w : jH) : jblk jT0 100 cl bk (n + 1) 10 [l0, l1] st w = jblk jT0 100 cl bk n 12 [l0, l1] (.inl 10 :: st) w := rfl
theorem E100_12 (x : Int) (y : Int) (st : List jV) (l0 l1 : Option jV) (w : jH) : jblk jT0 100 cl bk (n + 1) 12 [l0, l1] (.inl y :: .inl x :: st) w = if 0 < y ∧ 0 ≤ x then jblk jT0 100 cl bk n 13 [l0, l1] (.inl (x / y) :: st) w else none := rfl
theorem E100_13 (x : Int) (y : Int) (st : List jV) (l0 l1 : Option jV) (w : jH) : jblk jT0 100 cl bk (n + 1) 13 [l0, l1] (.inl y :: .inl x :: st) w = jblk jT0 100 cl bk n 14 [l0, l1] (.inl (jw (x + y)) :: st) w := rfl
theorem E100_14 (x : Int) (st : List jV) (l0 l1 : Option jV) (w : jH) : jblk jT0 100 cl bk (n + 1) 14 [l0, l1] (.inl x :: st) w = jblk jT0 100 cl bk n 15 [l0, l1] (.inl (x % 65536) :: st) w := rfl
theorem E100_15 (a : Nat) (v0 : jV) (st : List jV) (l0 l1 : Option jV) (w : jH) : jblk jT0 100 cl bk (n + 1) 15 [l0, l1] (v0 :: jr a :: st) w = jsh st (jgo w a 4 fun _ => jcl (cl 99 [jr a, v0] w) (fun v w' => jblk jT0 100 cl bk n 18 [l0, l1] (jpush v st) w') (fun E w' => some (.inr E, w'))) := rfl
theorem E100_18 (a : Nat) (st : List jV) (l1 : Option jV) (w : jH) : jblk jT0 100 cl bk (n + 1) 18 [some (jr a), l1] st w = jblk jT0 100 cl bk n 19 [some (jr a), l1] (jr a :: st) w := rfl
theorem E100_19 (st : List jV) (l0 l1 : Option jV) (w : jH) : jblk jT0 100 cl bk (n + 1) 19 [l0, l1] st w = jblk jT0 100 cl bk n 21 [l0, l1] (.inl 48 :: st) w := rfl
theorem E100_21 (x : Int) (st : List jV) (l0 : Option jV) (w : jH) : jblk jT0 100 cl bk (n + 1) 21 [l0, some (.inl x)] st w = jblk jT0 100 cl bk n 22 [l0, some (.inl x)] (.inl x :: st) w := rfl
theorem E100_22 (st : List jV) (l0 l1 : Option jV) (w : jH) : jblk jT0 100 cl bk (n + 1) 22 [l0, l1] st w = jblk jT0 100 cl bk n 24 [l0, l1] (.inl 10 :: st) w := rfl
theorem E100_24 (x : Int) (y : Int) (st : List jV) (l0 l1 : Option jV) (w : jH) : jblk jT0 100 cl bk (n + 1) 24 [l0, l1] (.inl y :: .inl x :: st) w = if 0 < y ∧ 0 ≤ x then jblk jT0 100 cl bk n 25 [l0, l1] (.inl (x % y) :: st) w else none := rfl
theorem E100_25 (x : Int) (y : Int) (st : List jV) (l0 l1 : Option jV) (w : jH) : jblk jT0 100 cl bk (n + 1) 25 [l0, l1] (.inl y :: .inl x :: st) w = jblk jT0 100 cl bk n 26 [l0, l1] (.inl (jw (x + y)) :: st) w := rfl
theorem E100_26 (x : Int) (st : List jV) (l0 l1 : Option jV) (w : jH) : jblk jT0 100 cl bk (n + 1) 26 [l0, l1] (.inl x :: st) w = jblk jT0 100 cl bk n 27 [l0, l1] (.inl (x % 65536) :: st) w := rfl
theorem E100_27 (a : Nat) (v0 : jV) (st : List jV) (l0 l1 : Option jV) (w : jH) : jblk jT0 100 cl bk (n + 1) 27 [l0, l1] (v0 :: jr a :: st) w = jsh st (jgo w a 4 fun _ => jcl (cl 99 [jr a, v0] w) (fun v w' => jblk jT0 100 cl bk n 30 [l0, l1] (jpush v st) w') (fun E w' => some (.inr E, w'))) := rfl
theorem E100_30 (l0 l1 : Option jV) (w : jH) : jblk jT0 100 cl bk (n + 1) 30 [l0, l1] [] w = some (.inl none, w) := rfl
end
theorem M81 (d : Nat) (r0 : Nat) (w : jH) : jme jT0 jMx (d + 1) 81 [jr r0] w = jblk jT0 81 (jme jT0 jMx d) (jlp jT0 81 (jme jT0 jMx d) 99999) 4000 0 [some (jr r0)] [] w := (show _ = jlp jT0 81 (jme jT0 jMx d) 100000 0 [some (jr r0)] [] w from rfl).trans jlp_s
theorem M82 (d : Nat) (r0 : Nat) (a1 : Int) (w : jH) : jme jT0 jMx (d + 1) 82 [jr r0, .inl a1] w = jblk jT0 82 (jme jT0 jMx d) (jlp jT0 82 (jme jT0 jMx d) 99999) 4000 0 [some (jr r0), some (.inl a1)] [] w := (show _ = jlp jT0 82 (jme jT0 jMx d) 100000 0 [some (jr r0), some (.inl a1)] [] w from rfl).trans jlp_s
theorem M83 (d : Nat) (r0 : Nat) (w : jH) : jme jT0 jMx (d + 1) 83 [jr r0] w = jblk jT0 83 (jme jT0 jMx d) (jlp jT0 83 (jme jT0 jMx d) 99999) 4000 0 [some (jr r0)] [] w := (show _ = jlp jT0 83 (jme jT0 jMx d) 100000 0 [some (jr r0)] [] w from rfl).trans jlp_s
theorem M84 (d : Nat) (r0 : Nat) (a1 : Int) (w : jH) : jme jT0 jMx (d + 1) 84 [jr r0, .inl a1] w = jblk jT0 84 (jme jT0 jMx d) (jlp jT0 84 (jme jT0 jMx d) 99999) 4000 0 [some (jr r0), some (.inl a1)] [] w := (show _ = jlp jT0 84 (jme jT0 jMx d) 100000 0 [some (jr r0), some (.inl a1)] [] w from rfl).trans jlp_s
theorem M85 (d : Nat) (r0 : Nat) (a1 : Int) (w : jH) : jme jT0 jMx (d + 1) 85 [jr r0, .inl a1] w = jblk jT0 85 (jme jT0 jMx d) (jlp jT0 85 (jme jT0 jMx d) 99999) 4000 0 [some (jr r0), some (.inl a1)] [] w := (show _ = jlp jT0 85 (jme jT0 jMx d) 100000 0 [some (jr r0), some (.inl a1)] [] w from rfl).trans jlp_s
theorem M86 (d : Nat) (r0 : Nat) (a1 : Int) (w : jH) : jme jT0 jMx (d + 1) 86 [jr r0, .inl a1] w = jblk jT0 86 (jme jT0 jMx d) (jlp jT0 86 (jme jT0 jMx d) 99999) 4000 0 [some (jr r0), some (.inl a1)] [] w := (show _ = jlp jT0 86 (jme jT0 jMx d) 100000 0 [some (jr r0), some (.inl a1)] [] w from rfl).trans jlp_s
theorem M87 (d : Nat) (r0 : Nat) (a1 : Int) (w : jH) : jme jT0 jMx (d + 1) 87 [jr r0, .inl a1] w = jblk jT0 87 (jme jT0 jMx d) (jlp jT0 87 (jme jT0 jMx d) 99999) 4000 0 [some (jr r0), some (.inl a1)] [] w := (show _ = jlp jT0 87 (jme jT0 jMx d) 100000 0 [some (jr r0), some (.inl a1)] [] w from rfl).trans jlp_s
theorem M88 (d : Nat) (r0 : Nat) (w : jH) : jme jT0 jMx (d + 1) 88 [jr r0] w = jblk jT0 88 (jme jT0 jMx d) (jlp jT0 88 (jme jT0 jMx d) 99999) 4000 0 [some (jr r0), none] [] w := (show _ = jlp jT0 88 (jme jT0 jMx d) 100000 0 [some (jr r0), none] [] w from rfl).trans jlp_s
theorem M89 (d : Nat) (r0 : Nat) (a1 : Int) (w : jH) : jme jT0 jMx (d + 1) 89 [jr r0, .inl a1] w = jblk jT0 89 (jme jT0 jMx d) (jlp jT0 89 (jme jT0 jMx d) 99999) 4000 0 [some (jr r0), some (.inl a1), none] [] w := (show _ = jlp jT0 89 (jme jT0 jMx d) 100000 0 [some (jr r0), some (.inl a1), none] [] w from rfl).trans jlp_s
theorem M90 (d : Nat) (r0 : Nat) (a1 : Int) (a2 : Int) (w : jH) : jme jT0 jMx (d + 1) 90 [jr r0, .inl a1, .inl a2] w = jblk jT0 90 (jme jT0 jMx d) (jlp jT0 90 (jme jT0 jMx d) 99999) 4000 0 [some (jr r0), some (.inl a1), some (.inl a2), none] [] w := (show _ = jlp jT0 90 (jme jT0 jMx d) 100000 0 [some (jr r0), some (.inl a1), some (.inl a2), none] [] w from rfl).trans jlp_s
theorem M91 (d : Nat) (r0 : Nat) (a1 : Int) (w : jH) : jme jT0 jMx (d + 1) 91 [jr r0, .inl a1] w = jblk jT0 91 (jme jT0 jMx d) (jlp jT0 91 (jme jT0 jMx d) 99999) 4000 0 [some (jr r0), some (.inl a1), none, none, none] [] w := (show _ = jlp jT0 91 (jme jT0 jMx d) 100000 0 [some (jr r0), some (.inl a1), none, none, none] [] w from rfl).trans jlp_s
theorem M92 (d : Nat) (r0 : Nat) (w : jH) : jme jT0 jMx (d + 1) 92 [jr r0] w = jblk jT0 92 (jme jT0 jMx d) (jlp jT0 92 (jme jT0 jMx d) 99999) 4000 0 [some (jr r0)] [] w := (show _ = jlp jT0 92 (jme jT0 jMx d) 100000 0 [some (jr r0)] [] w from rfl).trans jlp_s
theorem M93 (d : Nat) (r0 : Nat) (a1 : Int) (w : jH) : jme jT0 jMx (d + 1) 93 [jr r0, .inl a1] w = jblk jT0 93 (jme jT0 jMx d) (jlp jT0 93 (jme jT0 jMx d) 99999) 4000 0 [some (jr r0), some (.inl a1)] [] w := (show _ = jlp jT0 93 (jme jT0 jMx d) 100000 0 [some (jr r0), some (.inl a1)] [] w from rfl).trans jlp_s
theorem M94 (d : Nat) (r0 : Nat) (w : jH) : jme jT0 jMx (d + 1) 94 [jr r0] w = jblk jT0 94 (jme jT0 jMx d) (jlp jT0 94 (jme jT0 jMx d) 99999) 4000 0 [some (jr r0)] [] w := (show _ = jlp jT0 94 (jme jT0 jMx d) 100000 0 [some (jr r0)] [] w from rfl).trans jlp_s
theorem M96 (d : Nat) (r0 : Nat) (a1 : Int) (w : jH) : jme jT0 jMx (d + 1) 96 [jr r0, .inl a1] w = jblk jT0 96 (jme jT0 jMx d) (jlp jT0 96 (jme jT0 jMx d) 99999) 4000 0 [some (jr r0), some (.inl a1)] [] w := (show _ = jlp jT0 96 (jme jT0 jMx d) 100000 0 [some (jr r0), some (.inl a1)] [] w from rfl).trans jlp_s
theorem M97 (d : Nat) (r0 : Nat) (a1 : Int) (w : jH) : jme jT0 jMx (d + 1) 97 [jr r0, .inl a1] w = jblk jT0 97 (jme jT0 jMx d) (jlp jT0 97 (jme jT0 jMx d) 99999) 4000 0 [some (jr r0), some (.inl a1)] [] w := (show _ = jlp jT0 97 (jme jT0 jMx d) 100000 0 [some (jr r0), some (.inl a1)] [] w from rfl).trans jlp_s
theorem M98 (d : Nat) (r0 : Nat) (w : jH) : jme jT0 jMx (d + 1) 98 [jr r0] w = jblk jT0 98 (jme jT0 jMx d) (jlp jT0 98 (jme jT0 jMx d) 99999) 4000 0 [some (jr r0)] [] w := (show _ = jlp jT0 98 (jme jT0 jMx d) 100000 0 [some (jr r0)] [] w from rfl).trans jlp_s
theorem M99 (d : Nat) (r0 : Nat) (a1 : Int) (w : jH) : jme jT0 jMx (d + 1) 99 [jr r0, .inl a1] w = jblk jT0 99 (jme jT0 jMx d) (jlp jT0 99 (jme jT0 jMx d) 99999) 4000 0 [some (jr r0), some (.inl a1)] [] w := (show _ = jlp jT0 99 (jme jT0 jMx d) 100000 0 [some (jr r0), some (.inl a1)] [] w from rfl).trans jlp_s
theorem M100 (d : Nat) (r0 : Nat) (a1 : Int) (w : jH) : jme jT0 jMx (d + 1) 100 [jr r0, .inl a1] w = jblk jT0 100 (jme jT0 jMx d) (jlp jT0 100 (jme jT0 jMx d) 99999) 4000 0 [some (jr r0), some (.inl a1)] [] w := (show _ = jlp jT0 100 (jme jT0 jMx d) 100000 0 [some (jr r0), some (.inl a1)] [] w from rfl).trans jlp_s
def f_Script_isFull (m : jMem) : Option Int := if (m 139 1) < 60 then some 0 else some 1
section
variable {cf : jCf} {dv : UInt64}
set_option maxRecDepth 20000 in
set_option maxHeartbeats 4000000 in
theorem X81 (d : Nat) (m : jMem) (k : jM) : jme jT0 jMx (d + 1) 81 [jr (jn cf + 139)] (hp cf dv m, k) = l0 cf dv m k ijI (f_Script_isFull m) := by
  simp only [M81, E81_0, E81_1, E81_4, E81_6, E81_9, E81_10, E81_13, E81_14, gf_139_1, jsh_n, jsh_I, jsh_R, jsh_II, jsh_IR, jsh_RI, jsh_RR, jsh_III, jsh_IIR, jsh_IRI, jsh_IRR, jsh_RII, jsh_RIR, jsh_RRI, jsh_RRR, jsh_IIII, jsh_IIIR, jsh_IIRI, jsh_IIRR, jsh_IRII, jsh_IRIR, jsh_IRRI, jsh_IRRR, jsh_RIII, jsh_RIIR, jsh_RIRI, jsh_RIRR, jsh_RRII, jsh_RRIR, jsh_RRRI, jsh_RRRR, jthr_hp, jc_l0, jc_lW, jc_lX, jc_lXW, jc_lVW, jc_lVX, jpush_n, jpush_s, obt_0, obt_1, och_0, och_32, och_100, och_115, och_104, och_33, och_43, och_60, jint, jbit, jchr, ijI, ijR, ijD, ijF, ↓reduceIte, Int.reduceEq, Int.reduceLT, reduceCtorEq, l0_bind, l0_ite, l0_none, l0_oix, l0_obt, l0_och, l0_sel, l0_oel, l0_some, f_Script_isFull]
end
def f_Script_append (m : jMem) (a1 : Int) : Option jMem := if (m 139 1) < 0 then some (m) else if (m 139 1) < 60 then oix (m 139 1) 60 (och a1 (some (mset (mset m 140 (m 139 1).toNat a1) 139 1 (jw (((mset m 140 (m 139 1).toNat a1) 139 1) + 1))))) else some (m)
section
variable {cf : jCf} {dv : UInt64}
set_option maxRecDepth 20000 in
set_option maxHeartbeats 4000000 in
theorem X82 (d : Nat) (a1 : Int) (m : jMem) (k : jM) : jme jT0 jMx (d + 1) 82 [jr (jn cf + 139), .inl a1] (hp cf dv m, k) = lVW cf dv k (f_Script_append m a1) := by
  simp only [M82, E82_0, E82_1, E82_4, E82_7, E82_8, E82_11, E82_13, E82_16, E82_17, E82_20, E82_21, E82_24, E82_25, E82_26, E82_27_0, E82_27_1, E82_28, E82_31, E82_32, E82_33, E82_36, as_140, gf_139_0, gf_139_1, pf_139_1, jsh_n, jsh_I, jsh_R, jsh_II, jsh_IR, jsh_RI, jsh_RR, jsh_III, jsh_IIR, jsh_IRI, jsh_IRR, jsh_RII, jsh_RIR, jsh_RRI, jsh_RRR, jsh_IIII, jsh_IIIR, jsh_IIRI, jsh_IIRR, jsh_IRII, jsh_IRIR, jsh_IRRI, jsh_IRRR, jsh_RIII, jsh_RIIR, jsh_RIRI, jsh_RIRR, jsh_RRII, jsh_RRIR, jsh_RRRI, jsh_RRRR, jthr_hp, jc_l0, jc_lW, jc_lX, jc_lXW, jc_lVW, jc_lVX, jpush_n, jpush_s, obt_0, obt_1, och_0, och_32, och_100, och_115, och_104, och_33, och_43, och_60, jint, jbit, jchr, ijI, ijR, ijD, ijF, ↓reduceIte, Int.reduceEq, Int.reduceLT, reduceCtorEq, lVW_bind, lVW_ite, lVW_none, lVW_oix, lVW_obt, lVW_och, lVW_sel, lVW_oel, lVW_some, f_Script_append]
end
def f_Script_clear (m : jMem) : Option jMem := some (mset m 139 1 0)
section
variable {cf : jCf} {dv : UInt64}
set_option maxRecDepth 20000 in
set_option maxHeartbeats 4000000 in
theorem X83 (d : Nat) (m : jMem) (k : jM) : jme jT0 jMx (d + 1) 83 [jr (jn cf + 139)] (hp cf dv m, k) = lVW cf dv k (f_Script_clear m) := by
  simp only [M83, E83_0, E83_1, E83_2, E83_5, pf_139_1, jsh_n, jsh_I, jsh_R, jsh_II, jsh_IR, jsh_RI, jsh_RR, jsh_III, jsh_IIR, jsh_IRI, jsh_IRR, jsh_RII, jsh_RIR, jsh_RRI, jsh_RRR, jsh_IIII, jsh_IIIR, jsh_IIRI, jsh_IIRR, jsh_IRII, jsh_IRIR, jsh_IRRI, jsh_IRRR, jsh_RIII, jsh_RIIR, jsh_RIRI, jsh_RIRR, jsh_RRII, jsh_RRIR, jsh_RRRI, jsh_RRRR, jthr_hp, jc_l0, jc_lW, jc_lX, jc_lXW, jc_lVW, jc_lVX, jpush_n, jpush_s, obt_0, obt_1, och_0, och_32, och_100, och_115, och_104, och_33, och_43, och_60, jint, jbit, jchr, ijI, ijR, ijD, ijF, ↓reduceIte, Int.reduceEq, Int.reduceLT, reduceCtorEq, lVW_bind, lVW_ite, lVW_none, lVW_oix, lVW_obt, lVW_och, lVW_sel, lVW_oel, lVW_some, f_Script_clear]
end
def f_Script_letter (m : jMem) (a1 : Int) : Option Int := if a1 < 0 then some 32 else if a1 < (m 139 7) then oix a1 60 (some (m 141 a1.toNat)) else some 32
section
variable {cf : jCf} {dv : UInt64}
set_option maxRecDepth 20000 in
set_option maxHeartbeats 4000000 in
theorem X84 (d : Nat) (a1 : Int) (m : jMem) (k : jM) : jme jT0 jMx (d + 1) 84 [jr (jn cf + 139), .inl a1] (hp cf dv m, k) = l0 cf dv m k ijI (f_Script_letter m a1) := by
  simp only [M84, E84_0, E84_1, E84_4, E84_5, E84_6, E84_9, E84_12, E84_13, E84_16, E84_17, E84_18, E84_21, E84_23, ai_141, gf_139_3, gf_139_7, jsh_n, jsh_I, jsh_R, jsh_II, jsh_IR, jsh_RI, jsh_RR, jsh_III, jsh_IIR, jsh_IRI, jsh_IRR, jsh_RII, jsh_RIR, jsh_RRI, jsh_RRR, jsh_IIII, jsh_IIIR, jsh_IIRI, jsh_IIRR, jsh_IRII, jsh_IRIR, jsh_IRRI, jsh_IRRR, jsh_RIII, jsh_RIIR, jsh_RIRI, jsh_RIRR, jsh_RRII, jsh_RRIR, jsh_RRRI, jsh_RRRR, jthr_hp, jc_l0, jc_lW, jc_lX, jc_lXW, jc_lVW, jc_lVX, jpush_n, jpush_s, obt_0, obt_1, och_0, och_32, och_100, och_115, och_104, och_33, och_43, och_60, jint, jbit, jchr, ijI, ijR, ijD, ijF, ↓reduceIte, Int.reduceEq, Int.reduceLT, reduceCtorEq, l0_bind, l0_ite, l0_none, l0_oix, l0_obt, l0_och, l0_sel, l0_oel, l0_some, f_Script_letter]
end
def f_Script_firstNumber (m : jMem) (a1 : Int) : Option Int := if a1 < 0 then some (-1) else if a1 < (m 139 7) then oix a1 60 (some (m 142 a1.toNat)) else some (-1)
section
variable {cf : jCf} {dv : UInt64}
set_option maxRecDepth 20000 in
set_option maxHeartbeats 4000000 in
theorem X85 (d : Nat) (a1 : Int) (m : jMem) (k : jM) : jme jT0 jMx (d + 1) 85 [jr (jn cf + 139), .inl a1] (hp cf dv m, k) = l0 cf dv m k ijI (f_Script_firstNumber m a1) := by
  simp only [M85, E85_0, E85_1, E85_4, E85_5, E85_6, E85_9, E85_12, E85_13, E85_16, E85_17, E85_18, E85_21, E85_22, ai_142, gf_139_4, gf_139_7, jsh_n, jsh_I, jsh_R, jsh_II, jsh_IR, jsh_RI, jsh_RR, jsh_III, jsh_IIR, jsh_IRI, jsh_IRR, jsh_RII, jsh_RIR, jsh_RRI, jsh_RRR, jsh_IIII, jsh_IIIR, jsh_IIRI, jsh_IIRR, jsh_IRII, jsh_IRIR, jsh_IRRI, jsh_IRRR, jsh_RIII, jsh_RIIR, jsh_RIRI, jsh_RIRR, jsh_RRII, jsh_RRIR, jsh_RRRI, jsh_RRRR, jthr_hp, jc_l0, jc_lW, jc_lX, jc_lXW, jc_lVW, jc_lVX, jpush_n, jpush_s, obt_0, obt_1, och_0, och_32, och_100, och_115, och_104, och_33, och_43, och_60, jint, jbit, jchr, ijI, ijR, ijD, ijF, ↓reduceIte, Int.reduceEq, Int.reduceLT, reduceCtorEq, l0_bind, l0_ite, l0_none, l0_oix, l0_obt, l0_och, l0_sel, l0_oel, l0_some, f_Script_firstNumber]
end
def f_Script_kind (m : jMem) (a1 : Int) : Option Int := if a1 < 0 then some 32 else if a1 < (m 139 7) then oix a1 60 (och (m 143 a1.toNat) (some (m 143 a1.toNat))) else some 32
section
variable {cf : jCf} {dv : UInt64}
set_option maxRecDepth 20000 in
set_option maxHeartbeats 4000000 in
theorem X86 (d : Nat) (a1 : Int) (m : jMem) (k : jM) : jme jT0 jMx (d + 1) 86 [jr (jn cf + 139), .inl a1] (hp cf dv m, k) = l0 cf dv m k ijI (f_Script_kind m a1) := by
  simp only [M86, E86_0, E86_1, E86_4, E86_5, E86_6, E86_9, E86_12, E86_13, E86_16, E86_17, E86_18, E86_21, E86_23, ai_143, gf_139_5, gf_139_7, jsh_n, jsh_I, jsh_R, jsh_II, jsh_IR, jsh_RI, jsh_RR, jsh_III, jsh_IIR, jsh_IRI, jsh_IRR, jsh_RII, jsh_RIR, jsh_RRI, jsh_RRR, jsh_IIII, jsh_IIIR, jsh_IIRI, jsh_IIRR, jsh_IRII, jsh_IRIR, jsh_IRRI, jsh_IRRR, jsh_RIII, jsh_RIIR, jsh_RIRI, jsh_RIRR, jsh_RRII, jsh_RRIR, jsh_RRRI, jsh_RRRR, jthr_hp, jc_l0, jc_lW, jc_lX, jc_lXW, jc_lVW, jc_lVX, jpush_n, jpush_s, obt_0, obt_1, och_0, och_32, och_100, och_115, och_104, och_33, och_43, och_60, jint, jbit, jchr, ijI, ijR, ijD, ijF, ↓reduceIte, Int.reduceEq, Int.reduceLT, reduceCtorEq, l0_bind, l0_ite, l0_none, l0_oix, l0_obt, l0_och, l0_sel, l0_oel, l0_some, f_Script_kind]
end
def f_Script_secondNumber (m : jMem) (a1 : Int) : Option Int := if a1 < 0 then some (-1) else if a1 < (m 139 7) then oix a1 60 (some (m 144 a1.toNat)) else some (-1)
section
variable {cf : jCf} {dv : UInt64}
set_option maxRecDepth 20000 in
set_option maxHeartbeats 4000000 in
theorem X87 (d : Nat) (a1 : Int) (m : jMem) (k : jM) : jme jT0 jMx (d + 1) 87 [jr (jn cf + 139), .inl a1] (hp cf dv m, k) = l0 cf dv m k ijI (f_Script_secondNumber m a1) := by
  simp only [M87, E87_0, E87_1, E87_4, E87_5, E87_6, E87_9, E87_12, E87_13, E87_16, E87_17, E87_18, E87_21, E87_22, ai_144, gf_139_6, gf_139_7, jsh_n, jsh_I, jsh_R, jsh_II, jsh_IR, jsh_RI, jsh_RR, jsh_III, jsh_IIR, jsh_IRI, jsh_IRR, jsh_RII, jsh_RIR, jsh_RRI, jsh_RRR, jsh_IIII, jsh_IIIR, jsh_IIRI, jsh_IIRR, jsh_IRII, jsh_IRIR, jsh_IRRI, jsh_IRRR, jsh_RIII, jsh_RIIR, jsh_RIRI, jsh_RIRR, jsh_RRII, jsh_RRIR, jsh_RRRI, jsh_RRRR, jthr_hp, jc_l0, jc_lW, jc_lX, jc_lXW, jc_lVW, jc_lVX, jpush_n, jpush_s, obt_0, obt_1, och_0, och_32, och_100, och_115, och_104, och_33, och_43, och_60, jint, jbit, jchr, ijI, ijR, ijD, ijF, ↓reduceIte, Int.reduceEq, Int.reduceLT, reduceCtorEq, l0_bind, l0_ite, l0_none, l0_oix, l0_obt, l0_och, l0_sel, l0_oel, l0_some, f_Script_secondNumber]
end
def f_Script_current (m : jMem) : Option Int := if (m 139 2) < 0 then some 0 else if (m 139 2) < (m 139 1) then oix (m 139 2) 60 (och (m 140 (m 139 2).toNat) (some (m 140 (m 139 2).toNat))) else some 0
section
variable {cf : jCf} {dv : UInt64}
set_option maxRecDepth 20000 in
set_option maxHeartbeats 4000000 in
theorem X94 (d : Nat) (m : jMem) (k : jM) : jme jT0 jMx (d + 1) 94 [jr (jn cf + 139)] (hp cf dv m, k) = l0 cf dv m k ijI (f_Script_current m) := by
  simp only [M94, E94_0, E94_1, E94_4, E94_7, E94_8, E94_11, E94_12, E94_15, E94_18, E94_19, E94_22, E94_23, E94_26, E94_27, E94_30, E94_31, ai_140, gf_139_0, gf_139_1, gf_139_2, jsh_n, jsh_I, jsh_R, jsh_II, jsh_IR, jsh_RI, jsh_RR, jsh_III, jsh_IIR, jsh_IRI, jsh_IRR, jsh_RII, jsh_RIR, jsh_RRI, jsh_RRR, jsh_IIII, jsh_IIIR, jsh_IIRI, jsh_IIRR, jsh_IRII, jsh_IRIR, jsh_IRRI, jsh_IRRR, jsh_RIII, jsh_RIIR, jsh_RIRI, jsh_RIRR, jsh_RRII, jsh_RRIR, jsh_RRRI, jsh_RRRR, jthr_hp, jc_l0, jc_lW, jc_lX, jc_lXW, jc_lVW, jc_lVX, jpush_n, jpush_s, obt_0, obt_1, och_0, och_32, och_100, och_115, och_104, och_33, och_43, och_60, jint, jbit, jchr, ijI, ijR, ijD, ijF, ↓reduceIte, Int.reduceEq, Int.reduceLT, reduceCtorEq, l0_bind, l0_ite, l0_none, l0_oix, l0_obt, l0_och, l0_sel, l0_oel, l0_some, f_Script_current]
end
def f_Script_readNumberL : Nat → jMem → Int → Int → Int → Option (Int × jMem)
  | 0, _, _, _, _ => none
  | N + 1, m, a1, a2, a3 => if a3 < a1 then (f_Script_current m).bind fun x1 => if x1 < 48 then some (a2, m) else if 57 < x1 then some (a2, m) else f_Script_readNumberL N (mset m 139 2 (jw ((m 139 2) + 1))) a1 (jw ((jw ((if a2 < 0 then 0 else a2) * 10)) + (jw (x1 - 48)))) (jw (a3 + 1)) else some (a2, m)
def f_Script_readNumber (m : jMem) (a1 : Int) : Option (Int × jMem) := f_Script_readNumberL 99999 m a1 (-1) 0
section
variable {cf : jCf} {dv : UInt64}
set_option maxRecDepth 20000 in
set_option maxHeartbeats 4000000 in
theorem X91L (d : Nat) : ∀ (N : Nat) (m : jMem) (k : jM), (∀ (a1 a2 a3 : Int) (z4 : Option jV), jlp jT0 91 (jme jT0 jMx (d + 1)) N 4 [some (jr (jn cf + 139)), some (.inl a1), some (.inl a2), some (.inl a3), z4] [] (hp cf dv m, k) = lW cf dv k ijI (f_Script_readNumberL N m a1 a2 a3)) := by
  intro N
  induction N with
  | zero => intro m k; exact by intros; rfl
  | succ N ih =>
    intro m k
    intros
    rw [jlp_s]
    simp only [E91_0, E91_1, E91_2, E91_3, E91_4, E91_5, E91_6, E91_9, E91_10, E91_13, E91_15, E91_17, E91_19, E91_22, E91_24, E91_26, E91_29, E91_30, E91_31, E91_32, E91_33, E91_36, E91_38, E91_39, E91_41, E91_43, E91_44, E91_45, E91_46, E91_47_0, E91_47_1, E91_48, E91_51, E91_52, E91_53, E91_56, E91_59, E91_62, E91_63, gf_139_2, pf_139_2, X94, go_139, jsh_n, jsh_I, jsh_R, jsh_II, jsh_IR, jsh_RI, jsh_RR, jsh_III, jsh_IIR, jsh_IRI, jsh_IRR, jsh_RII, jsh_RIR, jsh_RRI, jsh_RRR, jsh_IIII, jsh_IIIR, jsh_IIRI, jsh_IIRR, jsh_IRII, jsh_IRIR, jsh_IRRI, jsh_IRRR, jsh_RIII, jsh_RIIR, jsh_RIRI, jsh_RIRR, jsh_RRII, jsh_RRIR, jsh_RRRI, jsh_RRRR, jthr_hp, jc_l0, jc_lW, jc_lX, jc_lXW, jc_lVW, jc_lVX, jpush_n, jpush_s, obt_0, obt_1, och_0, och_32, och_100, och_115, och_104, och_33, och_43, och_60, jint, jbit, jchr, ijI, ijR, ijD, ijF, ↓reduceIte, Int.reduceEq, Int.reduceLT, reduceCtorEq, lW_bind, lW_ite, lW_none, lW_oix, lW_obt, lW_och, lW_sel, lW_oel, lW_some, f_Script_readNumberL, ih]
set_option maxRecDepth 20000 in
set_option maxHeartbeats 4000000 in
theorem X91 (d : Nat) (a1 : Int) (m : jMem) (k : jM) : jme jT0 jMx (d + 2) 91 [jr (jn cf + 139), .inl a1] (hp cf dv m, k) = lW cf dv k ijI (f_Script_readNumber m a1) := by
  simp only [M91, E91_0, E91_1, E91_2, E91_3, E91_4, E91_5, E91_6, E91_9, E91_10, E91_13, E91_15, E91_17, E91_19, E91_22, E91_24, E91_26, E91_29, E91_30, E91_31, E91_32, E91_33, E91_36, E91_38, E91_39, E91_41, E91_43, E91_44, E91_45, E91_46, E91_47_0, E91_47_1, E91_48, E91_51, E91_52, E91_53, E91_56, E91_59, E91_62, E91_63, gf_139_2, pf_139_2, X94, go_139, jsh_n, jsh_I, jsh_R, jsh_II, jsh_IR, jsh_RI, jsh_RR, jsh_III, jsh_IIR, jsh_IRI, jsh_IRR, jsh_RII, jsh_RIR, jsh_RRI, jsh_RRR, jsh_IIII, jsh_IIIR, jsh_IIRI, jsh_IIRR, jsh_IRII, jsh_IRIR, jsh_IRRI, jsh_IRRR, jsh_RIII, jsh_RIIR, jsh_RIRI, jsh_RIRR, jsh_RRII, jsh_RRIR, jsh_RRRI, jsh_RRRR, jthr_hp, jc_l0, jc_lW, jc_lX, jc_lXW, jc_lVW, jc_lVX, jpush_n, jpush_s, obt_0, obt_1, och_0, och_32, och_100, och_115, och_104, och_33, och_43, och_60, jint, jbit, jchr, ijI, ijR, ijD, ijF, ↓reduceIte, Int.reduceEq, Int.reduceLT, reduceCtorEq, lW_bind, lW_ite, lW_none, lW_oix, lW_obt, lW_och, lW_sel, lW_oel, lW_some, f_Script_readNumber, X91L]
end
def f_Script_skip (m : jMem) (a1 : Int) : Option (Int × jMem) := (f_Script_current m).bind fun x1 => if x1 = a1 then some (1, mset m 139 2 (jw ((m 139 2) + 1))) else some (0, m)
section
variable {cf : jCf} {dv : UInt64}
set_option maxRecDepth 20000 in
set_option maxHeartbeats 4000000 in
theorem X93 (d : Nat) (a1 : Int) (m : jMem) (k : jM) : jme jT0 jMx (d + 2) 93 [jr (jn cf + 139), .inl a1] (hp cf dv m, k) = lW cf dv k ijI (f_Script_skip m a1) := by
  simp only [M93, E93_0, E93_1, E93_4, E93_5, E93_8, E93_9, E93_10, E93_11_0, E93_11_1, E93_12, E93_15, E93_16, E93_17, E93_20, E93_21, gf_139_2, pf_139_2, X94, go_139, jsh_n, jsh_I, jsh_R, jsh_II, jsh_IR, jsh_RI, jsh_RR, jsh_III, jsh_IIR, jsh_IRI, jsh_IRR, jsh_RII, jsh_RIR, jsh_RRI, jsh_RRR, jsh_IIII, jsh_IIIR, jsh_IIRI, jsh_IIRR, jsh_IRII, jsh_IRIR, jsh_IRRI, jsh_IRRR, jsh_RIII, jsh_RIIR, jsh_RIRI, jsh_RIRR, jsh_RRII, jsh_RRIR, jsh_RRRI, jsh_RRRR, jthr_hp, jc_l0, jc_lW, jc_lX, jc_lXW, jc_lVW, jc_lVX, jpush_n, jpush_s, obt_0, obt_1, och_0, och_32, och_100, och_115, och_104, och_33, och_43, och_60, jint, jbit, jchr, ijI, ijR, ijD, ijF, ↓reduceIte, Int.reduceEq, Int.reduceLT, reduceCtorEq, lW_bind, lW_ite, lW_none, lW_oix, lW_obt, lW_och, lW_sel, lW_oel, lW_some, f_Script_skip]
end
def f_Script_readSecond (m : jMem) (a1 : Int) (a2 : Int) : Option (Int × jMem) := (f_Script_readNumber m a2).bind fun qx1 => if a1 < 0 then if qx1.1 = (-1) then some (0, qx1.2) else some (1, qx1.2) else if a1 < 60 then oix a1 60 (if qx1.1 = (-1) then some (0, mset qx1.2 144 a1.toNat qx1.1) else some (1, mset qx1.2 144 a1.toNat qx1.1)) else if qx1.1 = (-1) then some (0, qx1.2) else some (1, qx1.2)
section
variable {cf : jCf} {dv : UInt64}
set_option maxRecDepth 20000 in
set_option maxHeartbeats 4000000 in
theorem X90 (d : Nat) (a1 : Int) (a2 : Int) (m : jMem) (k : jM) : jme jT0 jMx (d + 3) 90 [jr (jn cf + 139), .inl a1, .inl a2] (hp cf dv m, k) = lW cf dv k ijI (f_Script_readSecond m a1 a2) := by
  simp only [M90, E90_0, E90_1, E90_2, E90_5, E90_6, E90_7, E90_10, E90_11, E90_13, E90_16, E90_17, E90_20, E90_21, E90_22, E90_23, E90_24, E90_25, E90_28, E90_29, E90_32, E90_33, as_144, gf_139_6, X91, go_139, jsh_n, jsh_I, jsh_R, jsh_II, jsh_IR, jsh_RI, jsh_RR, jsh_III, jsh_IIR, jsh_IRI, jsh_IRR, jsh_RII, jsh_RIR, jsh_RRI, jsh_RRR, jsh_IIII, jsh_IIIR, jsh_IIRI, jsh_IIRR, jsh_IRII, jsh_IRIR, jsh_IRRI, jsh_IRRR, jsh_RIII, jsh_RIIR, jsh_RIRI, jsh_RIRR, jsh_RRII, jsh_RRIR, jsh_RRRI, jsh_RRRR, jthr_hp, jc_l0, jc_lW, jc_lX, jc_lXW, jc_lVW, jc_lVX, jpush_n, jpush_s, obt_0, obt_1, och_0, och_32, och_100, och_115, och_104, och_33, och_43, och_60, jint, jbit, jchr, ijI, ijR, ijD, ijF, ↓reduceIte, Int.reduceEq, Int.reduceLT, reduceCtorEq, lW_bind, lW_ite, lW_none, lW_oix, lW_obt, lW_och, lW_sel, lW_oel, lW_some, f_Script_readSecond]
end
def f_Script_skipKind (m : jMem) : Option (Int × jMem) := (f_Script_current m).bind fun x1 => (f_Reg_isKind m x1).bind fun x2 => if x2 = 0 then some (0, m) else (f_Script_current m).bind fun x3 => (f_Script_skip m x3).bind fun qx4 => if qx4.1 = 0 then some (0, qx4.2) else some (1, qx4.2)
section
variable {cf : jCf} {dv : UInt64}
set_option maxRecDepth 20000 in
set_option maxHeartbeats 4000000 in
theorem X92 (d : Nat) (m : jMem) (k : jM) : jme jT0 jMx (d + 3) 92 [jr (jn cf + 139)] (hp cf dv m, k) = lW cf dv k ijI (f_Script_skipKind m) := by
  simp only [M92, E92_0, E92_1, E92_4, E92_7, E92_10, E92_11, E92_12, E92_15, E92_18, E92_21, E92_22, E92_25, E92_26, X173, X93, X94, go_139, jsh_n, jsh_I, jsh_R, jsh_II, jsh_IR, jsh_RI, jsh_RR, jsh_III, jsh_IIR, jsh_IRI, jsh_IRR, jsh_RII, jsh_RIR, jsh_RRI, jsh_RRR, jsh_IIII, jsh_IIIR, jsh_IIRI, jsh_IIRR, jsh_IRII, jsh_IRIR, jsh_IRRI, jsh_IRRR, jsh_RIII, jsh_RIIR, jsh_RIRI, jsh_RIRR, jsh_RRII, jsh_RRIR, jsh_RRRI, jsh_RRRR, jthr_hp, jc_l0, jc_lW, jc_lX, jc_lXW, jc_lVW, jc_lVX, jpush_n, jpush_s, obt_0, obt_1, och_0, och_32, och_100, och_115, och_104, och_33, och_43, och_60, jint, jbit, jchr, ijI, ijR, ijD, ijF, ↓reduceIte, Int.reduceEq, Int.reduceLT, reduceCtorEq, lW_bind, lW_ite, lW_none, lW_oix, lW_obt, lW_och, lW_sel, lW_oel, lW_some, f_Script_skipKind]
end
def f_Script_readCommand (m : jMem) (a1 : Int) : Option (Int × jMem) := if a1 < 0 then some (0, m) else if a1 < 60 then (f_Script_current m).bind fun x1 => if (jidx x1) < 0 then some (0, m) else oix a1 60 (oix a1 60 (if ((mset (mset m 139 2 (jw ((m 139 2) + 1))) 141 a1.toNat x1) 141 a1.toNat) = 97 then (f_Script_readNumber (mset (mset m 139 2 (jw ((m 139 2) + 1))) 141 a1.toNat x1) 2).bind fun qx7 => oix a1 60 ((f_Script_current (mset qx7.2 142 a1.toNat qx7.1)).bind fun x8 => oix a1 60 (och x8 (oix a1 60 (if ((mset (mset qx7.2 142 a1.toNat qx7.1) 143 a1.toNat x8) 142 a1.toNat) = (-1) then some (0, mset (mset qx7.2 142 a1.toNat qx7.1) 143 a1.toNat x8) else (f_Script_skipKind (mset (mset qx7.2 142 a1.toNat qx7.1) 143 a1.toNat x8)).bind fun qx9 => if qx9.1 = 0 then some (0, qx9.2) else (f_Script_readSecond qx9.2 a1 1).bind fun qx10 => if qx10.1 = 0 then some (0, qx10.2) else some (1, qx10.2))))) else if ((mset (mset m 139 2 (jw ((m 139 2) + 1))) 141 a1.toNat x1) 141 a1.toNat) = 102 then some (1, mset (mset m 139 2 (jw ((m 139 2) + 1))) 141 a1.toNat x1) else if ((mset (mset m 139 2 (jw ((m 139 2) + 1))) 141 a1.toNat x1) 141 a1.toNat) = 103 then (f_Script_readNumber (mset (mset m 139 2 (jw ((m 139 2) + 1))) 141 a1.toNat x1) 2).bind fun qx4 => oix a1 60 (oix a1 60 (if ((mset qx4.2 142 a1.toNat qx4.1) 142 a1.toNat) = (-1) then some (0, mset qx4.2 142 a1.toNat qx4.1) else (f_Script_skip (mset qx4.2 142 a1.toNat qx4.1) 62).bind fun qx5 => if qx5.1 = 0 then some (0, qx5.2) else (f_Script_readSecond qx5.2 a1 2).bind fun qx6 => if qx6.1 = 0 then some (0, qx6.2) else some (1, qx6.2))) else if ((mset (mset m 139 2 (jw ((m 139 2) + 1))) 141 a1.toNat x1) 141 a1.toNat) = 121 then (f_Script_readNumber (mset (mset m 139 2 (jw ((m 139 2) + 1))) 141 a1.toNat x1) 1).bind fun qx3 => oix a1 60 (oix a1 60 (if ((mset qx3.2 142 a1.toNat qx3.1) 142 a1.toNat) = (-1) then some (0, mset qx3.2 142 a1.toNat qx3.1) else some (1, mset qx3.2 142 a1.toNat qx3.1))) else (f_Script_readNumber (mset (mset m 139 2 (jw ((m 139 2) + 1))) 141 a1.toNat x1) 2).bind fun qx2 => oix a1 60 (oix a1 60 (if ((mset qx2.2 142 a1.toNat qx2.1) 142 a1.toNat) = (-1) then some (0, mset qx2.2 142 a1.toNat qx2.1) else some (1, mset qx2.2 142 a1.toNat qx2.1))))) else some (0, m)
section
variable {cf : jCf} {dv : UInt64}
set_option maxRecDepth 20000 in
set_option maxHeartbeats 4000000 in
theorem X89 (d : Nat) (a1 : Int) (m : jMem) (k : jM) : jme jT0 jMx (d + 4) 89 [jr (jn cf + 139), .inl a1] (hp cf dv m, k) = lW cf dv k ijI (f_Script_readCommand m a1) := by
  simp only [M89, E89_0, E89_1, E89_4, E89_5, E89_7, E89_10, E89_11, E89_12, E89_13, E89_16, E89_17, E89_23, E89_26, E89_27, E89_28, E89_29_0, E89_29_1, E89_30, E89_33, E89_34, E89_35, E89_38, E89_39, E89_42, E89_43, E89_44, E89_45, E89_46, E89_49, E89_50, E89_51, E89_92, E89_93, E89_94, E89_95, E89_98, E89_99, E89_100, E89_101, E89_104, E89_105, E89_106, E89_109, E89_110, E89_111, E89_112, E89_115, E89_116, E89_119, E89_120, E89_121, E89_122, E89_125, E89_126, E89_127, E89_128, E89_131, E89_132, E89_133, E89_136, E89_137, E89_138, E89_141, E89_142, E89_143, E89_146, E89_147, E89_148, E89_149, E89_152, E89_153, E89_156, E89_159, E89_160, E89_161, E89_162, E89_165, E89_168, E89_169, E89_172, E89_173, E89_174, E89_175, E89_178, E89_179, E89_180, E89_181, E89_184, E89_185, E89_186, E89_189, E89_190, E89_191, E89_192, E89_195, E89_196, E89_198, E89_201, E89_204, E89_205, E89_206, E89_207, E89_210, E89_213, E89_214, E89_217, E89_218, E89_219, E89_220, E89_223, E89_224, E89_225, E89_226, E89_229, E89_230, E89_231, E89_234, E89_235, E89_236, E89_237, E89_240, E89_241, E89_244, E89_245, ai_141, ai_142, as_141, as_142, as_143, gf_139_2, gf_139_3, gf_139_4, gf_139_5, pf_139_2, X90, X91, X92, X93, X94, go_139, jsh_n, jsh_I, jsh_R, jsh_II, jsh_IR, jsh_RI, jsh_RR, jsh_III, jsh_IIR, jsh_IRI, jsh_IRR, jsh_RII, jsh_RIR, jsh_RRI, jsh_RRR, jsh_IIII, jsh_IIIR, jsh_IIRI, jsh_IIRR, jsh_IRII, jsh_IRIR, jsh_IRRI, jsh_IRRR, jsh_RIII, jsh_RIIR, jsh_RIRI, jsh_RIRR, jsh_RRII, jsh_RRIR, jsh_RRRI, jsh_RRRR, jthr_hp, jc_l0, jc_lW, jc_lX, jc_lXW, jc_lVW, jc_lVX, jpush_n, jpush_s, obt_0, obt_1, och_0, och_32, och_100, och_115, och_104, och_33, och_43, och_60, jint, jbit, jchr, ijI, ijR, ijD, ijF, ↓reduceIte, Int.reduceEq, Int.reduceLT, reduceCtorEq, lW_bind, lW_ite, lW_none, lW_oix, lW_obt, lW_och, lW_sel, lW_oel, lW_some, f_Script_readCommand]
end
def f_Script_parseL : Nat → jMem → Int → Option (Int × jMem)
  | 0, _, _ => none
  | N + 1, m, a1 => if a1 < 60 then (f_Script_readCommand m a1).bind fun qx1 => if qx1.1 = 0 then some (0, qx1.2) else if ((mset qx1.2 139 7 (jw ((qx1.2 139 7) + 1))) 139 2) < ((mset qx1.2 139 7 (jw ((qx1.2 139 7) + 1))) 139 1) then (f_Script_skip (mset qx1.2 139 7 (jw ((qx1.2 139 7) + 1))) 59).bind fun qx2 => if qx2.1 = 0 then some (0, qx2.2) else f_Script_parseL N qx2.2 (jw (a1 + 1)) else some (1, mset qx1.2 139 7 (jw ((qx1.2 139 7) + 1))) else some (0, m)
def f_Script_parse (m : jMem) : Option (Int × jMem) := f_Script_parseL 99999 (mset (mset m 139 2 0) 139 7 0) 0
section
variable {cf : jCf} {dv : UInt64}
set_option maxRecDepth 20000 in
set_option maxHeartbeats 4000000 in
theorem X88L (d : Nat) : ∀ (N : Nat) (m : jMem) (k : jM), (∀ (a1 : Int), jlp jT0 88 (jme jT0 jMx (d + 4)) N 12 [some (jr (jn cf + 139)), some (.inl a1)] [] (hp cf dv m, k) = lW cf dv k ijI (f_Script_parseL N m a1)) := by
  intro N
  induction N with
  | zero => intro m k; exact by intros; rfl
  | succ N ih =>
    intro m k
    intros
    rw [jlp_s]
    simp only [E88_0, E88_1, E88_2, E88_5, E88_6, E88_7, E88_10, E88_11, E88_12, E88_13, E88_15, E88_18, E88_19, E88_20, E88_23, E88_26, E88_27, E88_28, E88_29_0, E88_29_1, E88_30, E88_33, E88_34, E88_35, E88_38, E88_39, E88_42, E88_43, E88_46, E88_49, E88_50, E88_51, E88_52, E88_54, E88_57, E88_60, E88_61, E88_62, E88_65, E88_68, E88_69, gf_139_1, gf_139_2, gf_139_7, pf_139_2, pf_139_7, X89, X93, go_139, jsh_n, jsh_I, jsh_R, jsh_II, jsh_IR, jsh_RI, jsh_RR, jsh_III, jsh_IIR, jsh_IRI, jsh_IRR, jsh_RII, jsh_RIR, jsh_RRI, jsh_RRR, jsh_IIII, jsh_IIIR, jsh_IIRI, jsh_IIRR, jsh_IRII, jsh_IRIR, jsh_IRRI, jsh_IRRR, jsh_RIII, jsh_RIIR, jsh_RIRI, jsh_RIRR, jsh_RRII, jsh_RRIR, jsh_RRRI, jsh_RRRR, jthr_hp, jc_l0, jc_lW, jc_lX, jc_lXW, jc_lVW, jc_lVX, jpush_n, jpush_s, obt_0, obt_1, och_0, och_32, och_100, och_115, och_104, och_33, och_43, och_60, jint, jbit, jchr, ijI, ijR, ijD, ijF, ↓reduceIte, Int.reduceEq, Int.reduceLT, reduceCtorEq, lW_bind, lW_ite, lW_none, lW_oix, lW_obt, lW_och, lW_sel, lW_oel, lW_some, f_Script_parseL, ih]
set_option maxRecDepth 20000 in
set_option maxHeartbeats 4000000 in
theorem X88 (d : Nat) (m : jMem) (k : jM) : jme jT0 jMx (d + 5) 88 [jr (jn cf + 139)] (hp cf dv m, k) = lW cf dv k ijI (f_Script_parse m) := by
  simp only [M88, E88_0, E88_1, E88_2, E88_5, E88_6, E88_7, E88_10, E88_11, E88_12, E88_13, E88_15, E88_18, E88_19, E88_20, E88_23, E88_26, E88_27, E88_28, E88_29_0, E88_29_1, E88_30, E88_33, E88_34, E88_35, E88_38, E88_39, E88_42, E88_43, E88_46, E88_49, E88_50, E88_51, E88_52, E88_54, E88_57, E88_60, E88_61, E88_62, E88_65, E88_68, E88_69, gf_139_1, gf_139_2, gf_139_7, pf_139_2, pf_139_7, X89, X93, go_139, jsh_n, jsh_I, jsh_R, jsh_II, jsh_IR, jsh_RI, jsh_RR, jsh_III, jsh_IIR, jsh_IRI, jsh_IRR, jsh_RII, jsh_RIR, jsh_RRI, jsh_RRR, jsh_IIII, jsh_IIIR, jsh_IIRI, jsh_IIRR, jsh_IRII, jsh_IRIR, jsh_IRRI, jsh_IRRR, jsh_RIII, jsh_RIIR, jsh_RIRI, jsh_RIRR, jsh_RRII, jsh_RRIR, jsh_RRRI, jsh_RRRR, jthr_hp, jc_l0, jc_lW, jc_lX, jc_lXW, jc_lVW, jc_lVX, jpush_n, jpush_s, obt_0, obt_1, och_0, och_32, och_100, och_115, och_104, och_33, och_43, och_60, jint, jbit, jchr, ijI, ijR, ijD, ijF, ↓reduceIte, Int.reduceEq, Int.reduceLT, reduceCtorEq, lW_bind, lW_ite, lW_none, lW_oix, lW_obt, lW_och, lW_sel, lW_oel, lW_some, f_Script_parse, X88L]
end
def f_Output_has (m : jMem) (a1 : Int) : Option Int := if a1 < 0 then some 0 else if a1 < (m 145 1) then some 1 else some 0
section
variable {cf : jCf} {dv : UInt64}
set_option maxRecDepth 20000 in
set_option maxHeartbeats 4000000 in
theorem X96 (d : Nat) (a1 : Int) (m : jMem) (k : jM) : jme jT0 jMx (d + 1) 96 [jr (jn cf + 145), .inl a1] (hp cf dv m, k) = l0 cf dv m k ijI (f_Output_has m a1) := by
  simp only [M96, E96_0, E96_1, E96_4, E96_5, E96_6, E96_9, E96_12, E96_13, E96_16, E96_17, gf_145_1, jsh_n, jsh_I, jsh_R, jsh_II, jsh_IR, jsh_RI, jsh_RR, jsh_III, jsh_IIR, jsh_IRI, jsh_IRR, jsh_RII, jsh_RIR, jsh_RRI, jsh_RRR, jsh_IIII, jsh_IIIR, jsh_IIRI, jsh_IIRR, jsh_IRII, jsh_IRIR, jsh_IRRI, jsh_IRRR, jsh_RIII, jsh_RIIR, jsh_RIRI, jsh_RIRR, jsh_RRII, jsh_RRIR, jsh_RRRI, jsh_RRRR, jthr_hp, jc_l0, jc_lW, jc_lX, jc_lXW, jc_lVW, jc_lVX, jpush_n, jpush_s, obt_0, obt_1, och_0, och_32, och_100, och_115, och_104, och_33, och_43, och_60, jint, jbit, jchr, ijI, ijR, ijD, ijF, ↓reduceIte, Int.reduceEq, Int.reduceLT, reduceCtorEq, l0_bind, l0_ite, l0_none, l0_oix, l0_obt, l0_och, l0_sel, l0_oel, l0_some, f_Output_has]
end
def f_Output_sign (m : jMem) (a1 : Int) : Option Int := (f_Output_has m a1).bind fun x1 => if x1 = 0 then some 32 else oix a1 60 (och (m 146 a1.toNat) (some (m 146 a1.toNat)))
section
variable {cf : jCf} {dv : UInt64}
set_option maxRecDepth 20000 in
set_option maxHeartbeats 4000000 in
theorem X97 (d : Nat) (a1 : Int) (m : jMem) (k : jM) : jme jT0 jMx (d + 2) 97 [jr (jn cf + 145), .inl a1] (hp cf dv m, k) = l0 cf dv m k ijI (f_Output_sign m a1) := by
  simp only [M97, E97_0, E97_1, E97_2, E97_5, E97_8, E97_9, E97_12, E97_13, E97_14, E97_17, E97_19, ai_146, gf_145_0, X96, go_145, jsh_n, jsh_I, jsh_R, jsh_II, jsh_IR, jsh_RI, jsh_RR, jsh_III, jsh_IIR, jsh_IRI, jsh_IRR, jsh_RII, jsh_RIR, jsh_RRI, jsh_RRR, jsh_IIII, jsh_IIIR, jsh_IIRI, jsh_IIRR, jsh_IRII, jsh_IRIR, jsh_IRRI, jsh_IRRR, jsh_RIII, jsh_RIIR, jsh_RIRI, jsh_RIRR, jsh_RRII, jsh_RRIR, jsh_RRRI, jsh_RRRR, jthr_hp, jc_l0, jc_lW, jc_lX, jc_lXW, jc_lVW, jc_lVX, jpush_n, jpush_s, obt_0, obt_1, och_0, och_32, och_100, och_115, och_104, och_33, och_43, och_60, jint, jbit, jchr, ijI, ijR, ijD, ijF, ↓reduceIte, Int.reduceEq, Int.reduceLT, reduceCtorEq, l0_bind, l0_ite, l0_none, l0_oix, l0_obt, l0_och, l0_sel, l0_oel, l0_some, f_Output_sign]
end
def f_Output_clear (m : jMem) : Option jMem := some (mset m 145 1 0)
section
variable {cf : jCf} {dv : UInt64}
set_option maxRecDepth 20000 in
set_option maxHeartbeats 4000000 in
theorem X98 (d : Nat) (m : jMem) (k : jM) : jme jT0 jMx (d + 1) 98 [jr (jn cf + 145)] (hp cf dv m, k) = lVW cf dv k (f_Output_clear m) := by
  simp only [M98, E98_0, E98_1, E98_2, E98_5, pf_145_1, jsh_n, jsh_I, jsh_R, jsh_II, jsh_IR, jsh_RI, jsh_RR, jsh_III, jsh_IIR, jsh_IRI, jsh_IRR, jsh_RII, jsh_RIR, jsh_RRI, jsh_RRR, jsh_IIII, jsh_IIIR, jsh_IIRI, jsh_IIRR, jsh_IRII, jsh_IRIR, jsh_IRRI, jsh_IRRR, jsh_RIII, jsh_RIIR, jsh_RIRI, jsh_RIRR, jsh_RRII, jsh_RRIR, jsh_RRRI, jsh_RRRR, jthr_hp, jc_l0, jc_lW, jc_lX, jc_lXW, jc_lVW, jc_lVX, jpush_n, jpush_s, obt_0, obt_1, och_0, och_32, och_100, och_115, och_104, och_33, och_43, och_60, jint, jbit, jchr, ijI, ijR, ijD, ijF, ↓reduceIte, Int.reduceEq, Int.reduceLT, reduceCtorEq, lVW_bind, lVW_ite, lVW_none, lVW_oix, lVW_obt, lVW_och, lVW_sel, lVW_oel, lVW_some, f_Output_clear]
end
def f_Output_put (m : jMem) (a1 : Int) : Option jMem := if (m 145 1) < 0 then some (m) else if (m 145 1) < 60 then oix (m 145 1) 60 (och a1 (some (mset (mset m 146 (m 145 1).toNat a1) 145 1 (jw (((mset m 146 (m 145 1).toNat a1) 145 1) + 1))))) else some (m)
section
variable {cf : jCf} {dv : UInt64}
set_option maxRecDepth 20000 in
set_option maxHeartbeats 4000000 in
theorem X99 (d : Nat) (a1 : Int) (m : jMem) (k : jM) : jme jT0 jMx (d + 1) 99 [jr (jn cf + 145), .inl a1] (hp cf dv m, k) = lVW cf dv k (f_Output_put m a1) := by
  simp only [M99, E99_0, E99_1, E99_4, E99_7, E99_8, E99_11, E99_13, E99_16, E99_17, E99_20, E99_21, E99_24, E99_25, E99_26, E99_27_0, E99_27_1, E99_28, E99_31, E99_32, E99_33, E99_36, as_146, gf_145_0, gf_145_1, pf_145_1, jsh_n, jsh_I, jsh_R, jsh_II, jsh_IR, jsh_RI, jsh_RR, jsh_III, jsh_IIR, jsh_IRI, jsh_IRR, jsh_RII, jsh_RIR, jsh_RRI, jsh_RRR, jsh_IIII, jsh_IIIR, jsh_IIRI, jsh_IIRR, jsh_IRII, jsh_IRIR, jsh_IRRI, jsh_IRRR, jsh_RIII, jsh_RIIR, jsh_RIRI, jsh_RIRR, jsh_RRII, jsh_RRIR, jsh_RRRI, jsh_RRRR, jthr_hp, jc_l0, jc_lW, jc_lX, jc_lXW, jc_lVW, jc_lVX, jpush_n, jpush_s, obt_0, obt_1, och_0, och_32, och_100, och_115, och_104, och_33, och_43, och_60, jint, jbit, jchr, ijI, ijR, ijD, ijF, ↓reduceIte, Int.reduceEq, Int.reduceLT, reduceCtorEq, lVW_bind, lVW_ite, lVW_none, lVW_oix, lVW_obt, lVW_och, lVW_sel, lVW_oel, lVW_some, f_Output_put]
end
def f_Output_putNumber (m : jMem) (a1 : Int) : Option jMem := if a1 < 10 then if (0 : Int) < 10 ∧ 0 ≤ a1 then (f_Output_put m ((jw (48 + (a1 % 10))) % 65536)).bind fun m1 => some (m1) else none else if (0 : Int) < 10 ∧ 0 ≤ a1 then (f_Output_put m ((jw (48 + (a1 / 10))) % 65536)).bind fun m2 => if (0 : Int) < 10 ∧ 0 ≤ a1 then (f_Output_put m2 ((jw (48 + (a1 % 10))) % 65536)).bind fun m3 => some (m3) else none else none
section
variable {cf : jCf} {dv : UInt64}
set_option maxRecDepth 20000 in
set_option maxHeartbeats 4000000 in
theorem X100 (d : Nat) (a1 : Int) (m : jMem) (k : jM) : jme jT0 jMx (d + 2) 100 [jr (jn cf + 145), .inl a1] (hp cf dv m, k) = lVW cf dv k (f_Output_putNumber m a1) := by
  simp only [M100, E100_0, E100_1, E100_3, E100_6, E100_7, E100_9, E100_10, E100_12, E100_13, E100_14, E100_15, E100_18, E100_19, E100_21, E100_22, E100_24, E100_25, E100_26, E100_27, E100_30, X99, go_145, jsh_n, jsh_I, jsh_R, jsh_II, jsh_IR, jsh_RI, jsh_RR, jsh_III, jsh_IIR, jsh_IRI, jsh_IRR, jsh_RII, jsh_RIR, jsh_RRI, jsh_RRR, jsh_IIII, jsh_IIIR, jsh_IIRI, jsh_IIRR, jsh_IRII, jsh_IRIR, jsh_IRRI, jsh_IRRR, jsh_RIII, jsh_RIIR, jsh_RIRI, jsh_RIRR, jsh_RRII, jsh_RRIR, jsh_RRRI, jsh_RRRR, jthr_hp, jc_l0, jc_lW, jc_lX, jc_lXW, jc_lVW, jc_lVX, jpush_n, jpush_s, obt_0, obt_1, och_0, och_32, och_100, och_115, och_104, och_33, och_43, och_60, jint, jbit, jchr, ijI, ijR, ijD, ijF, ↓reduceIte, Int.reduceEq, Int.reduceLT, reduceCtorEq, lVW_bind, lVW_ite, lVW_none, lVW_oix, lVW_obt, lVW_och, lVW_sel, lVW_oel, lVW_some, f_Output_putNumber]
end

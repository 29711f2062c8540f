/-! ===== habits ===== -/
section
variable (cl : Nat → List jV → jH → jR) (bk : Nat → jL → List jV → jH → jR) (n : Nat)
theorem E25_0 (x : Int) (st : List jV) (l0 : Option jV) (w : jH) : jblk jT0 25 cl bk (n + 1) 0 [l0, some (.inl x)] st w = jblk jT0 25 cl bk n 1 [l0, some (.inl x)] (.inl x :: st) w := rfl
theorem E25_1 (x : Int) (st : List jV) (l0 l1 : Option jV) (w : jH) : jblk jT0 25 cl bk (n + 1) 1 [l0, l1] (.inl x :: st) w = if x < 0 then jblk jT0 25 cl bk n 16 [l0, l1] st w else jblk jT0 25 cl bk n 4 [l0, l1] st w := rfl
theorem E25_4 (x : Int) (st : List jV) (l0 : Option jV) (w : jH) : jblk jT0 25 cl bk (n + 1) 4 [l0, some (.inl x)] st w = jblk jT0 25 cl bk n 5 [l0, some (.inl x)] (.inl x :: st) w := rfl
theorem E25_5 (a : Nat) (st : List jV) (l1 : Option jV) (w : jH) : jblk jT0 25 cl bk (n + 1) 5 [some (jr a), l1] st w = jblk jT0 25 cl bk n 6 [some (jr a), l1] (jr a :: st) w := rfl
theorem E25_6 (a : Nat) (st : List jV) (l0 l1 : Option jV) (w : jH) : jblk jT0 25 cl bk (n + 1) 6 [l0, l1] (jr a :: st) w = jgf w a 1 5 fun v => jblk jT0 25 cl bk n 9 [l0, l1] (v :: st) w := rfl
theorem E25_9 (x : Int) (y : Int) (st : List jV) (l0 l1 : Option jV) (w : jH) : jblk jT0 25 cl bk (n + 1) 9 [l0, l1] (.inl y :: .inl x :: st) w = if x < y then jblk jT0 25 cl bk n 12 [l0, l1] st w else jblk jT0 25 cl bk n 16 [l0, l1] st w := rfl
theorem E25_12 (st : List jV) (l0 l1 : Option jV) (w : jH) : jblk jT0 25 cl bk (n + 1) 12 [l0, l1] st w = jblk jT0 25 cl bk n 13 [l0, l1] (.inl 1 :: st) w := rfl
theorem E25_13 (st : List jV) (l0 l1 : Option jV) (w : jH) : jblk jT0 25 cl bk (n + 1) 13 [l0, l1] st w = jblk jT0 25 cl bk n 17 [l0, l1] st w := rfl
theorem E25_16 (st : List jV) (l0 l1 : Option jV) (w : jH) : jblk jT0 25 cl bk (n + 1) 16 [l0, l1] st w = jblk jT0 25 cl bk n 17 [l0, l1] (.inl 0 :: st) w := rfl
theorem E25_17 (x : Int) (l0 l1 : Option jV) (w : jH) : jblk jT0 25 cl bk (n + 1) 17 [l0, l1] [.inl x] w = if jfits .boolean x = true then some (.inl (some (.inl x)), w) else none := rfl
theorem E26_0 (a : Nat) (st : List jV) (l1 : Option jV) (w : jH) : jblk jT0 26 cl bk (n + 1) 0 [some (jr a), l1] st w = jblk jT0 26 cl bk n 1 [some (jr a), l1] (jr a :: st) w := rfl
theorem E26_1 (x : Int) (st : List jV) (l0 : Option jV) (w : jH) : jblk jT0 26 cl bk (n + 1) 1 [l0, some (.inl x)] st w = jblk jT0 26 cl bk n 2 [l0, some (.inl x)] (.inl x :: st) w := rfl
theorem E26_2 (a : Nat) (v0 : jV) (st : List jV) (l0 l1 : Option jV) (w : jH) : jblk jT0 26 cl bk (n + 1) 2 [l0, l1] (v0 :: jr a :: st) w = jsh st (jgo w a 1 fun _ => jcl (cl 25 [jr a, v0] w) (fun v w' => jblk jT0 26 cl bk n 5 [l0, l1] (jpush v st) w') (fun E w' => some (.inr E, w'))) := rfl
theorem E26_5 (x : Int) (st : List jV) (l0 l1 : Option jV) (w : jH) : jblk jT0 26 cl bk (n + 1) 5 [l0, l1] (.inl x :: st) w = if x = 0 then jblk jT0 26 cl bk n 17 [l0, l1] st w else jblk jT0 26 cl bk n 8 [l0, l1] st w := rfl
theorem E26_8 (a : Nat) (st : List jV) (l1 : Option jV) (w : jH) : jblk jT0 26 cl bk (n + 1) 8 [some (jr a), l1] st w = jblk jT0 26 cl bk n 9 [some (jr a), l1] (jr a :: st) w := rfl
theorem E26_9 (a : Nat) (st : List jV) (l0 l1 : Option jV) (w : jH) : jblk jT0 26 cl bk (n + 1) 9 [l0, l1] (jr a :: st) w = jgf w a 1 0 fun v => jblk jT0 26 cl bk n 12 [l0, l1] (v :: st) w := rfl
theorem E26_12 (x : Int) (st : List jV) (l0 : Option jV) (w : jH) : jblk jT0 26 cl bk (n + 1) 12 [l0, some (.inl x)] st w = jblk jT0 26 cl bk n 13 [l0, some (.inl x)] (.inl x :: st) w := rfl
theorem E26_13 (x : Int) (a : Nat) (st : List jV) (l0 l1 : Option jV) (w : jH) : jblk jT0 26 cl bk (n + 1) 13 [l0, l1] (.inl x :: jr a :: st) w = jgi w a .char x fun z => jblk jT0 26 cl bk n 14 [l0, l1] (.inl z :: st) w := rfl
theorem E26_14 (st : List jV) (l0 l1 : Option jV) (w : jH) : jblk jT0 26 cl bk (n + 1) 14 [l0, l1] st w = jblk jT0 26 cl bk n 19 [l0, l1] st w := rfl
theorem E26_17 (st : List jV) (l0 l1 : Option jV) (w : jH) : jblk jT0 26 cl bk (n + 1) 17 [l0, l1] st w = jblk jT0 26 cl bk n 19 [l0, l1] (.inl 32 :: st) w := rfl
theorem E26_19 (x : Int) (l0 l1 : Option jV) (w : jH) : jblk jT0 26 cl bk (n + 1) 19 [l0, l1] [.inl x] w = if jfits .char x = true then some (.inl (some (.inl x)), w) else none := rfl
theorem E27_0 (a : Nat) (st : List jV) (l1 : Option jV) (w : jH) : jblk jT0 27 cl bk (n + 1) 0 [some (jr a), l1] st w = jblk jT0 27 cl bk n 1 [some (jr a), l1] (jr a :: st) w := rfl
theorem E27_1 (x : Int) (st : List jV) (l0 : Option jV) (w : jH) : jblk jT0 27 cl bk (n + 1) 1 [l0, some (.inl x)] st w = jblk jT0 27 cl bk n 2 [l0, some (.inl x)] (.inl x :: st) w := rfl
theorem E27_2 (a : Nat) (v0 : jV) (st : List jV) (l0 l1 : Option jV) (w : jH) : jblk jT0 27 cl bk (n + 1) 2 [l0, l1] (v0 :: jr a :: st) w = jsh st (jgo w a 1 fun _ => jcl (cl 25 [jr a, v0] w) (fun v w' => jblk jT0 27 cl bk n 5 [l0, l1] (jpush v st) w') (fun E w' => some (.inr E, w'))) := rfl
theorem E27_5 (x : Int) (st : List jV) (l0 l1 : Option jV) (w : jH) : jblk jT0 27 cl bk (n + 1) 5 [l0, l1] (.inl x :: st) w = if x = 0 then jblk jT0 27 cl bk n 17 [l0, l1] st w else jblk jT0 27 cl bk n 8 [l0, l1] st w := rfl
theorem E27_8 (a : Nat) (st : List jV) (l1 : Option jV) (w : jH) : jblk jT0 27 cl bk (n + 1) 8 [some (jr a), l1] st w = jblk jT0 27 cl bk n 9 [some (jr a), l1] (jr a :: st) w := rfl
theorem E27_9 (a : Nat) (st : List jV) (l0 l1 : Option jV) (w : jH) : jblk jT0 27 cl bk (n + 1) 9 [l0, l1] (jr a :: st) w = jgf w a 1 1 fun v => jblk jT0 27 cl bk n 12 [l0, l1] (v :: st) w := rfl
theorem E27_12 (x : Int) (st : List jV) (l0 : Option jV) (w : jH) : jblk jT0 27 cl bk (n + 1) 12 [l0, some (.inl x)] st w = jblk jT0 27 cl bk n 13 [l0, some (.inl x)] (.inl x :: st) w := rfl
theorem E27_13 (x : Int) (a : Nat) (st : List jV) (l0 l1 : Option jV) (w : jH) : jblk jT0 27 cl bk (n + 1) 13 [l0, l1] (.inl x :: jr a :: st) w = jlda w a x (fun z => jblk jT0 27 cl bk n 14 [l0, l1] (.inl z :: st) w) := rfl
theorem E27_14 (st : List jV) (l0 l1 : Option jV) (w : jH) : jblk jT0 27 cl bk (n + 1) 14 [l0, l1] st w = jblk jT0 27 cl bk n 18 [l0, l1] st w := rfl
theorem E27_17 (st : List jV) (l0 l1 : Option jV) (w : jH) : jblk jT0 27 cl bk (n + 1) 17 [l0, l1] st w = jblk jT0 27 cl bk n 18 [l0, l1] (.inl 0 :: st) w := rfl
theorem E27_18 (x : Int) (l0 l1 : Option jV) (w : jH) : jblk jT0 27 cl bk (n + 1) 18 [l0, l1] [.inl x] w = if jfits .int x = true then some (.inl (some (.inl x)), w) else none := rfl
theorem E28_0 (a : Nat) (st : List jV) (l1 : Option jV) (w : jH) : jblk jT0 28 cl bk (n + 1) 0 [some (jr a), l1] st w = jblk jT0 28 cl bk n 1 [some (jr a), l1] (jr a :: st) w := rfl
theorem E28_1 (x : Int) (st : List jV) (l0 : Option jV) (w : jH) : jblk jT0 28 cl bk (n + 1) 1 [l0, some (.inl x)] st w = jblk jT0 28 cl bk n 2 [l0, some (.inl x)] (.inl x :: st) w := rfl
theorem E28_2 (a : Nat) (v0 : jV) (st : List jV) (l0 l1 : Option jV) (w : jH) : jblk jT0 28 cl bk (n + 1) 2 [l0, l1] (v0 :: jr a :: st) w = jsh st (jgo w a 1 fun _ => jcl (cl 25 [jr a, v0] w) (fun v w' => jblk jT0 28 cl bk n 5 [l0, l1] (jpush v st) w') (fun E w' => some (.inr E, w'))) := rfl
theorem E28_5 (x : Int) (st : List jV) (l0 l1 : Option jV) (w : jH) : jblk jT0 28 cl bk (n + 1) 5 [l0, l1] (.inl x :: st) w = if x = 0 then jblk jT0 28 cl bk n 17 [l0, l1] st w else jblk jT0 28 cl bk n 8 [l0, l1] st w := rfl
theorem E28_8 (a : Nat) (st : List jV) (l1 : Option jV) (w : jH) : jblk jT0 28 cl bk (n + 1) 8 [some (jr a), l1] st w = jblk jT0 28 cl bk n 9 [some (jr a), l1] (jr a :: st) w := rfl
theorem E28_9 (a : Nat) (st : List jV) (l0 l1 : Option jV) (w : jH) : jblk jT0 28 cl bk (n + 1) 9 [l0, l1] (jr a :: st) w = jgf w a 1 2 fun v => jblk jT0 28 cl bk n 12 [l0, l1] (v :: st) w := rfl
theorem E28_12 (x : Int) (st : List jV) (l0 : Option jV) (w : jH) : jblk jT0 28 cl bk (n + 1) 12 [l0, some (.inl x)] st w = jblk jT0 28 cl bk n 13 [l0, some (.inl x)] (.inl x :: st) w := rfl
theorem E28_13 (x : Int) (a : Nat) (st : List jV) (l0 l1 : Option jV) (w : jH) : jblk jT0 28 cl bk (n + 1) 13 [l0, l1] (.inl x :: jr a :: st) w = jlda w a x (fun z => jblk jT0 28 cl bk n 14 [l0, l1] (.inl z :: st) w) := rfl
theorem E28_14 (st : List jV) (l0 l1 : Option jV) (w : jH) : jblk jT0 28 cl bk (n + 1) 14 [l0, l1] st w = jblk jT0 28 cl bk n 18 [l0, l1] st w := rfl
theorem E28_17 (st : List jV) (l0 l1 : Option jV) (w : jH) : jblk jT0 28 cl bk (n + 1) 17 [l0, l1] st w = jblk jT0 28 cl bk n 18 [l0, l1] (.inl (-1) :: st) w := rfl
theorem E28_18 (x : Int) (l0 l1 : Option jV) (w : jH) : jblk jT0 28 cl bk (n + 1) 18 [l0, l1] [.inl x] w = if jfits .int x = true then some (.inl (some (.inl x)), w) else none := rfl
theorem E29_0 (a : Nat) (st : List jV) (l1 : Option jV) (w : jH) : jblk jT0 29 cl bk (n + 1) 0 [some (jr a), l1] st w = jblk jT0 29 cl bk n 1 [some (jr a), l1] (jr a :: st) w := rfl
theorem E29_1 (x : Int) (st : List jV) (l0 : Option jV) (w : jH) : jblk jT0 29 cl bk (n + 1) 1 [l0, some (.inl x)] st w = jblk jT0 29 cl bk n 2 [l0, some (.inl x)] (.inl x :: st) w := rfl
theorem E29_2 (a : Nat) (v0 : jV) (st : List jV) (l0 l1 : Option jV) (w : jH) : jblk jT0 29 cl bk (n + 1) 2 [l0, l1] (v0 :: jr a :: st) w = jsh st (jgo w a 1 fun _ => jcl (cl 25 [jr a, v0] w) (fun v w' => jblk jT0 29 cl bk n 5 [l0, l1] (jpush v st) w') (fun E w' => some (.inr E, w'))) := rfl
theorem E29_5 (x : Int) (st : List jV) (l0 l1 : Option jV) (w : jH) : jblk jT0 29 cl bk (n + 1) 5 [l0, l1] (.inl x :: st) w = if x = 0 then jblk jT0 29 cl bk n 21 [l0, l1] st w else jblk jT0 29 cl bk n 8 [l0, l1] st w := rfl
theorem E29_8 (a : Nat) (st : List jV) (l1 : Option jV) (w : jH) : jblk jT0 29 cl bk (n + 1) 8 [some (jr a), l1] st w = jblk jT0 29 cl bk n 9 [some (jr a), l1] (jr a :: st) w := rfl
theorem E29_9 (a : Nat) (st : List jV) (l0 l1 : Option jV) (w : jH) : jblk jT0 29 cl bk (n + 1) 9 [l0, l1] (jr a :: st) w = jgf w a 1 1 fun v => jblk jT0 29 cl bk n 12 [l0, l1] (v :: st) w := rfl
theorem E29_12 (x : Int) (st : List jV) (l0 : Option jV) (w : jH) : jblk jT0 29 cl bk (n + 1) 12 [l0, some (.inl x)] st w = jblk jT0 29 cl bk n 13 [l0, some (.inl x)] (.inl x :: st) w := rfl
theorem E29_13 (x : Int) (a : Nat) (st : List jV) (l0 l1 : Option jV) (w : jH) : jblk jT0 29 cl bk (n + 1) 13 [l0, l1] (.inl x :: jr a :: st) w = jlda w a x (fun z => jblk jT0 29 cl bk n 14 [l0, l1] (.inl z :: st) w) := rfl
theorem E29_14 (x : Int) (st : List jV) (l0 l1 : Option jV) (w : jH) : jblk jT0 29 cl bk (n + 1) 14 [l0, l1] (.inl x :: st) w = if 0 < x then jblk jT0 29 cl bk n 17 [l0, l1] st w else jblk jT0 29 cl bk n 21 [l0, l1] st w := rfl
theorem E29_17 (st : List jV) (l0 l1 : Option jV) (w : jH) : jblk jT0 29 cl bk (n + 1) 17 [l0, l1] st w = jblk jT0 29 cl bk n 18 [l0, l1] (.inl 1 :: st) w := rfl
theorem E29_18 (st : List jV) (l0 l1 : Option jV) (w : jH) : jblk jT0 29 cl bk (n + 1) 18 [l0, l1] st w = jblk jT0 29 cl bk n 22 [l0, l1] st w := rfl
theorem E29_21 (st : List jV) (l0 l1 : Option jV) (w : jH) : jblk jT0 29 cl bk (n + 1) 21 [l0, l1] st w = jblk jT0 29 cl bk n 22 [l0, l1] (.inl 0 :: st) w := rfl
theorem E29_22 (x : Int) (l0 l1 : Option jV) (w : jH) : jblk jT0 29 cl bk (n + 1) 22 [l0, l1] [.inl x] w = if jfits .boolean x = true then some (.inl (some (.inl x)), w) else none := rfl
theorem E30_0 (a : Nat) (st : List jV) (l1 : Option jV) (w : jH) : jblk jT0 30 cl bk (n + 1) 0 [some (jr a), l1] st w = jblk jT0 30 cl bk n 1 [some (jr a), l1] (jr a :: st) w := rfl
theorem E30_1 (x : Int) (st : List jV) (l0 : Option jV) (w : jH) : jblk jT0 30 cl bk (n + 1) 1 [l0, some (.inl x)] st w = jblk jT0 30 cl bk n 2 [l0, some (.inl x)] (.inl x :: st) w := rfl
theorem E30_2 (a : Nat) (v0 : jV) (st : List jV) (l0 l1 : Option jV) (w : jH) : jblk jT0 30 cl bk (n + 1) 2 [l0, l1] (v0 :: jr a :: st) w = jsh st (jgo w a 1 fun _ => jcl (cl 25 [jr a, v0] w) (fun v w' => jblk jT0 30 cl bk n 5 [l0, l1] (jpush v st) w') (fun E w' => some (.inr E, w'))) := rfl
theorem E30_5 (x : Int) (st : List jV) (l0 l1 : Option jV) (w : jH) : jblk jT0 30 cl bk (n + 1) 5 [l0, l1] (.inl x :: st) w = if x = 0 then jblk jT0 30 cl bk n 21 [l0, l1] st w else jblk jT0 30 cl bk n 8 [l0, l1] st w := rfl
theorem E30_8 (a : Nat) (st : List jV) (l1 : Option jV) (w : jH) : jblk jT0 30 cl bk (n + 1) 8 [some (jr a), l1] st w = jblk jT0 30 cl bk n 9 [some (jr a), l1] (jr a :: st) w := rfl
theorem E30_9 (a : Nat) (st : List jV) (l0 l1 : Option jV) (w : jH) : jblk jT0 30 cl bk (n + 1) 9 [l0, l1] (jr a :: st) w = jgf w a 1 3 fun v => jblk jT0 30 cl bk n 12 [l0, l1] (v :: st) w := rfl
theorem E30_12 (x : Int) (st : List jV) (l0 : Option jV) (w : jH) : jblk jT0 30 cl bk (n + 1) 12 [l0, some (.inl x)] st w = jblk jT0 30 cl bk n 13 [l0, some (.inl x)] (.inl x :: st) w := rfl
theorem E30_13 (x : Int) (a : Nat) (st : List jV) (l0 l1 : Option jV) (w : jH) : jblk jT0 30 cl bk (n + 1) 13 [l0, l1] (.inl x :: jr a :: st) w = jgi w a .boolean x fun z => jblk jT0 30 cl bk n 14 [l0, l1] (.inl z :: st) w := rfl
theorem E30_14 (x : Int) (st : List jV) (l0 l1 : Option jV) (w : jH) : jblk jT0 30 cl bk (n + 1) 14 [l0, l1] (.inl x :: st) w = if x = 0 then jblk jT0 30 cl bk n 21 [l0, l1] st w else jblk jT0 30 cl bk n 17 [l0, l1] st w := rfl
theorem E30_17 (st : List jV) (l0 l1 : Option jV) (w : jH) : jblk jT0 30 cl bk (n + 1) 17 [l0, l1] st w = jblk jT0 30 cl bk n 18 [l0, l1] (.inl 1 :: st) w := rfl
theorem E30_18 (st : List jV) (l0 l1 : Option jV) (w : jH) : jblk jT0 30 cl bk (n + 1) 18 [l0, l1] st w = jblk jT0 30 cl bk n 22 [l0, l1] st w := rfl
theorem E30_21 (st : List jV) (l0 l1 : Option jV) (w : jH) : jblk jT0 30 cl bk (n + 1) 21 [l0, l1] st w = jblk jT0 30 cl bk n 22 [l0, l1] (.inl 0 :: st) w := rfl
theorem E30_22 (x : Int) (l0 l1 : Option jV) (w : jH) : jblk jT0 30 cl bk (n + 1) 22 [l0, l1] [.inl x] w = if jfits .boolean x = true then some (.inl (some (.inl x)), w) else none := rfl
theorem E31_0 (a : Nat) (st : List jV) (l1 : Option jV) (w : jH) : jblk jT0 31 cl bk (n + 1) 0 [some (jr a), l1] st w = jblk jT0 31 cl bk n 1 [some (jr a), l1] (jr a :: st) w := rfl
theorem E31_1 (x : Int) (st : List jV) (l0 : Option jV) (w : jH) : jblk jT0 31 cl bk (n + 1) 1 [l0, some (.inl x)] st w = jblk jT0 31 cl bk n 2 [l0, some (.inl x)] (.inl x :: st) w := rfl
theorem E31_2 (a : Nat) (v0 : jV) (st : List jV) (l0 l1 : Option jV) (w : jH) : jblk jT0 31 cl bk (n + 1) 2 [l0, l1] (v0 :: jr a :: st) w = jsh st (jgo w a 1 fun _ => jcl (cl 25 [jr a, v0] w) (fun v w' => jblk jT0 31 cl bk n 5 [l0, l1] (jpush v st) w') (fun E w' => some (.inr E, w'))) := rfl
theorem E31_5 (x : Int) (st : List jV) (l0 l1 : Option jV) (w : jH) : jblk jT0 31 cl bk (n + 1) 5 [l0, l1] (.inl x :: st) w = if x = 0 then jblk jT0 31 cl bk n 21 [l0, l1] st w else jblk jT0 31 cl bk n 8 [l0, l1] st w := rfl
theorem E31_8 (a : Nat) (st : List jV) (l1 : Option jV) (w : jH) : jblk jT0 31 cl bk (n + 1) 8 [some (jr a), l1] st w = jblk jT0 31 cl bk n 9 [some (jr a), l1] (jr a :: st) w := rfl
theorem E31_9 (a : Nat) (st : List jV) (l0 l1 : Option jV) (w : jH) : jblk jT0 31 cl bk (n + 1) 9 [l0, l1] (jr a :: st) w = jgf w a 1 4 fun v => jblk jT0 31 cl bk n 12 [l0, l1] (v :: st) w := rfl
theorem E31_12 (x : Int) (st : List jV) (l0 : Option jV) (w : jH) : jblk jT0 31 cl bk (n + 1) 12 [l0, some (.inl x)] st w = jblk jT0 31 cl bk n 13 [l0, some (.inl x)] (.inl x :: st) w := rfl
theorem E31_13 (x : Int) (a : Nat) (st : List jV) (l0 l1 : Option jV) (w : jH) : jblk jT0 31 cl bk (n + 1) 13 [l0, l1] (.inl x :: jr a :: st) w = jgi w a .boolean x fun z => jblk jT0 31 cl bk n 14 [l0, l1] (.inl z :: st) w := rfl
theorem E31_14 (x : Int) (st : List jV) (l0 l1 : Option jV) (w : jH) : jblk jT0 31 cl bk (n + 1) 14 [l0, l1] (.inl x :: st) w = if x = 0 then jblk jT0 31 cl bk n 21 [l0, l1] st w else jblk jT0 31 cl bk n 17 [l0, l1] st w := rfl
theorem E31_17 (st : List jV) (l0 l1 : Option jV) (w : jH) : jblk jT0 31 cl bk (n + 1) 17 [l0, l1] st w = jblk jT0 31 cl bk n 18 [l0, l1] (.inl 1 :: st) w := rfl
theorem E31_18 (st : List jV) (l0 l1 : Option jV) (w : jH) : jblk jT0 31 cl bk (n + 1) 18 [l0, l1] st w = jblk jT0 31 cl bk n 22 [l0, l1] st w := rfl
theorem E31_21 (st : List jV) (l0 l1 : Option jV) (w : jH) : jblk jT0 31 cl bk (n + 1) 21 [l0, l1] st w = jblk jT0 31 cl bk n 22 [l0, l1] (.inl 0 :: st) w := rfl
theorem E31_22 (x : Int) (l0 l1 : Option jV) (w : jH) : jblk jT0 31 cl bk (n + 1) 22 [l0, l1] [.inl x] w = if jfits .boolean x = true then some (.inl (some (.inl x)), w) else none := rfl
theorem E32_0 (a : Nat) (st : List jV) (l1 : Option jV) (w : jH) : jblk jT0 32 cl bk (n + 1) 0 [some (jr a), l1] st w = jblk jT0 32 cl bk n 1 [some (jr a), l1] (jr a :: st) w := rfl
theorem E32_1 (x : Int) (st : List jV) (l0 : Option jV) (w : jH) : jblk jT0 32 cl bk (n + 1) 1 [l0, some (.inl x)] st w = jblk jT0 32 cl bk n 2 [l0, some (.inl x)] (.inl x :: st) w := rfl
theorem E32_2 (a : Nat) (v0 : jV) (st : List jV) (l0 l1 : Option jV) (w : jH) : jblk jT0 32 cl bk (n + 1) 2 [l0, l1] (v0 :: jr a :: st) w = jsh st (jgo w a 1 fun _ => jcl (cl 29 [jr a, v0] w) (fun v w' => jblk jT0 32 cl bk n 5 [l0, l1] (jpush v st) w') (fun E w' => some (.inr E, w'))) := rfl
theorem E32_5 (x : Int) (st : List jV) (l0 l1 : Option jV) (w : jH) : jblk jT0 32 cl bk (n + 1) 5 [l0, l1] (.inl x :: st) w = if x = 0 then jblk jT0 32 cl bk n 8 [l0, l1] st w else jblk jT0 32 cl bk n 10 [l0, l1] st w := rfl
theorem E32_8 (st : List jV) (l0 l1 : Option jV) (w : jH) : jblk jT0 32 cl bk (n + 1) 8 [l0, l1] st w = jblk jT0 32 cl bk n 9 [l0, l1] (.inl (-1) :: st) w := rfl
theorem E32_9 (x : Int) (l0 l1 : Option jV) (w : jH) : jblk jT0 32 cl bk (n + 1) 9 [l0, l1] [.inl x] w = if jfits .int x = true then some (.inl (some (.inl x)), w) else none := rfl
theorem E32_10 (a : Nat) (st : List jV) (l1 : Option jV) (w : jH) : jblk jT0 32 cl bk (n + 1) 10 [some (jr a), l1] st w = jblk jT0 32 cl bk n 11 [some (jr a), l1] (jr a :: st) w := rfl
theorem E32_11 (x : Int) (st : List jV) (l0 : Option jV) (w : jH) : jblk jT0 32 cl bk (n + 1) 11 [l0, some (.inl x)] st w = jblk jT0 32 cl bk n 12 [l0, some (.inl x)] (.inl x :: st) w := rfl
theorem E32_12 (a : Nat) (v0 : jV) (st : List jV) (l0 l1 : Option jV) (w : jH) : jblk jT0 32 cl bk (n + 1) 12 [l0, l1] (v0 :: jr a :: st) w = jsh st (jgo w a 1 fun _ => jcl (cl 31 [jr a, v0] w) (fun v w' => jblk jT0 32 cl bk n 15 [l0, l1] (jpush v st) w') (fun E w' => some (.inr E, w'))) := rfl
theorem E32_15 (x : Int) (st : List jV) (l0 l1 : Option jV) (w : jH) : jblk jT0 32 cl bk (n + 1) 15 [l0, l1] (.inl x :: st) w = if x = 0 then jblk jT0 32 cl bk n 28 [l0, l1] st w else jblk jT0 32 cl bk n 18 [l0, l1] st w := rfl
theorem E32_18 (a : Nat) (st : List jV) (l1 : Option jV) (w : jH) : jblk jT0 32 cl bk (n + 1) 18 [some (jr a), l1] st w = jblk jT0 32 cl bk n 19 [some (jr a), l1] (jr a :: st) w := rfl
theorem E32_19 (x : Int) (st : List jV) (l0 : Option jV) (w : jH) : jblk jT0 32 cl bk (n + 1) 19 [l0, some (.inl x)] st w = jblk jT0 32 cl bk n 20 [l0, some (.inl x)] (.inl x :: st) w := rfl
theorem E32_20 (a : Nat) (v0 : jV) (st : List jV) (l0 l1 : Option jV) (w : jH) : jblk jT0 32 cl bk (n + 1) 20 [l0, l1] (v0 :: jr a :: st) w = jsh st (jgo w a 1 fun _ => jcl (cl 27 [jr a, v0] w) (fun v w' => jblk jT0 32 cl bk n 23 [l0, l1] (jpush v st) w') (fun E w' => some (.inr E, w'))) := rfl
theorem E32_23 (st : List jV) (l0 l1 : Option jV) (w : jH) : jblk jT0 32 cl bk (n + 1) 23 [l0, l1] st w = jblk jT0 32 cl bk n 24 [l0, l1] (.inl 1 :: st) w := rfl
theorem E32_24 (x : Int) (y : Int) (st : List jV) (l0 l1 : Option jV) (w : jH) : jblk jT0 32 cl bk (n + 1) 24 [l0, l1] (.inl y :: .inl x :: st) w = jblk jT0 32 cl bk n 25 [l0, l1] (.inl (jw (x + y)) :: st) w := rfl
theorem E32_25 (st : List jV) (l0 l1 : Option jV) (w : jH) : jblk jT0 32 cl bk (n + 1) 25 [l0, l1] st w = jblk jT0 32 cl bk n 33 [l0, l1] st w := rfl
theorem E32_28 (a : Nat) (st : List jV) (l1 : Option jV) (w : jH) : jblk jT0 32 cl bk (n + 1) 28 [some (jr a), l1] st w = jblk jT0 32 cl bk n 29 [some (jr a), l1] (jr a :: st) w := rfl
theorem E32_29 (x : Int) (st : List jV) (l0 : Option jV) (w : jH) : jblk jT0 32 cl bk (n + 1) 29 [l0, some (.inl x)] st w = jblk jT0 32 cl bk n 30 [l0, some (.inl x)] (.inl x :: st) w := rfl
theorem E32_30 (a : Nat) (v0 : jV) (st : List jV) (l0 l1 : Option jV) (w : jH) : jblk jT0 32 cl bk (n + 1) 30 [l0, l1] (v0 :: jr a :: st) w = jsh st (jgo w a 1 fun _ => jcl (cl 27 [jr a, v0] w) (fun v w' => jblk jT0 32 cl bk n 33 [l0, l1] (jpush v st) w') (fun E w' => some (.inr E, w'))) := rfl
theorem E32_33 (x : Int) (l0 l1 : Option jV) (w : jH) : jblk jT0 32 cl bk (n + 1) 33 [l0, l1] [.inl x] w = if jfits .int x = true then some (.inl (some (.inl x)), w) else none := rfl
theorem E33_0 (st : List jV) (l0 l1 l2 l3 : Option jV) (w : jH) : jblk jT0 33 cl bk (n + 1) 0 [l0, l1, l2, l3] st w = jblk jT0 33 cl bk n 1 [l0, l1, l2, l3] (.inl 0 :: st) w := rfl
theorem E33_1 (x : Int) (st : List jV) (l0 l1 l2 l3 : Option jV) (w : jH) : jblk jT0 33 cl bk (n + 1) 1 [l0, l1, l2, l3] (.inl x :: st) w = bk 2 [l0, l1, l2, some (.inl x)] st w := rfl
theorem E33_2 (x : Int) (st : List jV) (l0 l1 l2 : Option jV) (w : jH) : jblk jT0 33 cl bk (n + 1) 2 [l0, l1, l2, some (.inl x)] st w = jblk jT0 33 cl bk n 3 [l0, l1, l2, some (.inl x)] (.inl x :: st) w := rfl
theorem E33_3 (a : Nat) (st : List jV) (l1 l2 l3 : Option jV) (w : jH) : jblk jT0 33 cl bk (n + 1) 3 [some (jr a), l1, l2, l3] st w = jblk jT0 33 cl bk n 4 [some (jr a), l1, l2, l3] (jr a :: st) w := rfl
theorem E33_4 (a : Nat) (st : List jV) (l0 l1 l2 l3 : Option jV) (w : jH) : jblk jT0 33 cl bk (n + 1) 4 [l0, l1, l2, l3] (jr a :: st) w = jgf w a 1 5 fun v => jblk jT0 33 cl bk n 7 [l0, l1, l2, l3] (v :: st) w := rfl
theorem E33_7 (x : Int) (y : Int) (st : List jV) (l0 l1 l2 l3 : Option jV) (w : jH) : jblk jT0 33 cl bk (n + 1) 7 [l0, l1, l2, l3] (.inl y :: .inl x :: st) w = if x < y then jblk jT0 33 cl bk n 10 [l0, l1, l2, l3] st w else jblk jT0 33 cl bk n 47 [l0, l1, l2, l3] st w := rfl
theorem E33_10 (a : Nat) (st : List jV) (l1 l2 l3 : Option jV) (w : jH) : jblk jT0 33 cl bk (n + 1) 10 [some (jr a), l1, l2, l3] st w = jblk jT0 33 cl bk n 11 [some (jr a), l1, l2, l3] (jr a :: st) w := rfl
theorem E33_11 (a : Nat) (st : List jV) (l0 l1 l2 l3 : Option jV) (w : jH) : jblk jT0 33 cl bk (n + 1) 11 [l0, l1, l2, l3] (jr a :: st) w = jgf w a 1 1 fun v => jblk jT0 33 cl bk n 14 [l0, l1, l2, l3] (v :: st) w := rfl
theorem E33_14 (x : Int) (st : List jV) (l0 l1 l2 : Option jV) (w : jH) : jblk jT0 33 cl bk (n + 1) 14 [l0, l1, l2, some (.inl x)] st w = jblk jT0 33 cl bk n 15 [l0, l1, l2, some (.inl x)] (.inl x :: st) w := rfl
theorem E33_15 (x : Int) (a : Nat) (st : List jV) (l0 l1 l2 l3 : Option jV) (w : jH) : jblk jT0 33 cl bk (n + 1) 15 [l0, l1, l2, l3] (.inl x :: jr a :: st) w = jlda w a x (fun z => jblk jT0 33 cl bk n 16 [l0, l1, l2, l3] (.inl z :: st) w) := rfl
theorem E33_16 (x : Int) (st : List jV) (l0 l1 l2 l3 : Option jV) (w : jH) : jblk jT0 33 cl bk (n + 1) 16 [l0, l1, l2, l3] (.inl x :: st) w = if 0 < x then jblk jT0 33 cl bk n 19 [l0, l1, l2, l3] st w else jblk jT0 33 cl bk n 41 [l0, l1, l2, l3] st w := rfl
theorem E33_19 (a : Nat) (st : List jV) (l1 l2 l3 : Option jV) (w : jH) : jblk jT0 33 cl bk (n + 1) 19 [some (jr a), l1, l2, l3] st w = jblk jT0 33 cl bk n 20 [some (jr a), l1, l2, l3] (jr a :: st) w := rfl
theorem E33_20 (a : Nat) (st : List jV) (l0 l1 l2 l3 : Option jV) (w : jH) : jblk jT0 33 cl bk (n + 1) 20 [l0, l1, l2, l3] (jr a :: st) w = jgf w a 1 2 fun v => jblk jT0 33 cl bk n 23 [l0, l1, l2, l3] (v :: st) w := rfl
theorem E33_23 (x : Int) (st : List jV) (l0 l1 l2 : Option jV) (w : jH) : jblk jT0 33 cl bk (n + 1) 23 [l0, l1, l2, some (.inl x)] st w = jblk jT0 33 cl bk n 24 [l0, l1, l2, some (.inl x)] (.inl x :: st) w := rfl
theorem E33_24 (x : Int) (a : Nat) (st : List jV) (l0 l1 l2 l3 : Option jV) (w : jH) : jblk jT0 33 cl bk (n + 1) 24 [l0, l1, l2, l3] (.inl x :: jr a :: st) w = jlda w a x (fun z => jblk jT0 33 cl bk n 25 [l0, l1, l2, l3] (.inl z :: st) w) := rfl
theorem E33_25 (x : Int) (st : List jV) (l0 l2 l3 : Option jV) (w : jH) : jblk jT0 33 cl bk (n + 1) 25 [l0, some (.inl x), l2, l3] st w = jblk jT0 33 cl bk n 26 [l0, some (.inl x), l2, l3] (.inl x :: st) w := rfl
theorem E33_26 (x : Int) (y : Int) (st : List jV) (l0 l1 l2 l3 : Option jV) (w : jH) : jblk jT0 33 cl bk (n + 1) 26 [l0, l1, l2, l3] (.inl y :: .inl x :: st) w = if x = y then jblk jT0 33 cl bk n 29 [l0, l1, l2, l3] st w else jblk jT0 33 cl bk n 41 [l0, l1, l2, l3] st w := rfl
theorem E33_29 (a : Nat) (st : List jV) (l1 l2 l3 : Option jV) (w : jH) : jblk jT0 33 cl bk (n + 1) 29 [some (jr a), l1, l2, l3] st w = jblk jT0 33 cl bk n 30 [some (jr a), l1, l2, l3] (jr a :: st) w := rfl
theorem E33_30 (a : Nat) (st : List jV) (l0 l1 l2 l3 : Option jV) (w : jH) : jblk jT0 33 cl bk (n + 1) 30 [l0, l1, l2, l3] (jr a :: st) w = jgf w a 1 0 fun v => jblk jT0 33 cl bk n 33 [l0, l1, l2, l3] (v :: st) w := rfl
theorem E33_33 (x : Int) (st : List jV) (l0 l1 l2 : Option jV) (w : jH) : jblk jT0 33 cl bk (n + 1) 33 [l0, l1, l2, some (.inl x)] st w = jblk jT0 33 cl bk n 34 [l0, l1, l2, some (.inl x)] (.inl x :: st) w := rfl
theorem E33_34 (x : Int) (a : Nat) (st : List jV) (l0 l1 l2 l3 : Option jV) (w : jH) : jblk jT0 33 cl bk (n + 1) 34 [l0, l1, l2, l3] (.inl x :: jr a :: st) w = jgi w a .char x fun z => jblk jT0 33 cl bk n 35 [l0, l1, l2, l3] (.inl z :: st) w := rfl
theorem E33_35 (x : Int) (st : List jV) (l0 l1 l3 : Option jV) (w : jH) : jblk jT0 33 cl bk (n + 1) 35 [l0, l1, some (.inl x), l3] st w = jblk jT0 33 cl bk n 36 [l0, l1, some (.inl x), l3] (.inl x :: st) w := rfl
theorem E33_36 (x : Int) (y : Int) (st : List jV) (l0 l1 l2 l3 : Option jV) (w : jH) : jblk jT0 33 cl bk (n + 1) 36 [l0, l1, l2, l3] (.inl y :: .inl x :: st) w = if x = y then jblk jT0 33 cl bk n 39 [l0, l1, l2, l3] st w else jblk jT0 33 cl bk n 41 [l0, l1, l2, l3] st w := rfl
theorem E33_39 (x : Int) (st : List jV) (l0 l1 l2 : Option jV) (w : jH) : jblk jT0 33 cl bk (n + 1) 39 [l0, l1, l2, some (.inl x)] st w = jblk jT0 33 cl bk n 40 [l0, l1, l2, some (.inl x)] (.inl x :: st) w := rfl
theorem E33_40 (x : Int) (l0 l1 l2 l3 : Option jV) (w : jH) : jblk jT0 33 cl bk (n + 1) 40 [l0, l1, l2, l3] [.inl x] w = if jfits .int x = true then some (.inl (some (.inl x)), w) else none := rfl
theorem E33_41 (x : Int) (st : List jV) (l0 l1 l2 : Option jV) (w : jH) : jblk jT0 33 cl bk (n + 1) 41 [l0, l1, l2, some (.inl x)] st w = jblk jT0 33 cl bk n 44 [l0, l1, l2, some (.inl (jw (x + 1)))] st w := rfl
theorem E33_44 (st : List jV) (l0 l1 l2 l3 : Option jV) (w : jH) : jblk jT0 33 cl bk (n + 1) 44 [l0, l1, l2, l3] st w = bk 2 [l0, l1, l2, l3] st w := rfl
theorem E33_47 (st : List jV) (l0 l1 l2 l3 : Option jV) (w : jH) : jblk jT0 33 cl bk (n + 1) 47 [l0, l1, l2, l3] st w = jblk jT0 33 cl bk n 48 [l0, l1, l2, l3] (.inl (-1) :: st) w := rfl
theorem E33_48 (x : Int) (l0 l1 l2 l3 : Option jV) (w : jH) : jblk jT0 33 cl bk (n + 1) 48 [l0, l1, l2, l3] [.inl x] w = if jfits .int x = true then some (.inl (some (.inl x)), w) else none := rfl
theorem E34_0 (a : Nat) (st : List jV) (l1 l2 l3 l4 : Option jV) (w : jH) : jblk jT0 34 cl bk (n + 1) 0 [some (jr a), l1, l2, l3, l4] st w = jblk jT0 34 cl bk n 1 [some (jr a), l1, l2, l3, l4] (jr a :: st) w := rfl
theorem E34_1 (a : Nat) (st : List jV) (l0 l1 l2 l3 l4 : Option jV) (w : jH) : jblk jT0 34 cl bk (n + 1) 1 [l0, l1, l2, l3, l4] (jr a :: st) w = jgf w a 1 5 fun v => jblk jT0 34 cl bk n 4 [l0, l1, l2, l3, l4] (v :: st) w := rfl
theorem E34_4 (st : List jV) (l0 l1 l2 l3 l4 : Option jV) (w : jH) : jblk jT0 34 cl bk (n + 1) 4 [l0, l1, l2, l3, l4] st w = jblk jT0 34 cl bk n 6 [l0, l1, l2, l3, l4] (.inl 20 :: st) w := rfl
theorem E34_6 (x : Int) (y : Int) (st : List jV) (l0 l1 l2 l3 l4 : Option jV) (w : jH) : jblk jT0 34 cl bk (n + 1) 6 [l0, l1, l2, l3, l4] (.inl y :: .inl x :: st) w = if x < y then jblk jT0 34 cl bk n 11 [l0, l1, l2, l3, l4] st w else jblk jT0 34 cl bk n 9 [l0, l1, l2, l3, l4] st w := rfl
theorem E34_9 (st : List jV) (l0 l1 l2 l3 l4 : Option jV) (w : jH) : jblk jT0 34 cl bk (n + 1) 9 [l0, l1, l2, l3, l4] st w = jblk jT0 34 cl bk n 10 [l0, l1, l2, l3, l4] (.inl (-1) :: st) w := rfl
theorem E34_10 (x : Int) (l0 l1 l2 l3 l4 : Option jV) (w : jH) : jblk jT0 34 cl bk (n + 1) 10 [l0, l1, l2, l3, l4] [.inl x] w = if jfits .int x = true then some (.inl (some (.inl x)), w) else none := rfl
theorem E34_11 (a : Nat) (st : List jV) (l1 l2 l3 l4 : Option jV) (w : jH) : jblk jT0 34 cl bk (n + 1) 11 [some (jr a), l1, l2, l3, l4] st w = jblk jT0 34 cl bk n 12 [some (jr a), l1, l2, l3, l4] (jr a :: st) w := rfl
theorem E34_12 (a : Nat) (st : List jV) (l0 l1 l2 l3 l4 : Option jV) (w : jH) : jblk jT0 34 cl bk (n + 1) 12 [l0, l1, l2, l3, l4] (jr a :: st) w = jgf w a 1 5 fun v => jblk jT0 34 cl bk n 15 [l0, l1, l2, l3, l4] (v :: st) w := rfl
theorem E34_15 (x : Int) (st : List jV) (l0 l1 l2 l3 l4 : Option jV) (w : jH) : jblk jT0 34 cl bk (n + 1) 15 [l0, l1, l2, l3, l4] (.inl x :: st) w = jblk jT0 34 cl bk n 17 [l0, l1, l2, l3, some (.inl x)] st w := rfl
theorem E34_17 (a : Nat) (st : List jV) (l1 l2 l3 l4 : Option jV) (w : jH) : jblk jT0 34 cl bk (n + 1) 17 [some (jr a), l1, l2, l3, l4] st w = jblk jT0 34 cl bk n 18 [some (jr a), l1, l2, l3, l4] (jr a :: st) w := rfl
theorem E34_18 (a : Nat) (st : List jV) (l0 l1 l2 l3 l4 : Option jV) (w : jH) : jblk jT0 34 cl bk (n + 1) 18 [l0, l1, l2, l3, l4] (jr a :: st) w = jgf w a 1 0 fun v => jblk jT0 34 cl bk n 21 [l0, l1, l2, l3, l4] (v :: st) w := rfl
theorem E34_21 (x : Int) (st : List jV) (l0 l1 l2 l3 : Option jV) (w : jH) : jblk jT0 34 cl bk (n + 1) 21 [l0, l1, l2, l3, some (.inl x)] st w = jblk jT0 34 cl bk n 23 [l0, l1, l2, l3, some (.inl x)] (.inl x :: st) w := rfl
theorem E34_23 (x : Int) (st : List jV) (l0 l1 l3 l4 : Option jV) (w : jH) : jblk jT0 34 cl bk (n + 1) 23 [l0, l1, some (.inl x), l3, l4] st w = jblk jT0 34 cl bk n 24 [l0, l1, some (.inl x), l3, l4] (.inl x :: st) w := rfl
theorem E34_24 (x : Int) (y : Int) (a : Nat) (st : List jV) (l0 l1 l2 l3 l4 : Option jV) (w : jH) : jblk jT0 34 cl bk (n + 1) 24 [l0, l1, l2, l3, l4] (.inl y :: .inl x :: jr a :: st) w = jai w a .char x y fun w' => jblk jT0 34 cl bk n 25 [l0, l1, l2, l3, l4] st w' := rfl
theorem E34_25 (a : Nat) (st : List jV) (l1 l2 l3 l4 : Option jV) (w : jH) : jblk jT0 34 cl bk (n + 1) 25 [some (jr a), l1, l2, l3, l4] st w = jblk jT0 34 cl bk n 26 [some (jr a), l1, l2, l3, l4] (jr a :: st) w := rfl
theorem E34_26 (a : Nat) (st : List jV) (l0 l1 l2 l3 l4 : Option jV) (w : jH) : jblk jT0 34 cl bk (n + 1) 26 [l0, l1, l2, l3, l4] (jr a :: st) w = jgf w a 1 1 fun v => jblk jT0 34 cl bk n 29 [l0, l1, l2, l3, l4] (v :: st) w := rfl
theorem E34_29 (x : Int) (st : List jV) (l0 l1 l2 l3 : Option jV) (w : jH) : jblk jT0 34 cl bk (n + 1) 29 [l0, l1, l2, l3, some (.inl x)] st w = jblk jT0 34 cl bk n 31 [l0, l1, l2, l3, some (.inl x)] (.inl x :: st) w := rfl
theorem E34_31 (x : Int) (st : List jV) (l0 l1 l2 l4 : Option jV) (w : jH) : jblk jT0 34 cl bk (n + 1) 31 [l0, l1, l2, some (.inl x), l4] st w = jblk jT0 34 cl bk n 32 [l0, l1, l2, some (.inl x), l4] (.inl x :: st) w := rfl
theorem E34_32 (x : Int) (y : Int) (a : Nat) (st : List jV) (l0 l1 l2 l3 l4 : Option jV) (w : jH) : jblk jT0 34 cl bk (n + 1) 32 [l0, l1, l2, l3, l4] (.inl y :: .inl x :: jr a :: st) w = jai w a .int x y fun w' => jblk jT0 34 cl bk n 33 [l0, l1, l2, l3, l4] st w' := rfl
theorem E34_33 (a : Nat) (st : List jV) (l1 l2 l3 l4 : Option jV) (w : jH) : jblk jT0 34 cl bk (n + 1) 33 [some (jr a), l1, l2, l3, l4] st w = jblk jT0 34 cl bk n 34 [some (jr a), l1, l2, l3, l4] (jr a :: st) w := rfl
theorem E34_34 (a : Nat) (st : List jV) (l0 l1 l2 l3 l4 : Option jV) (w : jH) : jblk jT0 34 cl bk (n + 1) 34 [l0, l1, l2, l3, l4] (jr a :: st) w = jgf w a 1 2 fun v => jblk jT0 34 cl bk n 37 [l0, l1, l2, l3, l4] (v :: st) w := rfl
theorem E34_37 (x : Int) (st : List jV) (l0 l1 l2 l3 : Option jV) (w : jH) : jblk jT0 34 cl bk (n + 1) 37 [l0, l1, l2, l3, some (.inl x)] st w = jblk jT0 34 cl bk n 39 [l0, l1, l2, l3, some (.inl x)] (.inl x :: st) w := rfl
theorem E34_39 (x : Int) (st : List jV) (l0 l2 l3 l4 : Option jV) (w : jH) : jblk jT0 34 cl bk (n + 1) 39 [l0, some (.inl x), l2, l3, l4] st w = jblk jT0 34 cl bk n 40 [l0, some (.inl x), l2, l3, l4] (.inl x :: st) w := rfl
theorem E34_40 (x : Int) (y : Int) (a : Nat) (st : List jV) (l0 l1 l2 l3 l4 : Option jV) (w : jH) : jblk jT0 34 cl bk (n + 1) 40 [l0, l1, l2, l3, l4] (.inl y :: .inl x :: jr a :: st) w = jai w a .int x y fun w' => jblk jT0 34 cl bk n 41 [l0, l1, l2, l3, l4] st w' := rfl
theorem E34_41 (a : Nat) (st : List jV) (l1 l2 l3 l4 : Option jV) (w : jH) : jblk jT0 34 cl bk (n + 1) 41 [some (jr a), l1, l2, l3, l4] st w = jblk jT0 34 cl bk n 42 [some (jr a), l1, l2, l3, l4] (jr a :: st) w := rfl
theorem E34_42 (a : Nat) (st : List jV) (l0 l1 l2 l3 l4 : Option jV) (w : jH) : jblk jT0 34 cl bk (n + 1) 42 [l0, l1, l2, l3, l4] (jr a :: st) w = jgf w a 1 3 fun v => jblk jT0 34 cl bk n 45 [l0, l1, l2, l3, l4] (v :: st) w := rfl
theorem E34_45 (x : Int) (st : List jV) (l0 l1 l2 l3 : Option jV) (w : jH) : jblk jT0 34 cl bk (n + 1) 45 [l0, l1, l2, l3, some (.inl x)] st w = jblk jT0 34 cl bk n 47 [l0, l1, l2, l3, some (.inl x)] (.inl x :: st) w := rfl
theorem E34_47 (st : List jV) (l0 l1 l2 l3 l4 : Option jV) (w : jH) : jblk jT0 34 cl bk (n + 1) 47 [l0, l1, l2, l3, l4] st w = jblk jT0 34 cl bk n 48 [l0, l1, l2, l3, l4] (.inl 0 :: st) w := rfl
theorem E34_48 (x : Int) (y : Int) (a : Nat) (st : List jV) (l0 l1 l2 l3 l4 : Option jV) (w : jH) : jblk jT0 34 cl bk (n + 1) 48 [l0, l1, l2, l3, l4] (.inl y :: .inl x :: jr a :: st) w = jai w a .boolean x y fun w' => jblk jT0 34 cl bk n 49 [l0, l1, l2, l3, l4] st w' := rfl
theorem E34_49 (a : Nat) (st : List jV) (l1 l2 l3 l4 : Option jV) (w : jH) : jblk jT0 34 cl bk (n + 1) 49 [some (jr a), l1, l2, l3, l4] st w = jblk jT0 34 cl bk n 50 [some (jr a), l1, l2, l3, l4] (jr a :: st) w := rfl
theorem E34_50 (a : Nat) (st : List jV) (l0 l1 l2 l3 l4 : Option jV) (w : jH) : jblk jT0 34 cl bk (n + 1) 50 [l0, l1, l2, l3, l4] (jr a :: st) w = jgf w a 1 4 fun v => jblk jT0 34 cl bk n 53 [l0, l1, l2, l3, l4] (v :: st) w := rfl
theorem E34_53 (x : Int) (st : List jV) (l0 l1 l2 l3 : Option jV) (w : jH) : jblk jT0 34 cl bk (n + 1) 53 [l0, l1, l2, l3, some (.inl x)] st w = jblk jT0 34 cl bk n 55 [l0, l1, l2, l3, some (.inl x)] (.inl x :: st) w := rfl
theorem E34_55 (st : List jV) (l0 l1 l2 l3 l4 : Option jV) (w : jH) : jblk jT0 34 cl bk (n + 1) 55 [l0, l1, l2, l3, l4] st w = jblk jT0 34 cl bk n 56 [l0, l1, l2, l3, l4] (.inl 0 :: st) w := rfl
theorem E34_56 (x : Int) (y : Int) (a : Nat) (st : List jV) (l0 l1 l2 l3 l4 : Option jV) (w : jH) : jblk jT0 34 cl bk (n + 1) 56 [l0, l1, l2, l3, l4] (.inl y :: .inl x :: jr a :: st) w = jai w a .boolean x y fun w' => jblk jT0 34 cl bk n 57 [l0, l1, l2, l3, l4] st w' := rfl
theorem E34_57 (a : Nat) (st : List jV) (l1 l2 l3 l4 : Option jV) (w : jH) : jblk jT0 34 cl bk (n + 1) 57 [some (jr a), l1, l2, l3, l4] st w = jblk jT0 34 cl bk n 58 [some (jr a), l1, l2, l3, l4] (jr a :: st) w := rfl
theorem E34_58_0 (x : Int) (st : List jV) (l0 l1 l2 l3 l4 : Option jV) (w : jH) : jblk jT0 34 cl bk (n + 1) 58 [l0, l1, l2, l3, l4] (.inl x :: st) w = jblk jT0 34 cl bk n 59 [l0, l1, l2, l3, l4] (.inl x :: .inl x :: st) w := rfl
theorem E34_58_1 (a : Nat) (st : List jV) (l0 l1 l2 l3 l4 : Option jV) (w : jH) : jblk jT0 34 cl bk (n + 1) 58 [l0, l1, l2, l3, l4] (jr a :: st) w = jblk jT0 34 cl bk n 59 [l0, l1, l2, l3, l4] (jr a :: jr a :: st) w := rfl
theorem E34_59 (a : Nat) (st : List jV) (l0 l1 l2 l3 l4 : Option jV) (w : jH) : jblk jT0 34 cl bk (n + 1) 59 [l0, l1, l2, l3, l4] (jr a :: st) w = jgf w a 1 5 fun v => jblk jT0 34 cl bk n 62 [l0, l1, l2, l3, l4] (v :: st) w := rfl
theorem E34_62 (st : List jV) (l0 l1 l2 l3 l4 : Option jV) (w : jH) : jblk jT0 34 cl bk (n + 1) 62 [l0, l1, l2, l3, l4] st w = jblk jT0 34 cl bk n 63 [l0, l1, l2, l3, l4] (.inl 1 :: st) w := rfl
theorem E34_63 (x : Int) (y : Int) (st : List jV) (l0 l1 l2 l3 l4 : Option jV) (w : jH) : jblk jT0 34 cl bk (n + 1) 63 [l0, l1, l2, l3, l4] (.inl y :: .inl x :: st) w = jblk jT0 34 cl bk n 64 [l0, l1, l2, l3, l4] (.inl (jw (x + y)) :: st) w := rfl
theorem E34_64 (a : Nat) (v : jV) (st : List jV) (l0 l1 l2 l3 l4 : Option jV) (w : jH) : jblk jT0 34 cl bk (n + 1) 64 [l0, l1, l2, l3, l4] (v :: jr a :: st) w = jpf w a 1 5 .int v fun w' => jblk jT0 34 cl bk n 67 [l0, l1, l2, l3, l4] st w' := rfl
theorem E34_67 (x : Int) (st : List jV) (l0 l1 l2 l3 : Option jV) (w : jH) : jblk jT0 34 cl bk (n + 1) 67 [l0, l1, l2, l3, some (.inl x)] st w = jblk jT0 34 cl bk n 69 [l0, l1, l2, l3, some (.inl x)] (.inl x :: st) w := rfl
theorem E34_69 (x : Int) (l0 l1 l2 l3 l4 : Option jV) (w : jH) : jblk jT0 34 cl bk (n + 1) 69 [l0, l1, l2, l3, l4] [.inl x] w = if jfits .int x = true then some (.inl (some (.inl x)), w) else none := rfl
theorem E35_0 (a : Nat) (st : List jV) (l1 : Option jV) (w : jH) : jblk jT0 35 cl bk (n + 1) 0 [some (jr a), l1] st w = jblk jT0 35 cl bk n 1 [some (jr a), l1] (jr a :: st) w := rfl
theorem E35_1 (x : Int) (st : List jV) (l0 : Option jV) (w : jH) : jblk jT0 35 cl bk (n + 1) 1 [l0, some (.inl x)] st w = jblk jT0 35 cl bk n 2 [l0, some (.inl x)] (.inl x :: st) w := rfl
theorem E35_2 (a : Nat) (v0 : jV) (st : List jV) (l0 l1 : Option jV) (w : jH) : jblk jT0 35 cl bk (n + 1) 2 [l0, l1] (v0 :: jr a :: st) w = jsh st (jgo w a 1 fun _ => jcl (cl 25 [jr a, v0] w) (fun v w' => jblk jT0 35 cl bk n 5 [l0, l1] (jpush v st) w') (fun E w' => some (.inr E, w'))) := rfl
theorem E35_5 (x : Int) (st : List jV) (l0 l1 : Option jV) (w : jH) : jblk jT0 35 cl bk (n + 1) 5 [l0, l1] (.inl x :: st) w = if x = 0 then jblk jT0 35 cl bk n 34 [l0, l1] st w else jblk jT0 35 cl bk n 8 [l0, l1] st w := rfl
theorem E35_8 (a : Nat) (st : List jV) (l1 : Option jV) (w : jH) : jblk jT0 35 cl bk (n + 1) 8 [some (jr a), l1] st w = jblk jT0 35 cl bk n 9 [some (jr a), l1] (jr a :: st) w := rfl
theorem E35_9 (a : Nat) (st : List jV) (l0 l1 : Option jV) (w : jH) : jblk jT0 35 cl bk (n + 1) 9 [l0, l1] (jr a :: st) w = jgf w a 1 1 fun v => jblk jT0 35 cl bk n 12 [l0, l1] (v :: st) w := rfl
theorem E35_12 (x : Int) (st : List jV) (l0 : Option jV) (w : jH) : jblk jT0 35 cl bk (n + 1) 12 [l0, some (.inl x)] st w = jblk jT0 35 cl bk n 13 [l0, some (.inl x)] (.inl x :: st) w := rfl
theorem E35_13 (a : Nat) (st : List jV) (l1 : Option jV) (w : jH) : jblk jT0 35 cl bk (n + 1) 13 [some (jr a), l1] st w = jblk jT0 35 cl bk n 14 [some (jr a), l1] (jr a :: st) w := rfl
theorem E35_14 (a : Nat) (st : List jV) (l0 l1 : Option jV) (w : jH) : jblk jT0 35 cl bk (n + 1) 14 [l0, l1] (jr a :: st) w = jgf w a 1 1 fun v => jblk jT0 35 cl bk n 17 [l0, l1] (v :: st) w := rfl
theorem E35_17 (x : Int) (st : List jV) (l0 : Option jV) (w : jH) : jblk jT0 35 cl bk (n + 1) 17 [l0, some (.inl x)] st w = jblk jT0 35 cl bk n 18 [l0, some (.inl x)] (.inl x :: st) w := rfl
theorem E35_18 (x : Int) (a : Nat) (st : List jV) (l0 l1 : Option jV) (w : jH) : jblk jT0 35 cl bk (n + 1) 18 [l0, l1] (.inl x :: jr a :: st) w = jlda w a x (fun z => jblk jT0 35 cl bk n 19 [l0, l1] (.inl z :: st) w) := rfl
theorem E35_19 (st : List jV) (l0 l1 : Option jV) (w : jH) : jblk jT0 35 cl bk (n + 1) 19 [l0, l1] st w = jblk jT0 35 cl bk n 20 [l0, l1] (.inl 1 :: st) w := rfl
theorem E35_20 (x : Int) (y : Int) (st : List jV) (l0 l1 : Option jV) (w : jH) : jblk jT0 35 cl bk (n + 1) 20 [l0, l1] (.inl y :: .inl x :: st) w = jblk jT0 35 cl bk n 21 [l0, l1] (.inl (jw (x + y)) :: st) w := rfl
theorem E35_21 (st : List jV) (l0 l1 : Option jV) (w : jH) : jblk jT0 35 cl bk (n + 1) 21 [l0, l1] st w = jblk jT0 35 cl bk n 23 [l0, l1] (.inl 9 :: st) w := rfl
theorem E35_23 (x : Int) (y : Int) (st : List jV) (l0 l1 : Option jV) (w : jH) : jblk jT0 35 cl bk (n + 1) 23 [l0, l1] (.inl y :: .inl x :: st) w = jsh st (jblk jT0 35 cl bk n 26 [l0, l1] (.inl (if y < x then y else x) :: st) w) := rfl
theorem E35_26 (x : Int) (y : Int) (a : Nat) (st : List jV) (l0 l1 : Option jV) (w : jH) : jblk jT0 35 cl bk (n + 1) 26 [l0, l1] (.inl y :: .inl x :: jr a :: st) w = jai w a .int x y fun w' => jblk jT0 35 cl bk n 27 [l0, l1] st w' := rfl
theorem E35_27 (a : Nat) (st : List jV) (l1 : Option jV) (w : jH) : jblk jT0 35 cl bk (n + 1) 27 [some (jr a), l1] st w = jblk jT0 35 cl bk n 28 [some (jr a), l1] (jr a :: st) w := rfl
theorem E35_28 (a : Nat) (st : List jV) (l0 l1 : Option jV) (w : jH) : jblk jT0 35 cl bk (n + 1) 28 [l0, l1] (jr a :: st) w = jgf w a 1 4 fun v => jblk jT0 35 cl bk n 31 [l0, l1] (v :: st) w := rfl
theorem E35_31 (x : Int) (st : List jV) (l0 : Option jV) (w : jH) : jblk jT0 35 cl bk (n + 1) 31 [l0, some (.inl x)] st w = jblk jT0 35 cl bk n 32 [l0, some (.inl x)] (.inl x :: st) w := rfl
theorem E35_32 (st : List jV) (l0 l1 : Option jV) (w : jH) : jblk jT0 35 cl bk (n + 1) 32 [l0, l1] st w = jblk jT0 35 cl bk n 33 [l0, l1] (.inl 1 :: st) w := rfl
theorem E35_33 (x : Int) (y : Int) (a : Nat) (st : List jV) (l0 l1 : Option jV) (w : jH) : jblk jT0 35 cl bk (n + 1) 33 [l0, l1] (.inl y :: .inl x :: jr a :: st) w = jai w a .boolean x y fun w' => jblk jT0 35 cl bk n 34 [l0, l1] st w' := rfl
theorem E35_34 (l0 l1 : Option jV) (w : jH) : jblk jT0 35 cl bk (n + 1) 34 [l0, l1] [] w = some (.inl none, w) := rfl
theorem E36_0 (a : Nat) (st : List jV) (l1 : Option jV) (w : jH) : jblk jT0 36 cl bk (n + 1) 0 [some (jr a), l1] st w = jblk jT0 36 cl bk n 1 [some (jr a), l1] (jr a :: st) w := rfl
theorem E36_1 (x : Int) (st : List jV) (l0 : Option jV) (w : jH) : jblk jT0 36 cl bk (n + 1) 1 [l0, some (.inl x)] st w = jblk jT0 36 cl bk n 2 [l0, some (.inl x)] (.inl x :: st) w := rfl
theorem E36_2 (a : Nat) (v0 : jV) (st : List jV) (l0 l1 : Option jV) (w : jH) : jblk jT0 36 cl bk (n + 1) 2 [l0, l1] (v0 :: jr a :: st) w = jsh st (jgo w a 1 fun _ => jcl (cl 29 [jr a, v0] w) (fun v w' => jblk jT0 36 cl bk n 5 [l0, l1] (jpush v st) w') (fun E w' => some (.inr E, w'))) := rfl
theorem E36_5 (x : Int) (st : List jV) (l0 l1 : Option jV) (w : jH) : jblk jT0 36 cl bk (n + 1) 5 [l0, l1] (.inl x :: st) w = if x = 0 then jblk jT0 36 cl bk n 8 [l0, l1] st w else jblk jT0 36 cl bk n 9 [l0, l1] st w := rfl
theorem E36_8 (l0 l1 : Option jV) (w : jH) : jblk jT0 36 cl bk (n + 1) 8 [l0, l1] [] w = some (.inl none, w) := rfl
theorem E36_9 (a : Nat) (st : List jV) (l1 : Option jV) (w : jH) : jblk jT0 36 cl bk (n + 1) 9 [some (jr a), l1] st w = jblk jT0 36 cl bk n 10 [some (jr a), l1] (jr a :: st) w := rfl
theorem E36_10 (a : Nat) (st : List jV) (l0 l1 : Option jV) (w : jH) : jblk jT0 36 cl bk (n + 1) 10 [l0, l1] (jr a :: st) w = jgf w a 1 1 fun v => jblk jT0 36 cl bk n 13 [l0, l1] (v :: st) w := rfl
theorem E36_13 (x : Int) (st : List jV) (l0 : Option jV) (w : jH) : jblk jT0 36 cl bk (n + 1) 13 [l0, some (.inl x)] st w = jblk jT0 36 cl bk n 14 [l0, some (.inl x)] (.inl x :: st) w := rfl
theorem E36_14 (x : Int) (a : Nat) (st : List jV) (l0 l1 : Option jV) (w : jH) : jblk jT0 36 cl bk (n + 1) 14 [l0, l1] (.inl x :: jr a :: st) w = jblk jT0 36 cl bk n 15 [l0, l1] (.inl x :: jr a :: .inl x :: jr a :: st) w := rfl
theorem E36_15 (x : Int) (a : Nat) (st : List jV) (l0 l1 : Option jV) (w : jH) : jblk jT0 36 cl bk (n + 1) 15 [l0, l1] (.inl x :: jr a :: st) w = jlda w a x (fun z => jblk jT0 36 cl bk n 16 [l0, l1] (.inl z :: st) w) := rfl
theorem E36_16 (st : List jV) (l0 l1 : Option jV) (w : jH) : jblk jT0 36 cl bk (n + 1) 16 [l0, l1] st w = jblk jT0 36 cl bk n 17 [l0, l1] (.inl 1 :: st) w := rfl
theorem E36_17 (x : Int) (y : Int) (st : List jV) (l0 l1 : Option jV) (w : jH) : jblk jT0 36 cl bk (n + 1) 17 [l0, l1] (.inl y :: .inl x :: st) w = jblk jT0 36 cl bk n 18 [l0, l1] (.inl (jw (x - y)) :: st) w := rfl
theorem E36_18 (x : Int) (y : Int) (a : Nat) (st : List jV) (l0 l1 : Option jV) (w : jH) : jblk jT0 36 cl bk (n + 1) 18 [l0, l1] (.inl y :: .inl x :: jr a :: st) w = jai w a .int x y fun w' => jblk jT0 36 cl bk n 19 [l0, l1] st w' := rfl
theorem E36_19 (a : Nat) (st : List jV) (l1 : Option jV) (w : jH) : jblk jT0 36 cl bk (n + 1) 19 [some (jr a), l1] st w = jblk jT0 36 cl bk n 20 [some (jr a), l1] (jr a :: st) w := rfl
theorem E36_20 (a : Nat) (st : List jV) (l0 l1 : Option jV) (w : jH) : jblk jT0 36 cl bk (n + 1) 20 [l0, l1] (jr a :: st) w = jgf w a 1 1 fun v => jblk jT0 36 cl bk n 23 [l0, l1] (v :: st) w := rfl
theorem E36_23 (x : Int) (st : List jV) (l0 : Option jV) (w : jH) : jblk jT0 36 cl bk (n + 1) 23 [l0, some (.inl x)] st w = jblk jT0 36 cl bk n 24 [l0, some (.inl x)] (.inl x :: st) w := rfl
theorem E36_24 (x : Int) (a : Nat) (st : List jV) (l0 l1 : Option jV) (w : jH) : jblk jT0 36 cl bk (n + 1) 24 [l0, l1] (.inl x :: jr a :: st) w = jlda w a x (fun z => jblk jT0 36 cl bk n 25 [l0, l1] (.inl z :: st) w) := rfl
theorem E36_25 (x : Int) (st : List jV) (l0 l1 : Option jV) (w : jH) : jblk jT0 36 cl bk (n + 1) 25 [l0, l1] (.inl x :: st) w = if x = 0 then jblk jT0 36 cl bk n 28 [l0, l1] st w else jblk jT0 36 cl bk n 43 [l0, l1] st w := rfl
theorem E36_28 (a : Nat) (st : List jV) (l1 : Option jV) (w : jH) : jblk jT0 36 cl bk (n + 1) 28 [some (jr a), l1] st w = jblk jT0 36 cl bk n 29 [some (jr a), l1] (jr a :: st) w := rfl
theorem E36_29_0 (x : Int) (st : List jV) (l0 l1 : Option jV) (w : jH) : jblk jT0 36 cl bk (n + 1) 29 [l0, l1] (.inl x :: st) w = jblk jT0 36 cl bk n 30 [l0, l1] (.inl x :: .inl x :: st) w := rfl
theorem E36_29_1 (a : Nat) (st : List jV) (l0 l1 : Option jV) (w : jH) : jblk jT0 36 cl bk (n + 1) 29 [l0, l1] (jr a :: st) w = jblk jT0 36 cl bk n 30 [l0, l1] (jr a :: jr a :: st) w := rfl
theorem E36_30 (a : Nat) (st : List jV) (l0 l1 : Option jV) (w : jH) : jblk jT0 36 cl bk (n + 1) 30 [l0, l1] (jr a :: st) w = jgf w a 1 6 fun v => jblk jT0 36 cl bk n 33 [l0, l1] (v :: st) w := rfl
theorem E36_33 (st : List jV) (l0 l1 : Option jV) (w : jH) : jblk jT0 36 cl bk (n + 1) 33 [l0, l1] st w = jblk jT0 36 cl bk n 34 [l0, l1] (.inl 1 :: st) w := rfl
theorem E36_34 (x : Int) (y : Int) (st : List jV) (l0 l1 : Option jV) (w : jH) : jblk jT0 36 cl bk (n + 1) 34 [l0, l1] (.inl y :: .inl x :: st) w = jblk jT0 36 cl bk n 35 [l0, l1] (.inl (jw (x + y)) :: st) w := rfl
theorem E36_35 (a : Nat) (v : jV) (st : List jV) (l0 l1 : Option jV) (w : jH) : jblk jT0 36 cl bk (n + 1) 35 [l0, l1] (v :: jr a :: st) w = jpf w a 1 6 .int v fun w' => jblk jT0 36 cl bk n 38 [l0, l1] st w' := rfl
theorem E36_38 (a : Nat) (st : List jV) (l1 : Option jV) (w : jH) : jblk jT0 36 cl bk (n + 1) 38 [some (jr a), l1] st w = jblk jT0 36 cl bk n 39 [some (jr a), l1] (jr a :: st) w := rfl
theorem E36_39 (x : Int) (st : List jV) (l0 : Option jV) (w : jH) : jblk jT0 36 cl bk (n + 1) 39 [l0, some (.inl x)] st w = jblk jT0 36 cl bk n 40 [l0, some (.inl x)] (.inl x :: st) w := rfl
theorem E36_40 (a : Nat) (v0 : jV) (st : List jV) (l0 l1 : Option jV) (w : jH) : jblk jT0 36 cl bk (n + 1) 40 [l0, l1] (v0 :: jr a :: st) w = jsh st (jgo w a 1 fun _ => jcl (cl 37 [jr a, v0] w) (fun v w' => jblk jT0 36 cl bk n 43 [l0, l1] (jpush v st) w') (fun E w' => some (.inr E, w'))) := rfl
theorem E36_43 (l0 l1 : Option jV) (w : jH) : jblk jT0 36 cl bk (n + 1) 43 [l0, l1] [] w = some (.inl none, w) := rfl
theorem E37_0 (a : Nat) (st : List jV) (l1 : Option jV) (w : jH) : jblk jT0 37 cl bk (n + 1) 0 [some (jr a), l1] st w = jblk jT0 37 cl bk n 1 [some (jr a), l1] (jr a :: st) w := rfl
theorem E37_1 (x : Int) (st : List jV) (l0 : Option jV) (w : jH) : jblk jT0 37 cl bk (n + 1) 1 [l0, some (.inl x)] st w = jblk jT0 37 cl bk n 2 [l0, some (.inl x)] (.inl x :: st) w := rfl
theorem E37_2 (a : Nat) (v0 : jV) (st : List jV) (l0 l1 : Option jV) (w : jH) : jblk jT0 37 cl bk (n + 1) 2 [l0, l1] (v0 :: jr a :: st) w = jsh st (jgo w a 1 fun _ => jcl (cl 25 [jr a, v0] w) (fun v w' => jblk jT0 37 cl bk n 5 [l0, l1] (jpush v st) w') (fun E w' => some (.inr E, w'))) := rfl
theorem E37_5 (x : Int) (st : List jV) (l0 l1 : Option jV) (w : jH) : jblk jT0 37 cl bk (n + 1) 5 [l0, l1] (.inl x :: st) w = if x = 0 then jblk jT0 37 cl bk n 36 [l0, l1] st w else jblk jT0 37 cl bk n 8 [l0, l1] st w := rfl
theorem E37_8 (a : Nat) (st : List jV) (l1 : Option jV) (w : jH) : jblk jT0 37 cl bk (n + 1) 8 [some (jr a), l1] st w = jblk jT0 37 cl bk n 9 [some (jr a), l1] (jr a :: st) w := rfl
theorem E37_9 (a : Nat) (st : List jV) (l0 l1 : Option jV) (w : jH) : jblk jT0 37 cl bk (n + 1) 9 [l0, l1] (jr a :: st) w = jgf w a 1 1 fun v => jblk jT0 37 cl bk n 12 [l0, l1] (v :: st) w := rfl
theorem E37_12 (x : Int) (st : List jV) (l0 : Option jV) (w : jH) : jblk jT0 37 cl bk (n + 1) 12 [l0, some (.inl x)] st w = jblk jT0 37 cl bk n 13 [l0, some (.inl x)] (.inl x :: st) w := rfl
theorem E37_13 (st : List jV) (l0 l1 : Option jV) (w : jH) : jblk jT0 37 cl bk (n + 1) 13 [l0, l1] st w = jblk jT0 37 cl bk n 14 [l0, l1] (.inl 0 :: st) w := rfl
theorem E37_14 (x : Int) (y : Int) (a : Nat) (st : List jV) (l0 l1 : Option jV) (w : jH) : jblk jT0 37 cl bk (n + 1) 14 [l0, l1] (.inl y :: .inl x :: jr a :: st) w = jai w a .int x y fun w' => jblk jT0 37 cl bk n 15 [l0, l1] st w' := rfl
theorem E37_15 (a : Nat) (st : List jV) (l1 : Option jV) (w : jH) : jblk jT0 37 cl bk (n + 1) 15 [some (jr a), l1] st w = jblk jT0 37 cl bk n 16 [some (jr a), l1] (jr a :: st) w := rfl
theorem E37_16 (a : Nat) (st : List jV) (l0 l1 : Option jV) (w : jH) : jblk jT0 37 cl bk (n + 1) 16 [l0, l1] (jr a :: st) w = jgf w a 1 2 fun v => jblk jT0 37 cl bk n 19 [l0, l1] (v :: st) w := rfl
theorem E37_19 (x : Int) (st : List jV) (l0 : Option jV) (w : jH) : jblk jT0 37 cl bk (n + 1) 19 [l0, some (.inl x)] st w = jblk jT0 37 cl bk n 20 [l0, some (.inl x)] (.inl x :: st) w := rfl
theorem E37_20 (st : List jV) (l0 l1 : Option jV) (w : jH) : jblk jT0 37 cl bk (n + 1) 20 [l0, l1] st w = jblk jT0 37 cl bk n 21 [l0, l1] (.inl (-1) :: st) w := rfl
theorem E37_21 (x : Int) (y : Int) (a : Nat) (st : List jV) (l0 l1 : Option jV) (w : jH) : jblk jT0 37 cl bk (n + 1) 21 [l0, l1] (.inl y :: .inl x :: jr a :: st) w = jai w a .int x y fun w' => jblk jT0 37 cl bk n 22 [l0, l1] st w' := rfl
theorem E37_22 (a : Nat) (st : List jV) (l1 : Option jV) (w : jH) : jblk jT0 37 cl bk (n + 1) 22 [some (jr a), l1] st w = jblk jT0 37 cl bk n 23 [some (jr a), l1] (jr a :: st) w := rfl
theorem E37_23 (a : Nat) (st : List jV) (l0 l1 : Option jV) (w : jH) : jblk jT0 37 cl bk (n + 1) 23 [l0, l1] (jr a :: st) w = jgf w a 1 3 fun v => jblk jT0 37 cl bk n 26 [l0, l1] (v :: st) w := rfl
theorem E37_26 (x : Int) (st : List jV) (l0 : Option jV) (w : jH) : jblk jT0 37 cl bk (n + 1) 26 [l0, some (.inl x)] st w = jblk jT0 37 cl bk n 27 [l0, some (.inl x)] (.inl x :: st) w := rfl
theorem E37_27 (st : List jV) (l0 l1 : Option jV) (w : jH) : jblk jT0 37 cl bk (n + 1) 27 [l0, l1] st w = jblk jT0 37 cl bk n 28 [l0, l1] (.inl 0 :: st) w := rfl
theorem E37_28 (x : Int) (y : Int) (a : Nat) (st : List jV) (l0 l1 : Option jV) (w : jH) : jblk jT0 37 cl bk (n + 1) 28 [l0, l1] (.inl y :: .inl x :: jr a :: st) w = jai w a .boolean x y fun w' => jblk jT0 37 cl bk n 29 [l0, l1] st w' := rfl
theorem E37_29 (a : Nat) (st : List jV) (l1 : Option jV) (w : jH) : jblk jT0 37 cl bk (n + 1) 29 [some (jr a), l1] st w = jblk jT0 37 cl bk n 30 [some (jr a), l1] (jr a :: st) w := rfl
theorem E37_30 (a : Nat) (st : List jV) (l0 l1 : Option jV) (w : jH) : jblk jT0 37 cl bk (n + 1) 30 [l0, l1] (jr a :: st) w = jgf w a 1 4 fun v => jblk jT0 37 cl bk n 33 [l0, l1] (v :: st) w := rfl
theorem E37_33 (x : Int) (st : List jV) (l0 : Option jV) (w : jH) : jblk jT0 37 cl bk (n + 1) 33 [l0, some (.inl x)] st w = jblk jT0 37 cl bk n 34 [l0, some (.inl x)] (.inl x :: st) w := rfl
theorem E37_34 (st : List jV) (l0 l1 : Option jV) (w : jH) : jblk jT0 37 cl bk (n + 1) 34 [l0, l1] st w = jblk jT0 37 cl bk n 35 [l0, l1] (.inl 0 :: st) w := rfl
theorem E37_35 (x : Int) (y : Int) (a : Nat) (st : List jV) (l0 l1 : Option jV) (w : jH) : jblk jT0 37 cl bk (n + 1) 35 [l0, l1] (.inl y :: .inl x :: jr a :: st) w = jai w a .boolean x y fun w' => jblk jT0 37 cl bk n 36 [l0, l1] st w' := rfl
theorem E37_36 (l0 l1 : Option jV) (w : jH) : jblk jT0 37 cl bk (n + 1) 36 [l0, l1] [] w = some (.inl none, w) := rfl
theorem E38_0 (a : Nat) (st : List jV) (l1 : Option jV) (w : jH) : jblk jT0 38 cl bk (n + 1) 0 [some (jr a), l1] st w = jblk jT0 38 cl bk n 1 [some (jr a), l1] (jr a :: st) w := rfl
theorem E38_1 (x : Int) (st : List jV) (l0 : Option jV) (w : jH) : jblk jT0 38 cl bk (n + 1) 1 [l0, some (.inl x)] st w = jblk jT0 38 cl bk n 2 [l0, some (.inl x)] (.inl x :: st) w := rfl
theorem E38_2 (a : Nat) (v0 : jV) (st : List jV) (l0 l1 : Option jV) (w : jH) : jblk jT0 38 cl bk (n + 1) 2 [l0, l1] (v0 :: jr a :: st) w = jsh st (jgo w a 1 fun _ => jcl (cl 25 [jr a, v0] w) (fun v w' => jblk jT0 38 cl bk n 5 [l0, l1] (jpush v st) w') (fun E w' => some (.inr E, w'))) := rfl
theorem E38_5 (x : Int) (st : List jV) (l0 l1 : Option jV) (w : jH) : jblk jT0 38 cl bk (n + 1) 5 [l0, l1] (.inl x :: st) w = if x = 0 then jblk jT0 38 cl bk n 15 [l0, l1] st w else jblk jT0 38 cl bk n 8 [l0, l1] st w := rfl
theorem E38_8 (a : Nat) (st : List jV) (l1 : Option jV) (w : jH) : jblk jT0 38 cl bk (n + 1) 8 [some (jr a), l1] st w = jblk jT0 38 cl bk n 9 [some (jr a), l1] (jr a :: st) w := rfl
theorem E38_9 (a : Nat) (st : List jV) (l0 l1 : Option jV) (w : jH) : jblk jT0 38 cl bk (n + 1) 9 [l0, l1] (jr a :: st) w = jgf w a 1 3 fun v => jblk jT0 38 cl bk n 12 [l0, l1] (v :: st) w := rfl
theorem E38_12 (x : Int) (st : List jV) (l0 : Option jV) (w : jH) : jblk jT0 38 cl bk (n + 1) 12 [l0, some (.inl x)] st w = jblk jT0 38 cl bk n 13 [l0, some (.inl x)] (.inl x :: st) w := rfl
theorem E38_13 (st : List jV) (l0 l1 : Option jV) (w : jH) : jblk jT0 38 cl bk (n + 1) 13 [l0, l1] st w = jblk jT0 38 cl bk n 14 [l0, l1] (.inl 1 :: st) w := rfl
theorem E38_14 (x : Int) (y : Int) (a : Nat) (st : List jV) (l0 l1 : Option jV) (w : jH) : jblk jT0 38 cl bk (n + 1) 14 [l0, l1] (.inl y :: .inl x :: jr a :: st) w = jai w a .boolean x y fun w' => jblk jT0 38 cl bk n 15 [l0, l1] st w' := rfl
theorem E38_15 (l0 l1 : Option jV) (w : jH) : jblk jT0 38 cl bk (n + 1) 15 [l0, l1] [] w = some (.inl none, w) := rfl
theorem E39_0 (a : Nat) (st : List jV) (l1 : Option jV) (w : jH) : jblk jT0 39 cl bk (n + 1) 0 [some (jr a), l1] st w = jblk jT0 39 cl bk n 1 [some (jr a), l1] (jr a :: st) w := rfl
theorem E39_1 (x : Int) (st : List jV) (l0 : Option jV) (w : jH) : jblk jT0 39 cl bk (n + 1) 1 [l0, some (.inl x)] st w = jblk jT0 39 cl bk n 2 [l0, some (.inl x)] (.inl x :: st) w := rfl
theorem E39_2 (a : Nat) (v0 : jV) (st : List jV) (l0 l1 : Option jV) (w : jH) : jblk jT0 39 cl bk (n + 1) 2 [l0, l1] (v0 :: jr a :: st) w = jsh st (jgo w a 1 fun _ => jcl (cl 25 [jr a, v0] w) (fun v w' => jblk jT0 39 cl bk n 5 [l0, l1] (jpush v st) w') (fun E w' => some (.inr E, w'))) := rfl
theorem E39_5 (x : Int) (st : List jV) (l0 l1 : Option jV) (w : jH) : jblk jT0 39 cl bk (n + 1) 5 [l0, l1] (.inl x :: st) w = if x = 0 then jblk jT0 39 cl bk n 31 [l0, l1] st w else jblk jT0 39 cl bk n 8 [l0, l1] st w := rfl
theorem E39_8 (a : Nat) (st : List jV) (l1 : Option jV) (w : jH) : jblk jT0 39 cl bk (n + 1) 8 [some (jr a), l1] st w = jblk jT0 39 cl bk n 9 [some (jr a), l1] (jr a :: st) w := rfl
theorem E39_9 (a : Nat) (st : List jV) (l0 l1 : Option jV) (w : jH) : jblk jT0 39 cl bk (n + 1) 9 [l0, l1] (jr a :: st) w = jgf w a 1 3 fun v => jblk jT0 39 cl bk n 12 [l0, l1] (v :: st) w := rfl
theorem E39_12 (x : Int) (st : List jV) (l0 : Option jV) (w : jH) : jblk jT0 39 cl bk (n + 1) 12 [l0, some (.inl x)] st w = jblk jT0 39 cl bk n 13 [l0, some (.inl x)] (.inl x :: st) w := rfl
theorem E39_13 (st : List jV) (l0 l1 : Option jV) (w : jH) : jblk jT0 39 cl bk (n + 1) 13 [l0, l1] st w = jblk jT0 39 cl bk n 14 [l0, l1] (.inl 0 :: st) w := rfl
theorem E39_14 (x : Int) (y : Int) (a : Nat) (st : List jV) (l0 l1 : Option jV) (w : jH) : jblk jT0 39 cl bk (n + 1) 14 [l0, l1] (.inl y :: .inl x :: jr a :: st) w = jai w a .boolean x y fun w' => jblk jT0 39 cl bk n 15 [l0, l1] st w' := rfl
theorem E39_15 (a : Nat) (st : List jV) (l1 : Option jV) (w : jH) : jblk jT0 39 cl bk (n + 1) 15 [some (jr a), l1] st w = jblk jT0 39 cl bk n 16 [some (jr a), l1] (jr a :: st) w := rfl
theorem E39_16 (a : Nat) (st : List jV) (l0 l1 : Option jV) (w : jH) : jblk jT0 39 cl bk (n + 1) 16 [l0, l1] (jr a :: st) w = jgf w a 1 1 fun v => jblk jT0 39 cl bk n 19 [l0, l1] (v :: st) w := rfl
theorem E39_19 (x : Int) (st : List jV) (l0 : Option jV) (w : jH) : jblk jT0 39 cl bk (n + 1) 19 [l0, some (.inl x)] st w = jblk jT0 39 cl bk n 20 [l0, some (.inl x)] (.inl x :: st) w := rfl
theorem E39_20 (a : Nat) (st : List jV) (l1 : Option jV) (w : jH) : jblk jT0 39 cl bk (n + 1) 20 [some (jr a), l1] st w = jblk jT0 39 cl bk n 21 [some (jr a), l1] (jr a :: st) w := rfl
theorem E39_21 (a : Nat) (st : List jV) (l0 l1 : Option jV) (w : jH) : jblk jT0 39 cl bk (n + 1) 21 [l0, l1] (jr a :: st) w = jgf w a 1 1 fun v => jblk jT0 39 cl bk n 24 [l0, l1] (v :: st) w := rfl
theorem E39_24 (x : Int) (st : List jV) (l0 : Option jV) (w : jH) : jblk jT0 39 cl bk (n + 1) 24 [l0, some (.inl x)] st w = jblk jT0 39 cl bk n 25 [l0, some (.inl x)] (.inl x :: st) w := rfl
theorem E39_25 (x : Int) (a : Nat) (st : List jV) (l0 l1 : Option jV) (w : jH) : jblk jT0 39 cl bk (n + 1) 25 [l0, l1] (.inl x :: jr a :: st) w = jlda w a x (fun z => jblk jT0 39 cl bk n 26 [l0, l1] (.inl z :: st) w) := rfl
theorem E39_26 (st : List jV) (l0 l1 : Option jV) (w : jH) : jblk jT0 39 cl bk (n + 1) 26 [l0, l1] st w = jblk jT0 39 cl bk n 27 [l0, l1] (.inl 1 :: st) w := rfl
theorem E39_27 (x : Int) (y : Int) (st : List jV) (l0 l1 : Option jV) (w : jH) : jblk jT0 39 cl bk (n + 1) 27 [l0, l1] (.inl y :: .inl x :: st) w = jblk jT0 39 cl bk n 28 [l0, l1] (.inl (jw (x + y)) :: st) w := rfl
theorem E39_28 (st : List jV) (l0 l1 : Option jV) (w : jH) : jblk jT0 39 cl bk (n + 1) 28 [l0, l1] st w = jblk jT0 39 cl bk n 29 [l0, l1] (.inl 2 :: st) w := rfl
theorem E39_29 (x : Int) (y : Int) (st : List jV) (l0 l1 : Option jV) (w : jH) : jblk jT0 39 cl bk (n + 1) 29 [l0, l1] (.inl y :: .inl x :: st) w = if 0 < y ∧ 0 ≤ x then jblk jT0 39 cl bk n 30 [l0, l1] (.inl (x / y) :: st) w else none := rfl
theorem E39_30 (x : Int) (y : Int) (a : Nat) (st : List jV) (l0 l1 : Option jV) (w : jH) : jblk jT0 39 cl bk (n + 1) 30 [l0, l1] (.inl y :: .inl x :: jr a :: st) w = jai w a .int x y fun w' => jblk jT0 39 cl bk n 31 [l0, l1] st w' := rfl
theorem E39_31 (l0 l1 : Option jV) (w : jH) : jblk jT0 39 cl bk (n + 1) 31 [l0, l1] [] w = some (.inl none, w) := rfl
theorem E40_0 (a : Nat) (st : List jV) (l1 l2 : Option jV) (w : jH) : jblk jT0 40 cl bk (n + 1) 0 [some (jr a), l1, l2] st w = jblk jT0 40 cl bk n 1 [some (jr a), l1, l2] (jr a :: st) w := rfl
theorem E40_1 (x : Int) (st : List jV) (l0 l2 : Option jV) (w : jH) : jblk jT0 40 cl bk (n + 1) 1 [l0, some (.inl x), l2] st w = jblk jT0 40 cl bk n 2 [l0, some (.inl x), l2] (.inl x :: st) w := rfl
theorem E40_2 (a : Nat) (v0 : jV) (st : List jV) (l0 l1 l2 : Option jV) (w : jH) : jblk jT0 40 cl bk (n + 1) 2 [l0, l1, l2] (v0 :: jr a :: st) w = jsh st (jgo w a 1 fun _ => jcl (cl 25 [jr a, v0] w) (fun v w' => jblk jT0 40 cl bk n 5 [l0, l1, l2] (jpush v st) w') (fun E w' => some (.inr E, w'))) := rfl
theorem E40_5 (x : Int) (st : List jV) (l0 l1 l2 : Option jV) (w : jH) : jblk jT0 40 cl bk (n + 1) 5 [l0, l1, l2] (.inl x :: st) w = if x = 0 then jblk jT0 40 cl bk n 15 [l0, l1, l2] st w else jblk jT0 40 cl bk n 8 [l0, l1, l2] st w := rfl
theorem E40_8 (a : Nat) (st : List jV) (l1 l2 : Option jV) (w : jH) : jblk jT0 40 cl bk (n + 1) 8 [some (jr a), l1, l2] st w = jblk jT0 40 cl bk n 9 [some (jr a), l1, l2] (jr a :: st) w := rfl
theorem E40_9 (a : Nat) (st : List jV) (l0 l1 l2 : Option jV) (w : jH) : jblk jT0 40 cl bk (n + 1) 9 [l0, l1, l2] (jr a :: st) w = jgf w a 1 2 fun v => jblk jT0 40 cl bk n 12 [l0, l1, l2] (v :: st) w := rfl
theorem E40_12 (x : Int) (st : List jV) (l0 l2 : Option jV) (w : jH) : jblk jT0 40 cl bk (n + 1) 12 [l0, some (.inl x), l2] st w = jblk jT0 40 cl bk n 13 [l0, some (.inl x), l2] (.inl x :: st) w := rfl
theorem E40_13 (x : Int) (st : List jV) (l0 l1 : Option jV) (w : jH) : jblk jT0 40 cl bk (n + 1) 13 [l0, l1, some (.inl x)] st w = jblk jT0 40 cl bk n 14 [l0, l1, some (.inl x)] (.inl x :: st) w := rfl
theorem E40_14 (x : Int) (y : Int) (a : Nat) (st : List jV) (l0 l1 l2 : Option jV) (w : jH) : jblk jT0 40 cl bk (n + 1) 14 [l0, l1, l2] (.inl y :: .inl x :: jr a :: st) w = jai w a .int x y fun w' => jblk jT0 40 cl bk n 15 [l0, l1, l2] st w' := rfl
theorem E40_15 (l0 l1 l2 : Option jV) (w : jH) : jblk jT0 40 cl bk (n + 1) 15 [l0, l1, l2] [] w = some (.inl none, w) := rfl
theorem E41_0 (x : Int) (st : List jV) (l0 l1 l3 : Option jV) (w : jH) : jblk jT0 41 cl bk (n + 1) 0 [l0, l1, some (.inl x), l3] st w = jblk jT0 41 cl bk n 1 [l0, l1, some (.inl x), l3] (.inl x :: st) w := rfl
theorem E41_1 (st : List jV) (l0 l1 l2 l3 : Option jV) (w : jH) : jblk jT0 41 cl bk (n + 1) 1 [l0, l1, l2, l3] st w = jblk jT0 41 cl bk n 2 [l0, l1, l2, l3] (.inl (-1) :: st) w := rfl
theorem E41_2 (x : Int) (y : Int) (st : List jV) (l0 l1 l2 l3 : Option jV) (w : jH) : jblk jT0 41 cl bk (n + 1) 2 [l0, l1, l2, l3] (.inl y :: .inl x :: st) w = if x = y then jblk jT0 41 cl bk n 5 [l0, l1, l2, l3] st w else jblk jT0 41 cl bk n 22 [l0, l1, l2, l3] st w := rfl
theorem E41_5 (a : Nat) (st : List jV) (l1 l2 l3 : Option jV) (w : jH) : jblk jT0 41 cl bk (n + 1) 5 [some (jr a), l1, l2, l3] st w = jblk jT0 41 cl bk n 6 [some (jr a), l1, l2, l3] (jr a :: st) w := rfl
theorem E41_6_0 (x : Int) (st : List jV) (l0 l1 l2 l3 : Option jV) (w : jH) : jblk jT0 41 cl bk (n + 1) 6 [l0, l1, l2, l3] (.inl x :: st) w = jblk jT0 41 cl bk n 7 [l0, l1, l2, l3] (.inl x :: .inl x :: st) w := rfl
theorem E41_6_1 (a : Nat) (st : List jV) (l0 l1 l2 l3 : Option jV) (w : jH) : jblk jT0 41 cl bk (n + 1) 6 [l0, l1, l2, l3] (jr a :: st) w = jblk jT0 41 cl bk n 7 [l0, l1, l2, l3] (jr a :: jr a :: st) w := rfl
theorem E41_7 (a : Nat) (st : List jV) (l0 l1 l2 l3 : Option jV) (w : jH) : jblk jT0 41 cl bk (n + 1) 7 [l0, l1, l2, l3] (jr a :: st) w = jgf w a 1 8 fun v => jblk jT0 41 cl bk n 10 [l0, l1, l2, l3] (v :: st) w := rfl
theorem E41_10 (st : List jV) (l0 l1 l2 l3 : Option jV) (w : jH) : jblk jT0 41 cl bk (n + 1) 10 [l0, l1, l2, l3] st w = jblk jT0 41 cl bk n 11 [l0, l1, l2, l3] (.inl 1 :: st) w := rfl
theorem E41_11 (x : Int) (y : Int) (st : List jV) (l0 l1 l2 l3 : Option jV) (w : jH) : jblk jT0 41 cl bk (n + 1) 11 [l0, l1, l2, l3] (.inl y :: .inl x :: st) w = jblk jT0 41 cl bk n 12 [l0, l1, l2, l3] (.inl (jw (x + y)) :: st) w := rfl
theorem E41_12 (a : Nat) (v : jV) (st : List jV) (l0 l1 l2 l3 : Option jV) (w : jH) : jblk jT0 41 cl bk (n + 1) 12 [l0, l1, l2, l3] (v :: jr a :: st) w = jpf w a 1 8 .int v fun w' => jblk jT0 41 cl bk n 15 [l0, l1, l2, l3] st w' := rfl
theorem E41_15 (a : Nat) (st : List jV) (l1 l2 l3 : Option jV) (w : jH) : jblk jT0 41 cl bk (n + 1) 15 [some (jr a), l1, l2, l3] st w = jblk jT0 41 cl bk n 16 [some (jr a), l1, l2, l3] (jr a :: st) w := rfl
theorem E41_16 (x : Int) (st : List jV) (l0 l2 l3 : Option jV) (w : jH) : jblk jT0 41 cl bk (n + 1) 16 [l0, some (.inl x), l2, l3] st w = jblk jT0 41 cl bk n 17 [l0, some (.inl x), l2, l3] (.inl x :: st) w := rfl
theorem E41_17 (a : Nat) (v0 : jV) (st : List jV) (l0 l1 l2 l3 : Option jV) (w : jH) : jblk jT0 41 cl bk (n + 1) 17 [l0, l1, l2, l3] (v0 :: jr a :: st) w = jsh st (jgo w a 1 fun _ => jcl (cl 37 [jr a, v0] w) (fun v w' => jblk jT0 41 cl bk n 20 [l0, l1, l2, l3] (jpush v st) w') (fun E w' => some (.inr E, w'))) := rfl
theorem E41_20 (st : List jV) (l0 l1 l2 l3 : Option jV) (w : jH) : jblk jT0 41 cl bk (n + 1) 20 [l0, l1, l2, l3] st w = jblk jT0 41 cl bk n 21 [l0, l1, l2, l3] (.inl 0 :: st) w := rfl
theorem E41_21 (x : Int) (l0 l1 l2 l3 : Option jV) (w : jH) : jblk jT0 41 cl bk (n + 1) 21 [l0, l1, l2, l3] [.inl x] w = if jfits .boolean x = true then some (.inl (some (.inl x)), w) else none := rfl
theorem E41_22 (a : Nat) (st : List jV) (l1 l2 l3 : Option jV) (w : jH) : jblk jT0 41 cl bk (n + 1) 22 [some (jr a), l1, l2, l3] st w = jblk jT0 41 cl bk n 23 [some (jr a), l1, l2, l3] (jr a :: st) w := rfl
theorem E41_23 (x : Int) (st : List jV) (l0 l1 l3 : Option jV) (w : jH) : jblk jT0 41 cl bk (n + 1) 23 [l0, l1, some (.inl x), l3] st w = jblk jT0 41 cl bk n 24 [l0, l1, some (.inl x), l3] (.inl x :: st) w := rfl
theorem E41_24 (a : Nat) (st : List jV) (l1 l2 l3 : Option jV) (w : jH) : jblk jT0 41 cl bk (n + 1) 24 [some (jr a), l1, l2, l3] st w = jblk jT0 41 cl bk n 25 [some (jr a), l1, l2, l3] (jr a :: st) w := rfl
theorem E41_25 (x : Int) (st : List jV) (l0 l2 l3 : Option jV) (w : jH) : jblk jT0 41 cl bk (n + 1) 25 [l0, some (.inl x), l2, l3] st w = jblk jT0 41 cl bk n 26 [l0, some (.inl x), l2, l3] (.inl x :: st) w := rfl
theorem E41_26 (a : Nat) (v0 : jV) (st : List jV) (l0 l1 l2 l3 : Option jV) (w : jH) : jblk jT0 41 cl bk (n + 1) 26 [l0, l1, l2, l3] (v0 :: jr a :: st) w = jsh st (jgo w a 1 fun _ => jcl (cl 26 [jr a, v0] w) (fun v w' => jblk jT0 41 cl bk n 29 [l0, l1, l2, l3] (jpush v st) w') (fun E w' => some (.inr E, w'))) := rfl
theorem E41_29 (a : Nat) (v0 : jV) (v1 : jV) (st : List jV) (l0 l1 l2 l3 : Option jV) (w : jH) : jblk jT0 41 cl bk (n + 1) 29 [l0, l1, l2, l3] (v1 :: v0 :: jr a :: st) w = jsh st (jgo w a 1 fun _ => jcl (cl 33 [jr a, v0, v1] w) (fun v w' => jblk jT0 41 cl bk n 32 [l0, l1, l2, l3] (jpush v st) w') (fun E w' => some (.inr E, w'))) := rfl
theorem E41_32 (x : Int) (st : List jV) (l0 l1 l2 l3 : Option jV) (w : jH) : jblk jT0 41 cl bk (n + 1) 32 [l0, l1, l2, l3] (.inl x :: st) w = jblk jT0 41 cl bk n 33 [l0, l1, l2, some (.inl x)] st w := rfl
theorem E41_33 (a : Nat) (st : List jV) (l1 l2 l3 : Option jV) (w : jH) : jblk jT0 41 cl bk (n + 1) 33 [some (jr a), l1, l2, l3] st w = jblk jT0 41 cl bk n 34 [some (jr a), l1, l2, l3] (jr a :: st) w := rfl
theorem E41_34 (x : Int) (st : List jV) (l0 l1 l2 : Option jV) (w : jH) : jblk jT0 41 cl bk (n + 1) 34 [l0, l1, l2, some (.inl x)] st w = jblk jT0 41 cl bk n 35 [l0, l1, l2, some (.inl x)] (.inl x :: st) w := rfl
theorem E41_35 (a : Nat) (v0 : jV) (st : List jV) (l0 l1 l2 l3 : Option jV) (w : jH) : jblk jT0 41 cl bk (n + 1) 35 [l0, l1, l2, l3] (v0 :: jr a :: st) w = jsh st (jgo w a 1 fun _ => jcl (cl 25 [jr a, v0] w) (fun v w' => jblk jT0 41 cl bk n 38 [l0, l1, l2, l3] (jpush v st) w') (fun E w' => some (.inr E, w'))) := rfl
theorem E41_38 (x : Int) (st : List jV) (l0 l1 l2 l3 : Option jV) (w : jH) : jblk jT0 41 cl bk (n + 1) 38 [l0, l1, l2, l3] (.inl x :: st) w = if x = 0 then jblk jT0 41 cl bk n 82 [l0, l1, l2, l3] st w else jblk jT0 41 cl bk n 41 [l0, l1, l2, l3] st w := rfl
theorem E41_41 (a : Nat) (st : List jV) (l1 l2 l3 : Option jV) (w : jH) : jblk jT0 41 cl bk (n + 1) 41 [some (jr a), l1, l2, l3] st w = jblk jT0 41 cl bk n 42 [some (jr a), l1, l2, l3] (jr a :: st) w := rfl
theorem E41_42 (a : Nat) (st : List jV) (l0 l1 l2 l3 : Option jV) (w : jH) : jblk jT0 41 cl bk (n + 1) 42 [l0, l1, l2, l3] (jr a :: st) w = jgf w a 1 1 fun v => jblk jT0 41 cl bk n 45 [l0, l1, l2, l3] (v :: st) w := rfl
theorem E41_45 (x : Int) (st : List jV) (l0 l1 l2 : Option jV) (w : jH) : jblk jT0 41 cl bk (n + 1) 45 [l0, l1, l2, some (.inl x)] st w = jblk jT0 41 cl bk n 46 [l0, l1, l2, some (.inl x)] (.inl x :: st) w := rfl
theorem E41_46 (a : Nat) (st : List jV) (l1 l2 l3 : Option jV) (w : jH) : jblk jT0 41 cl bk (n + 1) 46 [some (jr a), l1, l2, l3] st w = jblk jT0 41 cl bk n 47 [some (jr a), l1, l2, l3] (jr a :: st) w := rfl
theorem E41_47 (a : Nat) (st : List jV) (l0 l1 l2 l3 : Option jV) (w : jH) : jblk jT0 41 cl bk (n + 1) 47 [l0, l1, l2, l3] (jr a :: st) w = jgf w a 1 1 fun v => jblk jT0 41 cl bk n 50 [l0, l1, l2, l3] (v :: st) w := rfl
theorem E41_50 (x : Int) (st : List jV) (l0 l1 l2 : Option jV) (w : jH) : jblk jT0 41 cl bk (n + 1) 50 [l0, l1, l2, some (.inl x)] st w = jblk jT0 41 cl bk n 51 [l0, l1, l2, some (.inl x)] (.inl x :: st) w := rfl
theorem E41_51 (x : Int) (a : Nat) (st : List jV) (l0 l1 l2 l3 : Option jV) (w : jH) : jblk jT0 41 cl bk (n + 1) 51 [l0, l1, l2, l3] (.inl x :: jr a :: st) w = jlda w a x (fun z => jblk jT0 41 cl bk n 52 [l0, l1, l2, l3] (.inl z :: st) w) := rfl
theorem E41_52 (a : Nat) (st : List jV) (l1 l2 l3 : Option jV) (w : jH) : jblk jT0 41 cl bk (n + 1) 52 [some (jr a), l1, l2, l3] st w = jblk jT0 41 cl bk n 53 [some (jr a), l1, l2, l3] (jr a :: st) w := rfl
theorem E41_53 (x : Int) (st : List jV) (l0 l2 l3 : Option jV) (w : jH) : jblk jT0 41 cl bk (n + 1) 53 [l0, some (.inl x), l2, l3] st w = jblk jT0 41 cl bk n 54 [l0, some (.inl x), l2, l3] (.inl x :: st) w := rfl
theorem E41_54 (a : Nat) (v0 : jV) (st : List jV) (l0 l1 l2 l3 : Option jV) (w : jH) : jblk jT0 41 cl bk (n + 1) 54 [l0, l1, l2, l3] (v0 :: jr a :: st) w = jsh st (jgo w a 1 fun _ => jcl (cl 27 [jr a, v0] w) (fun v w' => jblk jT0 41 cl bk n 57 [l0, l1, l2, l3] (jpush v st) w') (fun E w' => some (.inr E, w'))) := rfl
theorem E41_57 (x : Int) (y : Int) (st : List jV) (l0 l1 l2 l3 : Option jV) (w : jH) : jblk jT0 41 cl bk (n + 1) 57 [l0, l1, l2, l3] (.inl y :: .inl x :: st) w = jblk jT0 41 cl bk n 58 [l0, l1, l2, l3] (.inl (jw (x + y)) :: st) w := rfl
theorem E41_58 (st : List jV) (l0 l1 l2 l3 : Option jV) (w : jH) : jblk jT0 41 cl bk (n + 1) 58 [l0, l1, l2, l3] st w = jblk jT0 41 cl bk n 60 [l0, l1, l2, l3] (.inl 9 :: st) w := rfl
theorem E41_60 (x : Int) (y : Int) (st : List jV) (l0 l1 l2 l3 : Option jV) (w : jH) : jblk jT0 41 cl bk (n + 1) 60 [l0, l1, l2, l3] (.inl y :: .inl x :: st) w = jsh st (jblk jT0 41 cl bk n 63 [l0, l1, l2, l3] (.inl (if y < x then y else x) :: st) w) := rfl
theorem E41_63 (x : Int) (y : Int) (a : Nat) (st : List jV) (l0 l1 l2 l3 : Option jV) (w : jH) : jblk jT0 41 cl bk (n + 1) 63 [l0, l1, l2, l3] (.inl y :: .inl x :: jr a :: st) w = jai w a .int x y fun w' => jblk jT0 41 cl bk n 64 [l0, l1, l2, l3] st w' := rfl
theorem E41_64 (a : Nat) (st : List jV) (l1 l2 l3 : Option jV) (w : jH) : jblk jT0 41 cl bk (n + 1) 64 [some (jr a), l1, l2, l3] st w = jblk jT0 41 cl bk n 65 [some (jr a), l1, l2, l3] (jr a :: st) w := rfl
theorem E41_65_0 (x : Int) (st : List jV) (l0 l1 l2 l3 : Option jV) (w : jH) : jblk jT0 41 cl bk (n + 1) 65 [l0, l1, l2, l3] (.inl x :: st) w = jblk jT0 41 cl bk n 66 [l0, l1, l2, l3] (.inl x :: .inl x :: st) w := rfl
theorem E41_65_1 (a : Nat) (st : List jV) (l0 l1 l2 l3 : Option jV) (w : jH) : jblk jT0 41 cl bk (n + 1) 65 [l0, l1, l2, l3] (jr a :: st) w = jblk jT0 41 cl bk n 66 [l0, l1, l2, l3] (jr a :: jr a :: st) w := rfl
theorem E41_66 (a : Nat) (st : List jV) (l0 l1 l2 l3 : Option jV) (w : jH) : jblk jT0 41 cl bk (n + 1) 66 [l0, l1, l2, l3] (jr a :: st) w = jgf w a 1 7 fun v => jblk jT0 41 cl bk n 69 [l0, l1, l2, l3] (v :: st) w := rfl
theorem E41_69 (st : List jV) (l0 l1 l2 l3 : Option jV) (w : jH) : jblk jT0 41 cl bk (n + 1) 69 [l0, l1, l2, l3] st w = jblk jT0 41 cl bk n 70 [l0, l1, l2, l3] (.inl 1 :: st) w := rfl
theorem E41_70 (x : Int) (y : Int) (st : List jV) (l0 l1 l2 l3 : Option jV) (w : jH) : jblk jT0 41 cl bk (n + 1) 70 [l0, l1, l2, l3] (.inl y :: .inl x :: st) w = jblk jT0 41 cl bk n 71 [l0, l1, l2, l3] (.inl (jw (x + y)) :: st) w := rfl
theorem E41_71 (a : Nat) (v : jV) (st : List jV) (l0 l1 l2 l3 : Option jV) (w : jH) : jblk jT0 41 cl bk (n + 1) 71 [l0, l1, l2, l3] (v :: jr a :: st) w = jpf w a 1 7 .int v fun w' => jblk jT0 41 cl bk n 74 [l0, l1, l2, l3] st w' := rfl
theorem E41_74 (a : Nat) (st : List jV) (l1 l2 l3 : Option jV) (w : jH) : jblk jT0 41 cl bk (n + 1) 74 [some (jr a), l1, l2, l3] st w = jblk jT0 41 cl bk n 75 [some (jr a), l1, l2, l3] (jr a :: st) w := rfl
theorem E41_75 (x : Int) (st : List jV) (l0 l2 l3 : Option jV) (w : jH) : jblk jT0 41 cl bk (n + 1) 75 [l0, some (.inl x), l2, l3] st w = jblk jT0 41 cl bk n 76 [l0, some (.inl x), l2, l3] (.inl x :: st) w := rfl
theorem E41_76 (a : Nat) (v0 : jV) (st : List jV) (l0 l1 l2 l3 : Option jV) (w : jH) : jblk jT0 41 cl bk (n + 1) 76 [l0, l1, l2, l3] (v0 :: jr a :: st) w = jsh st (jgo w a 1 fun _ => jcl (cl 37 [jr a, v0] w) (fun v w' => jblk jT0 41 cl bk n 79 [l0, l1, l2, l3] (jpush v st) w') (fun E w' => some (.inr E, w'))) := rfl
theorem E41_79 (st : List jV) (l0 l1 l2 l3 : Option jV) (w : jH) : jblk jT0 41 cl bk (n + 1) 79 [l0, l1, l2, l3] st w = jblk jT0 41 cl bk n 88 [l0, l1, l2, l3] st w := rfl
theorem E41_82 (a : Nat) (st : List jV) (l1 l2 l3 : Option jV) (w : jH) : jblk jT0 41 cl bk (n + 1) 82 [some (jr a), l1, l2, l3] st w = jblk jT0 41 cl bk n 83 [some (jr a), l1, l2, l3] (jr a :: st) w := rfl
theorem E41_83 (x : Int) (st : List jV) (l0 l2 l3 : Option jV) (w : jH) : jblk jT0 41 cl bk (n + 1) 83 [l0, some (.inl x), l2, l3] st w = jblk jT0 41 cl bk n 84 [l0, some (.inl x), l2, l3] (.inl x :: st) w := rfl
theorem E41_84 (x : Int) (st : List jV) (l0 l1 l3 : Option jV) (w : jH) : jblk jT0 41 cl bk (n + 1) 84 [l0, l1, some (.inl x), l3] st w = jblk jT0 41 cl bk n 85 [l0, l1, some (.inl x), l3] (.inl x :: st) w := rfl
theorem E41_85 (a : Nat) (v0 : jV) (v1 : jV) (st : List jV) (l0 l1 l2 l3 : Option jV) (w : jH) : jblk jT0 41 cl bk (n + 1) 85 [l0, l1, l2, l3] (v1 :: v0 :: jr a :: st) w = jsh st (jgo w a 1 fun _ => jcl (cl 40 [jr a, v0, v1] w) (fun v w' => jblk jT0 41 cl bk n 88 [l0, l1, l2, l3] (jpush v st) w') (fun E w' => some (.inr E, w'))) := rfl
theorem E41_88 (st : List jV) (l0 l1 l2 l3 : Option jV) (w : jH) : jblk jT0 41 cl bk (n + 1) 88 [l0, l1, l2, l3] st w = jblk jT0 41 cl bk n 89 [l0, l1, l2, l3] (.inl 1 :: st) w := rfl
theorem E41_89 (x : Int) (l0 l1 l2 l3 : Option jV) (w : jH) : jblk jT0 41 cl bk (n + 1) 89 [l0, l1, l2, l3] [.inl x] w = if jfits .boolean x = true then some (.inl (some (.inl x)), w) else none := rfl
theorem E42_0 (st : List jV) (l0 l1 : Option jV) (w : jH) : jblk jT0 42 cl bk (n + 1) 0 [l0, l1] st w = jblk jT0 42 cl bk n 1 [l0, l1] (.inl 0 :: st) w := rfl
theorem E42_1 (x : Int) (st : List jV) (l0 l1 : Option jV) (w : jH) : jblk jT0 42 cl bk (n + 1) 1 [l0, l1] (.inl x :: st) w = bk 2 [l0, some (.inl x)] st w := rfl
theorem E42_2 (x : Int) (st : List jV) (l0 : Option jV) (w : jH) : jblk jT0 42 cl bk (n + 1) 2 [l0, some (.inl x)] st w = jblk jT0 42 cl bk n 3 [l0, some (.inl x)] (.inl x :: st) w := rfl
theorem E42_3 (a : Nat) (st : List jV) (l1 : Option jV) (w : jH) : jblk jT0 42 cl bk (n + 1) 3 [some (jr a), l1] st w = jblk jT0 42 cl bk n 4 [some (jr a), l1] (jr a :: st) w := rfl
theorem E42_4 (a : Nat) (st : List jV) (l0 l1 : Option jV) (w : jH) : jblk jT0 42 cl bk (n + 1) 4 [l0, l1] (jr a :: st) w = jgf w a 1 5 fun v => jblk jT0 42 cl bk n 7 [l0, l1] (v :: st) w := rfl
theorem E42_7 (x : Int) (y : Int) (st : List jV) (l0 l1 : Option jV) (w : jH) : jblk jT0 42 cl bk (n + 1) 7 [l0, l1] (.inl y :: .inl x :: st) w = if x < y then jblk jT0 42 cl bk n 10 [l0, l1] st w else jblk jT0 42 cl bk n 37 [l0, l1] st w := rfl
theorem E42_10 (a : Nat) (st : List jV) (l1 : Option jV) (w : jH) : jblk jT0 42 cl bk (n + 1) 10 [some (jr a), l1] st w = jblk jT0 42 cl bk n 11 [some (jr a), l1] (jr a :: st) w := rfl
theorem E42_11 (a : Nat) (st : List jV) (l0 l1 : Option jV) (w : jH) : jblk jT0 42 cl bk (n + 1) 11 [l0, l1] (jr a :: st) w = jgf w a 1 4 fun v => jblk jT0 42 cl bk n 14 [l0, l1] (v :: st) w := rfl
theorem E42_14 (x : Int) (st : List jV) (l0 : Option jV) (w : jH) : jblk jT0 42 cl bk (n + 1) 14 [l0, some (.inl x)] st w = jblk jT0 42 cl bk n 15 [l0, some (.inl x)] (.inl x :: st) w := rfl
theorem E42_15 (x : Int) (a : Nat) (st : List jV) (l0 l1 : Option jV) (w : jH) : jblk jT0 42 cl bk (n + 1) 15 [l0, l1] (.inl x :: jr a :: st) w = jgi w a .boolean x fun z => jblk jT0 42 cl bk n 16 [l0, l1] (.inl z :: st) w := rfl
theorem E42_16 (x : Int) (st : List jV) (l0 l1 : Option jV) (w : jH) : jblk jT0 42 cl bk (n + 1) 16 [l0, l1] (.inl x :: st) w = if x = 0 then jblk jT0 42 cl bk n 19 [l0, l1] st w else jblk jT0 42 cl bk n 24 [l0, l1] st w := rfl
theorem E42_19 (a : Nat) (st : List jV) (l1 : Option jV) (w : jH) : jblk jT0 42 cl bk (n + 1) 19 [some (jr a), l1] st w = jblk jT0 42 cl bk n 20 [some (jr a), l1] (jr a :: st) w := rfl
theorem E42_20 (x : Int) (st : List jV) (l0 : Option jV) (w : jH) : jblk jT0 42 cl bk (n + 1) 20 [l0, some (.inl x)] st w = jblk jT0 42 cl bk n 21 [l0, some (.inl x)] (.inl x :: st) w := rfl
theorem E42_21 (a : Nat) (v0 : jV) (st : List jV) (l0 l1 : Option jV) (w : jH) : jblk jT0 42 cl bk (n + 1) 21 [l0, l1] (v0 :: jr a :: st) w = jsh st (jgo w a 1 fun _ => jcl (cl 36 [jr a, v0] w) (fun v w' => jblk jT0 42 cl bk n 24 [l0, l1] (jpush v st) w') (fun E w' => some (.inr E, w'))) := rfl
theorem E42_24 (a : Nat) (st : List jV) (l1 : Option jV) (w : jH) : jblk jT0 42 cl bk (n + 1) 24 [some (jr a), l1] st w = jblk jT0 42 cl bk n 25 [some (jr a), l1] (jr a :: st) w := rfl
theorem E42_25 (a : Nat) (st : List jV) (l0 l1 : Option jV) (w : jH) : jblk jT0 42 cl bk (n + 1) 25 [l0, l1] (jr a :: st) w = jgf w a 1 4 fun v => jblk jT0 42 cl bk n 28 [l0, l1] (v :: st) w := rfl
theorem E42_28 (x : Int) (st : List jV) (l0 : Option jV) (w : jH) : jblk jT0 42 cl bk (n + 1) 28 [l0, some (.inl x)] st w = jblk jT0 42 cl bk n 29 [l0, some (.inl x)] (.inl x :: st) w := rfl
theorem E42_29 (st : List jV) (l0 l1 : Option jV) (w : jH) : jblk jT0 42 cl bk (n + 1) 29 [l0, l1] st w = jblk jT0 42 cl bk n 30 [l0, l1] (.inl 0 :: st) w := rfl
theorem E42_30 (x : Int) (y : Int) (a : Nat) (st : List jV) (l0 l1 : Option jV) (w : jH) : jblk jT0 42 cl bk (n + 1) 30 [l0, l1] (.inl y :: .inl x :: jr a :: st) w = jai w a .boolean x y fun w' => jblk jT0 42 cl bk n 31 [l0, l1] st w' := rfl
theorem E42_31 (x : Int) (st : List jV) (l0 : Option jV) (w : jH) : jblk jT0 42 cl bk (n + 1) 31 [l0, some (.inl x)] st w = jblk jT0 42 cl bk n 34 [l0, some (.inl (jw (x + 1)))] st w := rfl
theorem E42_34 (st : List jV) (l0 l1 : Option jV) (w : jH) : jblk jT0 42 cl bk (n + 1) 34 [l0, l1] st w = bk 2 [l0, l1] st w := rfl
theorem E42_37 (l0 l1 : Option jV) (w : jH) : jblk jT0 42 cl bk (n + 1) 37 [l0, l1] [] w = some (.inl none, w) := rfl
theorem E43_0 (st : List jV) (l0 l1 l2 l3 : Option jV) (w : jH) : jblk jT0 43 cl bk (n + 1) 0 [l0, l1, l2, l3] st w = jblk jT0 43 cl bk n 1 [l0, l1, l2, l3] (.inl 0 :: st) w := rfl
theorem E43_1 (x : Int) (st : List jV) (l0 l1 l2 l3 : Option jV) (w : jH) : jblk jT0 43 cl bk (n + 1) 1 [l0, l1, l2, l3] (.inl x :: st) w = jblk jT0 43 cl bk n 2 [l0, l1, some (.inl x), l3] st w := rfl
theorem E43_2 (st : List jV) (l0 l1 l2 l3 : Option jV) (w : jH) : jblk jT0 43 cl bk (n + 1) 2 [l0, l1, l2, l3] st w = jblk jT0 43 cl bk n 3 [l0, l1, l2, l3] (.inl 0 :: st) w := rfl
theorem E43_3 (x : Int) (st : List jV) (l0 l1 l2 l3 : Option jV) (w : jH) : jblk jT0 43 cl bk (n + 1) 3 [l0, l1, l2, l3] (.inl x :: st) w = bk 4 [l0, l1, l2, some (.inl x)] st w := rfl
theorem E43_4 (x : Int) (st : List jV) (l0 l1 l2 : Option jV) (w : jH) : jblk jT0 43 cl bk (n + 1) 4 [l0, l1, l2, some (.inl x)] st w = jblk jT0 43 cl bk n 5 [l0, l1, l2, some (.inl x)] (.inl x :: st) w := rfl
theorem E43_5 (a : Nat) (st : List jV) (l1 l2 l3 : Option jV) (w : jH) : jblk jT0 43 cl bk (n + 1) 5 [some (jr a), l1, l2, l3] st w = jblk jT0 43 cl bk n 6 [some (jr a), l1, l2, l3] (jr a :: st) w := rfl
theorem E43_6 (a : Nat) (st : List jV) (l0 l1 l2 l3 : Option jV) (w : jH) : jblk jT0 43 cl bk (n + 1) 6 [l0, l1, l2, l3] (jr a :: st) w = jgf w a 1 5 fun v => jblk jT0 43 cl bk n 9 [l0, l1, l2, l3] (v :: st) w := rfl
theorem E43_9 (x : Int) (y : Int) (st : List jV) (l0 l1 l2 l3 : Option jV) (w : jH) : jblk jT0 43 cl bk (n + 1) 9 [l0, l1, l2, l3] (.inl y :: .inl x :: st) w = if x < y then jblk jT0 43 cl bk n 12 [l0, l1, l2, l3] st w else jblk jT0 43 cl bk n 37 [l0, l1, l2, l3] st w := rfl
theorem E43_12 (a : Nat) (st : List jV) (l1 l2 l3 : Option jV) (w : jH) : jblk jT0 43 cl bk (n + 1) 12 [some (jr a), l1, l2, l3] st w = jblk jT0 43 cl bk n 13 [some (jr a), l1, l2, l3] (jr a :: st) w := rfl
theorem E43_13 (a : Nat) (st : List jV) (l0 l1 l2 l3 : Option jV) (w : jH) : jblk jT0 43 cl bk (n + 1) 13 [l0, l1, l2, l3] (jr a :: st) w = jgf w a 1 2 fun v => jblk jT0 43 cl bk n 16 [l0, l1, l2, l3] (v :: st) w := rfl
theorem E43_16 (x : Int) (st : List jV) (l0 l1 l2 : Option jV) (w : jH) : jblk jT0 43 cl bk (n + 1) 16 [l0, l1, l2, some (.inl x)] st w = jblk jT0 43 cl bk n 17 [l0, l1, l2, some (.inl x)] (.inl x :: st) w := rfl
theorem E43_17 (x : Int) (a : Nat) (st : List jV) (l0 l1 l2 l3 : Option jV) (w : jH) : jblk jT0 43 cl bk (n + 1) 17 [l0, l1, l2, l3] (.inl x :: jr a :: st) w = jlda w a x (fun z => jblk jT0 43 cl bk n 18 [l0, l1, l2, l3] (.inl z :: st) w) := rfl
theorem E43_18 (x : Int) (st : List jV) (l0 l2 l3 : Option jV) (w : jH) : jblk jT0 43 cl bk (n + 1) 18 [l0, some (.inl x), l2, l3] st w = jblk jT0 43 cl bk n 19 [l0, some (.inl x), l2, l3] (.inl x :: st) w := rfl
theorem E43_19 (x : Int) (y : Int) (st : List jV) (l0 l1 l2 l3 : Option jV) (w : jH) : jblk jT0 43 cl bk (n + 1) 19 [l0, l1, l2, l3] (.inl y :: .inl x :: st) w = if x = y then jblk jT0 43 cl bk n 22 [l0, l1, l2, l3] st w else jblk jT0 43 cl bk n 31 [l0, l1, l2, l3] st w := rfl
theorem E43_22 (x : Int) (st : List jV) (l0 l1 l3 : Option jV) (w : jH) : jblk jT0 43 cl bk (n + 1) 22 [l0, l1, some (.inl x), l3] st w = jblk jT0 43 cl bk n 23 [l0, l1, some (.inl x), l3] (.inl x :: st) w := rfl
theorem E43_23 (a : Nat) (st : List jV) (l1 l2 l3 : Option jV) (w : jH) : jblk jT0 43 cl bk (n + 1) 23 [some (jr a), l1, l2, l3] st w = jblk jT0 43 cl bk n 24 [some (jr a), l1, l2, l3] (jr a :: st) w := rfl
theorem E43_24 (a : Nat) (st : List jV) (l0 l1 l2 l3 : Option jV) (w : jH) : jblk jT0 43 cl bk (n + 1) 24 [l0, l1, l2, l3] (jr a :: st) w = jgf w a 1 1 fun v => jblk jT0 43 cl bk n 27 [l0, l1, l2, l3] (v :: st) w := rfl
theorem E43_27 (x : Int) (st : List jV) (l0 l1 l2 : Option jV) (w : jH) : jblk jT0 43 cl bk (n + 1) 27 [l0, l1, l2, some (.inl x)] st w = jblk jT0 43 cl bk n 28 [l0, l1, l2, some (.inl x)] (.inl x :: st) w := rfl
theorem E43_28 (x : Int) (a : Nat) (st : List jV) (l0 l1 l2 l3 : Option jV) (w : jH) : jblk jT0 43 cl bk (n + 1) 28 [l0, l1, l2, l3] (.inl x :: jr a :: st) w = jlda w a x (fun z => jblk jT0 43 cl bk n 29 [l0, l1, l2, l3] (.inl z :: st) w) := rfl
theorem E43_29 (x : Int) (y : Int) (st : List jV) (l0 l1 l2 l3 : Option jV) (w : jH) : jblk jT0 43 cl bk (n + 1) 29 [l0, l1, l2, l3] (.inl y :: .inl x :: st) w = jblk jT0 43 cl bk n 30 [l0, l1, l2, l3] (.inl (jw (x + y)) :: st) w := rfl
theorem E43_30 (x : Int) (st : List jV) (l0 l1 l2 l3 : Option jV) (w : jH) : jblk jT0 43 cl bk (n + 1) 30 [l0, l1, l2, l3] (.inl x :: st) w = jblk jT0 43 cl bk n 31 [l0, l1, some (.inl x), l3] st w := rfl
theorem E43_31 (x : Int) (st : List jV) (l0 l1 l2 : Option jV) (w : jH) : jblk jT0 43 cl bk (n + 1) 31 [l0, l1, l2, some (.inl x)] st w = jblk jT0 43 cl bk n 34 [l0, l1, l2, some (.inl (jw (x + 1)))] st w := rfl
theorem E43_34 (st : List jV) (l0 l1 l2 l3 : Option jV) (w : jH) : jblk jT0 43 cl bk (n + 1) 34 [l0, l1, l2, l3] st w = bk 4 [l0, l1, l2, l3] st w := rfl
theorem E43_37 (x : Int) (st : List jV) (l0 l1 l3 : Option jV) (w : jH) : jblk jT0 43 cl bk (n + 1) 37 [l0, l1, some (.inl x), l3] st w = jblk jT0 43 cl bk n 38 [l0, l1, some (.inl x), l3] (.inl x :: st) w := rfl
theorem E43_38 (x : Int) (l0 l1 l2 l3 : Option jV) (w : jH) : jblk jT0 43 cl bk (n + 1) 38 [l0, l1, l2, l3] [.inl x] w = if jfits .int x = true then some (.inl (some (.inl x)), w) else none := rfl
theorem E44_0 (st : List jV) (l0 l1 l2 : Option jV) (w : jH) : jblk jT0 44 cl bk (n + 1) 0 [l0, l1, l2] st w = jblk jT0 44 cl bk n 1 [l0, l1, l2] (.inl 0 :: st) w := rfl
theorem E44_1 (x : Int) (st : List jV) (l0 l1 l2 : Option jV) (w : jH) : jblk jT0 44 cl bk (n + 1) 1 [l0, l1, l2] (.inl x :: st) w = jblk jT0 44 cl bk n 2 [l0, some (.inl x), l2] st w := rfl
theorem E44_2 (st : List jV) (l0 l1 l2 : Option jV) (w : jH) : jblk jT0 44 cl bk (n + 1) 2 [l0, l1, l2] st w = jblk jT0 44 cl bk n 3 [l0, l1, l2] (.inl 0 :: st) w := rfl
theorem E44_3 (x : Int) (st : List jV) (l0 l1 l2 : Option jV) (w : jH) : jblk jT0 44 cl bk (n + 1) 3 [l0, l1, l2] (.inl x :: st) w = bk 4 [l0, l1, some (.inl x)] st w := rfl
theorem E44_4 (x : Int) (st : List jV) (l0 l1 : Option jV) (w : jH) : jblk jT0 44 cl bk (n + 1) 4 [l0, l1, some (.inl x)] st w = jblk jT0 44 cl bk n 5 [l0, l1, some (.inl x)] (.inl x :: st) w := rfl
theorem E44_5 (a : Nat) (st : List jV) (l1 l2 : Option jV) (w : jH) : jblk jT0 44 cl bk (n + 1) 5 [some (jr a), l1, l2] st w = jblk jT0 44 cl bk n 6 [some (jr a), l1, l2] (jr a :: st) w := rfl
theorem E44_6 (a : Nat) (st : List jV) (l0 l1 l2 : Option jV) (w : jH) : jblk jT0 44 cl bk (n + 1) 6 [l0, l1, l2] (jr a :: st) w = jgf w a 1 5 fun v => jblk jT0 44 cl bk n 9 [l0, l1, l2] (v :: st) w := rfl
theorem E44_9 (x : Int) (y : Int) (st : List jV) (l0 l1 l2 : Option jV) (w : jH) : jblk jT0 44 cl bk (n + 1) 9 [l0, l1, l2] (.inl y :: .inl x :: st) w = if x < y then jblk jT0 44 cl bk n 12 [l0, l1, l2] st w else jblk jT0 44 cl bk n 27 [l0, l1, l2] st w := rfl
theorem E44_12 (x : Int) (st : List jV) (l0 l2 : Option jV) (w : jH) : jblk jT0 44 cl bk (n + 1) 12 [l0, some (.inl x), l2] st w = jblk jT0 44 cl bk n 13 [l0, some (.inl x), l2] (.inl x :: st) w := rfl
theorem E44_13 (a : Nat) (st : List jV) (l1 l2 : Option jV) (w : jH) : jblk jT0 44 cl bk (n + 1) 13 [some (jr a), l1, l2] st w = jblk jT0 44 cl bk n 14 [some (jr a), l1, l2] (jr a :: st) w := rfl
theorem E44_14 (a : Nat) (st : List jV) (l0 l1 l2 : Option jV) (w : jH) : jblk jT0 44 cl bk (n + 1) 14 [l0, l1, l2] (jr a :: st) w = jgf w a 1 1 fun v => jblk jT0 44 cl bk n 17 [l0, l1, l2] (v :: st) w := rfl
theorem E44_17 (x : Int) (st : List jV) (l0 l1 : Option jV) (w : jH) : jblk jT0 44 cl bk (n + 1) 17 [l0, l1, some (.inl x)] st w = jblk jT0 44 cl bk n 18 [l0, l1, some (.inl x)] (.inl x :: st) w := rfl
theorem E44_18 (x : Int) (a : Nat) (st : List jV) (l0 l1 l2 : Option jV) (w : jH) : jblk jT0 44 cl bk (n + 1) 18 [l0, l1, l2] (.inl x :: jr a :: st) w = jlda w a x (fun z => jblk jT0 44 cl bk n 19 [l0, l1, l2] (.inl z :: st) w) := rfl
theorem E44_19 (x : Int) (y : Int) (st : List jV) (l0 l1 l2 : Option jV) (w : jH) : jblk jT0 44 cl bk (n + 1) 19 [l0, l1, l2] (.inl y :: .inl x :: st) w = jblk jT0 44 cl bk n 20 [l0, l1, l2] (.inl (jw (x + y)) :: st) w := rfl
theorem E44_20 (x : Int) (st : List jV) (l0 l1 l2 : Option jV) (w : jH) : jblk jT0 44 cl bk (n + 1) 20 [l0, l1, l2] (.inl x :: st) w = jblk jT0 44 cl bk n 21 [l0, some (.inl x), l2] st w := rfl
theorem E44_21 (x : Int) (st : List jV) (l0 l1 : Option jV) (w : jH) : jblk jT0 44 cl bk (n + 1) 21 [l0, l1, some (.inl x)] st w = jblk jT0 44 cl bk n 24 [l0, l1, some (.inl (jw (x + 1)))] st w := rfl
theorem E44_24 (st : List jV) (l0 l1 l2 : Option jV) (w : jH) : jblk jT0 44 cl bk (n + 1) 24 [l0, l1, l2] st w = bk 4 [l0, l1, l2] st w := rfl
theorem E44_27 (x : Int) (st : List jV) (l0 l2 : Option jV) (w : jH) : jblk jT0 44 cl bk (n + 1) 27 [l0, some (.inl x), l2] st w = jblk jT0 44 cl bk n 28 [l0, some (.inl x), l2] (.inl x :: st) w := rfl
theorem E44_28 (x : Int) (l0 l1 l2 : Option jV) (w : jH) : jblk jT0 44 cl bk (n + 1) 28 [l0, l1, l2] [.inl x] w = if jfits .int x = true then some (.inl (some (.inl x)), w) else none := rfl
theorem E45_0 (st : List jV) (l0 l1 l2 : Option jV) (w : jH) : jblk jT0 45 cl bk (n + 1) 0 [l0, l1, l2] st w = jblk jT0 45 cl bk n 1 [l0, l1, l2] (.inl 0 :: st) w := rfl
theorem E45_1 (x : Int) (st : List jV) (l0 l1 l2 : Option jV) (w : jH) : jblk jT0 45 cl bk (n + 1) 1 [l0, l1, l2] (.inl x :: st) w = jblk jT0 45 cl bk n 2 [l0, some (.inl x), l2] st w := rfl
theorem E45_2 (st : List jV) (l0 l1 l2 : Option jV) (w : jH) : jblk jT0 45 cl bk (n + 1) 2 [l0, l1, l2] st w = jblk jT0 45 cl bk n 3 [l0, l1, l2] (.inl 0 :: st) w := rfl
theorem E45_3 (x : Int) (st : List jV) (l0 l1 l2 : Option jV) (w : jH) : jblk jT0 45 cl bk (n + 1) 3 [l0, l1, l2] (.inl x :: st) w = bk 4 [l0, l1, some (.inl x)] st w := rfl
theorem E45_4 (x : Int) (st : List jV) (l0 l1 : Option jV) (w : jH) : jblk jT0 45 cl bk (n + 1) 4 [l0, l1, some (.inl x)] st w = jblk jT0 45 cl bk n 5 [l0, l1, some (.inl x)] (.inl x :: st) w := rfl
theorem E45_5 (a : Nat) (st : List jV) (l1 l2 : Option jV) (w : jH) : jblk jT0 45 cl bk (n + 1) 5 [some (jr a), l1, l2] st w = jblk jT0 45 cl bk n 6 [some (jr a), l1, l2] (jr a :: st) w := rfl
theorem E45_6 (a : Nat) (st : List jV) (l0 l1 l2 : Option jV) (w : jH) : jblk jT0 45 cl bk (n + 1) 6 [l0, l1, l2] (jr a :: st) w = jgf w a 1 5 fun v => jblk jT0 45 cl bk n 9 [l0, l1, l2] (v :: st) w := rfl
theorem E45_9 (x : Int) (y : Int) (st : List jV) (l0 l1 l2 : Option jV) (w : jH) : jblk jT0 45 cl bk (n + 1) 9 [l0, l1, l2] (.inl y :: .inl x :: st) w = if x < y then jblk jT0 45 cl bk n 12 [l0, l1, l2] st w else jblk jT0 45 cl bk n 30 [l0, l1, l2] st w := rfl
theorem E45_12 (a : Nat) (st : List jV) (l1 l2 : Option jV) (w : jH) : jblk jT0 45 cl bk (n + 1) 12 [some (jr a), l1, l2] st w = jblk jT0 45 cl bk n 13 [some (jr a), l1, l2] (jr a :: st) w := rfl
theorem E45_13 (a : Nat) (st : List jV) (l0 l1 l2 : Option jV) (w : jH) : jblk jT0 45 cl bk (n + 1) 13 [l0, l1, l2] (jr a :: st) w = jgf w a 1 1 fun v => jblk jT0 45 cl bk n 16 [l0, l1, l2] (v :: st) w := rfl
theorem E45_16 (x : Int) (st : List jV) (l0 l1 : Option jV) (w : jH) : jblk jT0 45 cl bk (n + 1) 16 [l0, l1, some (.inl x)] st w = jblk jT0 45 cl bk n 17 [l0, l1, some (.inl x)] (.inl x :: st) w := rfl
theorem E45_17 (x : Int) (a : Nat) (st : List jV) (l0 l1 l2 : Option jV) (w : jH) : jblk jT0 45 cl bk (n + 1) 17 [l0, l1, l2] (.inl x :: jr a :: st) w = jlda w a x (fun z => jblk jT0 45 cl bk n 18 [l0, l1, l2] (.inl z :: st) w) := rfl
theorem E45_18 (x : Int) (st : List jV) (l0 l1 l2 : Option jV) (w : jH) : jblk jT0 45 cl bk (n + 1) 18 [l0, l1, l2] (.inl x :: st) w = if 0 < x then jblk jT0 45 cl bk n 21 [l0, l1, l2] st w else jblk jT0 45 cl bk n 24 [l0, l1, l2] st w := rfl
theorem E45_21 (x : Int) (st : List jV) (l0 l2 : Option jV) (w : jH) : jblk jT0 45 cl bk (n + 1) 21 [l0, some (.inl x), l2] st w = jblk jT0 45 cl bk n 24 [l0, some (.inl (jw (x + 1))), l2] st w := rfl
theorem E45_24 (x : Int) (st : List jV) (l0 l1 : Option jV) (w : jH) : jblk jT0 45 cl bk (n + 1) 24 [l0, l1, some (.inl x)] st w = jblk jT0 45 cl bk n 27 [l0, l1, some (.inl (jw (x + 1)))] st w := rfl
theorem E45_27 (st : List jV) (l0 l1 l2 : Option jV) (w : jH) : jblk jT0 45 cl bk (n + 1) 27 [l0, l1, l2] st w = bk 4 [l0, l1, l2] st w := rfl
theorem E45_30 (x : Int) (st : List jV) (l0 l2 : Option jV) (w : jH) : jblk jT0 45 cl bk (n + 1) 30 [l0, some (.inl x), l2] st w = jblk jT0 45 cl bk n 31 [l0, some (.inl x), l2] (.inl x :: st) w := rfl
theorem E45_31 (x : Int) (l0 l1 l2 : Option jV) (w : jH) : jblk jT0 45 cl bk (n + 1) 31 [l0, l1, l2] [.inl x] w = if jfits .int x = true then some (.inl (some (.inl x)), w) else none := rfl
theorem E46_0 (st : List jV) (l0 l1 l2 : Option jV) (w : jH) : jblk jT0 46 cl bk (n + 1) 0 [l0, l1, l2] st w = jblk jT0 46 cl bk n 1 [l0, l1, l2] (.inl 0 :: st) w := rfl
theorem E46_1 (x : Int) (st : List jV) (l0 l1 l2 : Option jV) (w : jH) : jblk jT0 46 cl bk (n + 1) 1 [l0, l1, l2] (.inl x :: st) w = bk 2 [l0, l1, some (.inl x)] st w := rfl
theorem E46_2 (x : Int) (st : List jV) (l0 l1 : Option jV) (w : jH) : jblk jT0 46 cl bk (n + 1) 2 [l0, l1, some (.inl x)] st w = jblk jT0 46 cl bk n 3 [l0, l1, some (.inl x)] (.inl x :: st) w := rfl
theorem E46_3 (a : Nat) (st : List jV) (l1 l2 : Option jV) (w : jH) : jblk jT0 46 cl bk (n + 1) 3 [some (jr a), l1, l2] st w = jblk jT0 46 cl bk n 4 [some (jr a), l1, l2] (jr a :: st) w := rfl
theorem E46_4 (a : Nat) (st : List jV) (l0 l1 l2 : Option jV) (w : jH) : jblk jT0 46 cl bk (n + 1) 4 [l0, l1, l2] (jr a :: st) w = jgf w a 1 5 fun v => jblk jT0 46 cl bk n 7 [l0, l1, l2] (v :: st) w := rfl
theorem E46_7 (x : Int) (y : Int) (st : List jV) (l0 l1 l2 : Option jV) (w : jH) : jblk jT0 46 cl bk (n + 1) 7 [l0, l1, l2] (.inl y :: .inl x :: st) w = if x < y then jblk jT0 46 cl bk n 10 [l0, l1, l2] st w else jblk jT0 46 cl bk n 36 [l0, l1, l2] st w := rfl
theorem E46_10 (a : Nat) (st : List jV) (l1 l2 : Option jV) (w : jH) : jblk jT0 46 cl bk (n + 1) 10 [some (jr a), l1, l2] st w = jblk jT0 46 cl bk n 11 [some (jr a), l1, l2] (jr a :: st) w := rfl
theorem E46_11 (a : Nat) (st : List jV) (l0 l1 l2 : Option jV) (w : jH) : jblk jT0 46 cl bk (n + 1) 11 [l0, l1, l2] (jr a :: st) w = jgf w a 1 1 fun v => jblk jT0 46 cl bk n 14 [l0, l1, l2] (v :: st) w := rfl
theorem E46_14 (x : Int) (st : List jV) (l0 l1 : Option jV) (w : jH) : jblk jT0 46 cl bk (n + 1) 14 [l0, l1, some (.inl x)] st w = jblk jT0 46 cl bk n 15 [l0, l1, some (.inl x)] (.inl x :: st) w := rfl
theorem E46_15 (x : Int) (a : Nat) (st : List jV) (l0 l1 l2 : Option jV) (w : jH) : jblk jT0 46 cl bk (n + 1) 15 [l0, l1, l2] (.inl x :: jr a :: st) w = jlda w a x (fun z => jblk jT0 46 cl bk n 16 [l0, l1, l2] (.inl z :: st) w) := rfl
theorem E46_16 (x : Int) (st : List jV) (l0 l1 l2 : Option jV) (w : jH) : jblk jT0 46 cl bk (n + 1) 16 [l0, l1, l2] (.inl x :: st) w = if 0 < x then jblk jT0 46 cl bk n 19 [l0, l1, l2] st w else jblk jT0 46 cl bk n 30 [l0, l1, l2] st w := rfl
theorem E46_19 (a : Nat) (st : List jV) (l1 l2 : Option jV) (w : jH) : jblk jT0 46 cl bk (n + 1) 19 [some (jr a), l1, l2] st w = jblk jT0 46 cl bk n 20 [some (jr a), l1, l2] (jr a :: st) w := rfl
theorem E46_20 (x : Int) (st : List jV) (l0 l1 : Option jV) (w : jH) : jblk jT0 46 cl bk (n + 1) 20 [l0, l1, some (.inl x)] st w = jblk jT0 46 cl bk n 21 [l0, l1, some (.inl x)] (.inl x :: st) w := rfl
theorem E46_21 (a : Nat) (v0 : jV) (st : List jV) (l0 l1 l2 : Option jV) (w : jH) : jblk jT0 46 cl bk (n + 1) 21 [l0, l1, l2] (v0 :: jr a :: st) w = jsh st (jgo w a 1 fun _ => jcl (cl 47 [jr a, v0] w) (fun v w' => jblk jT0 46 cl bk n 24 [l0, l1, l2] (jpush v st) w') (fun E w' => some (.inr E, w'))) := rfl
theorem E46_24 (x : Int) (st : List jV) (l0 l2 : Option jV) (w : jH) : jblk jT0 46 cl bk (n + 1) 24 [l0, some (.inl x), l2] st w = jblk jT0 46 cl bk n 25 [l0, some (.inl x), l2] (.inl x :: st) w := rfl
theorem E46_25 (x : Int) (y : Int) (st : List jV) (l0 l1 l2 : Option jV) (w : jH) : jblk jT0 46 cl bk (n + 1) 25 [l0, l1, l2] (.inl y :: .inl x :: st) w = if x = y then jblk jT0 46 cl bk n 28 [l0, l1, l2] st w else jblk jT0 46 cl bk n 30 [l0, l1, l2] st w := rfl
theorem E46_28 (x : Int) (st : List jV) (l0 l1 : Option jV) (w : jH) : jblk jT0 46 cl bk (n + 1) 28 [l0, l1, some (.inl x)] st w = jblk jT0 46 cl bk n 29 [l0, l1, some (.inl x)] (.inl x :: st) w := rfl
theorem E46_29 (x : Int) (l0 l1 l2 : Option jV) (w : jH) : jblk jT0 46 cl bk (n + 1) 29 [l0, l1, l2] [.inl x] w = if jfits .int x = true then some (.inl (some (.inl x)), w) else none := rfl
theorem E46_30 (x : Int) (st : List jV) (l0 l1 : Option jV) (w : jH) : jblk jT0 46 cl bk (n + 1) 30 [l0, l1, some (.inl x)] st w = jblk jT0 46 cl bk n 33 [l0, l1, some (.inl (jw (x + 1)))] st w := rfl
theorem E46_33 (st : List jV) (l0 l1 l2 : Option jV) (w : jH) : jblk jT0 46 cl bk (n + 1) 33 [l0, l1, l2] st w = bk 2 [l0, l1, l2] st w := rfl
theorem E46_36 (st : List jV) (l0 l1 l2 : Option jV) (w : jH) : jblk jT0 46 cl bk (n + 1) 36 [l0, l1, l2] st w = jblk jT0 46 cl bk n 37 [l0, l1, l2] (.inl (-1) :: st) w := rfl
theorem E46_37 (x : Int) (l0 l1 l2 : Option jV) (w : jH) : jblk jT0 46 cl bk (n + 1) 37 [l0, l1, l2] [.inl x] w = if jfits .int x = true then some (.inl (some (.inl x)), w) else none := rfl
theorem E47_0 (st : List jV) (l0 l1 l2 l3 l4 : Option jV) (w : jH) : jblk jT0 47 cl bk (n + 1) 0 [l0, l1, l2, l3, l4] st w = jblk jT0 47 cl bk n 1 [l0, l1, l2, l3, l4] (.inl 0 :: st) w := rfl
theorem E47_1 (x : Int) (st : List jV) (l0 l1 l2 l3 l4 : Option jV) (w : jH) : jblk jT0 47 cl bk (n + 1) 1 [l0, l1, l2, l3, l4] (.inl x :: st) w = jblk jT0 47 cl bk n 2 [l0, l1, some (.inl x), l3, l4] st w := rfl
theorem E47_2 (st : List jV) (l0 l1 l2 l3 l4 : Option jV) (w : jH) : jblk jT0 47 cl bk (n + 1) 2 [l0, l1, l2, l3, l4] st w = jblk jT0 47 cl bk n 3 [l0, l1, l2, l3, l4] (.inl 0 :: st) w := rfl
theorem E47_3 (x : Int) (st : List jV) (l0 l1 l2 l3 l4 : Option jV) (w : jH) : jblk jT0 47 cl bk (n + 1) 3 [l0, l1, l2, l3, l4] (.inl x :: st) w = bk 4 [l0, l1, l2, some (.inl x), l4] st w := rfl
theorem E47_4 (x : Int) (st : List jV) (l0 l1 l2 l4 : Option jV) (w : jH) : jblk jT0 47 cl bk (n + 1) 4 [l0, l1, l2, some (.inl x), l4] st w = jblk jT0 47 cl bk n 5 [l0, l1, l2, some (.inl x), l4] (.inl x :: st) w := rfl
theorem E47_5 (a : Nat) (st : List jV) (l1 l2 l3 l4 : Option jV) (w : jH) : jblk jT0 47 cl bk (n + 1) 5 [some (jr a), l1, l2, l3, l4] st w = jblk jT0 47 cl bk n 6 [some (jr a), l1, l2, l3, l4] (jr a :: st) w := rfl
theorem E47_6 (a : Nat) (st : List jV) (l0 l1 l2 l3 l4 : Option jV) (w : jH) : jblk jT0 47 cl bk (n + 1) 6 [l0, l1, l2, l3, l4] (jr a :: st) w = jgf w a 1 5 fun v => jblk jT0 47 cl bk n 9 [l0, l1, l2, l3, l4] (v :: st) w := rfl
theorem E47_9 (x : Int) (y : Int) (st : List jV) (l0 l1 l2 l3 l4 : Option jV) (w : jH) : jblk jT0 47 cl bk (n + 1) 9 [l0, l1, l2, l3, l4] (.inl y :: .inl x :: st) w = if x < y then jblk jT0 47 cl bk n 12 [l0, l1, l2, l3, l4] st w else jblk jT0 47 cl bk n 50 [l0, l1, l2, l3, l4] st w := rfl
theorem E47_12 (a : Nat) (st : List jV) (l1 l2 l3 l4 : Option jV) (w : jH) : jblk jT0 47 cl bk (n + 1) 12 [some (jr a), l1, l2, l3, l4] st w = jblk jT0 47 cl bk n 13 [some (jr a), l1, l2, l3, l4] (jr a :: st) w := rfl
theorem E47_13 (a : Nat) (st : List jV) (l0 l1 l2 l3 l4 : Option jV) (w : jH) : jblk jT0 47 cl bk (n + 1) 13 [l0, l1, l2, l3, l4] (jr a :: st) w = jgf w a 1 1 fun v => jblk jT0 47 cl bk n 16 [l0, l1, l2, l3, l4] (v :: st) w := rfl
theorem E47_16 (x : Int) (st : List jV) (l0 l1 l2 l4 : Option jV) (w : jH) : jblk jT0 47 cl bk (n + 1) 16 [l0, l1, l2, some (.inl x), l4] st w = jblk jT0 47 cl bk n 17 [l0, l1, l2, some (.inl x), l4] (.inl x :: st) w := rfl
theorem E47_17 (x : Int) (a : Nat) (st : List jV) (l0 l1 l2 l3 l4 : Option jV) (w : jH) : jblk jT0 47 cl bk (n + 1) 17 [l0, l1, l2, l3, l4] (.inl x :: jr a :: st) w = jlda w a x (fun z => jblk jT0 47 cl bk n 18 [l0, l1, l2, l3, l4] (.inl z :: st) w) := rfl
theorem E47_18 (a : Nat) (st : List jV) (l1 l2 l3 l4 : Option jV) (w : jH) : jblk jT0 47 cl bk (n + 1) 18 [some (jr a), l1, l2, l3, l4] st w = jblk jT0 47 cl bk n 19 [some (jr a), l1, l2, l3, l4] (jr a :: st) w := rfl
theorem E47_19 (x : Int) (st : List jV) (l0 l2 l3 l4 : Option jV) (w : jH) : jblk jT0 47 cl bk (n + 1) 19 [l0, some (.inl x), l2, l3, l4] st w = jblk jT0 47 cl bk n 20 [l0, some (.inl x), l2, l3, l4] (.inl x :: st) w := rfl
theorem E47_20 (a : Nat) (v0 : jV) (st : List jV) (l0 l1 l2 l3 l4 : Option jV) (w : jH) : jblk jT0 47 cl bk (n + 1) 20 [l0, l1, l2, l3, l4] (v0 :: jr a :: st) w = jsh st (jgo w a 1 fun _ => jcl (cl 27 [jr a, v0] w) (fun v w' => jblk jT0 47 cl bk n 23 [l0, l1, l2, l3, l4] (jpush v st) w') (fun E w' => some (.inr E, w'))) := rfl
theorem E47_23 (x : Int) (y : Int) (st : List jV) (l0 l1 l2 l3 l4 : Option jV) (w : jH) : jblk jT0 47 cl bk (n + 1) 23 [l0, l1, l2, l3, l4] (.inl y :: .inl x :: st) w = jblk jT0 47 cl bk n 24 [l0, l1, l2, l3, l4] (.inl (jw (x - y)) :: st) w := rfl
theorem E47_24 (x : Int) (st : List jV) (l0 l1 l2 l3 l4 : Option jV) (w : jH) : jblk jT0 47 cl bk (n + 1) 24 [l0, l1, l2, l3, l4] (.inl x :: st) w = jblk jT0 47 cl bk n 26 [l0, l1, l2, l3, some (.inl x)] st w := rfl
theorem E47_26 (x : Int) (st : List jV) (l0 l1 l2 l3 : Option jV) (w : jH) : jblk jT0 47 cl bk (n + 1) 26 [l0, l1, l2, l3, some (.inl x)] st w = jblk jT0 47 cl bk n 28 [l0, l1, l2, l3, some (.inl x)] (.inl x :: st) w := rfl
theorem E47_28 (x : Int) (st : List jV) (l0 l1 l2 l3 l4 : Option jV) (w : jH) : jblk jT0 47 cl bk (n + 1) 28 [l0, l1, l2, l3, l4] (.inl x :: st) w = if 0 < x then jblk jT0 47 cl bk n 41 [l0, l1, l2, l3, l4] st w else jblk jT0 47 cl bk n 31 [l0, l1, l2, l3, l4] st w := rfl
theorem E47_31 (x : Int) (st : List jV) (l0 l1 l2 l3 : Option jV) (w : jH) : jblk jT0 47 cl bk (n + 1) 31 [l0, l1, l2, l3, some (.inl x)] st w = jblk jT0 47 cl bk n 33 [l0, l1, l2, l3, some (.inl x)] (.inl x :: st) w := rfl
theorem E47_33 (x : Int) (st : List jV) (l0 l1 l2 l3 l4 : Option jV) (w : jH) : jblk jT0 47 cl bk (n + 1) 33 [l0, l1, l2, l3, l4] (.inl x :: st) w = if x = 0 then jblk jT0 47 cl bk n 36 [l0, l1, l2, l3, l4] st w else jblk jT0 47 cl bk n 44 [l0, l1, l2, l3, l4] st w := rfl
theorem E47_36 (x : Int) (st : List jV) (l0 l1 l2 l4 : Option jV) (w : jH) : jblk jT0 47 cl bk (n + 1) 36 [l0, l1, l2, some (.inl x), l4] st w = jblk jT0 47 cl bk n 37 [l0, l1, l2, some (.inl x), l4] (.inl x :: st) w := rfl
theorem E47_37 (x : Int) (st : List jV) (l0 l2 l3 l4 : Option jV) (w : jH) : jblk jT0 47 cl bk (n + 1) 37 [l0, some (.inl x), l2, l3, l4] st w = jblk jT0 47 cl bk n 38 [l0, some (.inl x), l2, l3, l4] (.inl x :: st) w := rfl
theorem E47_38 (x : Int) (y : Int) (st : List jV) (l0 l1 l2 l3 l4 : Option jV) (w : jH) : jblk jT0 47 cl bk (n + 1) 38 [l0, l1, l2, l3, l4] (.inl y :: .inl x :: st) w = if x < y then jblk jT0 47 cl bk n 41 [l0, l1, l2, l3, l4] st w else jblk jT0 47 cl bk n 44 [l0, l1, l2, l3, l4] st w := rfl
theorem E47_41 (x : Int) (st : List jV) (l0 l1 l3 l4 : Option jV) (w : jH) : jblk jT0 47 cl bk (n + 1) 41 [l0, l1, some (.inl x), l3, l4] st w = jblk jT0 47 cl bk n 44 [l0, l1, some (.inl (jw (x + 1))), l3, l4] st w := rfl
theorem E47_44 (x : Int) (st : List jV) (l0 l1 l2 l4 : Option jV) (w : jH) : jblk jT0 47 cl bk (n + 1) 44 [l0, l1, l2, some (.inl x), l4] st w = jblk jT0 47 cl bk n 47 [l0, l1, l2, some (.inl (jw (x + 1))), l4] st w := rfl
theorem E47_47 (st : List jV) (l0 l1 l2 l3 l4 : Option jV) (w : jH) : jblk jT0 47 cl bk (n + 1) 47 [l0, l1, l2, l3, l4] st w = bk 4 [l0, l1, l2, l3, l4] st w := rfl
theorem E47_50 (x : Int) (st : List jV) (l0 l1 l3 l4 : Option jV) (w : jH) : jblk jT0 47 cl bk (n + 1) 50 [l0, l1, some (.inl x), l3, l4] st w = jblk jT0 47 cl bk n 51 [l0, l1, some (.inl x), l3, l4] (.inl x :: st) w := rfl
theorem E47_51 (x : Int) (l0 l1 l2 l3 l4 : Option jV) (w : jH) : jblk jT0 47 cl bk (n + 1) 51 [l0, l1, l2, l3, l4] [.inl x] w = if jfits .int x = true then some (.inl (some (.inl x)), w) else none := rfl
end
theorem M25 (d : Nat) (r0 : Nat) (a1 : Int) (w : jH) : jme jT0 jMx (d + 1) 25 [jr r0, .inl a1] w = jblk jT0 25 (jme jT0 jMx d) (jlp jT0 25 (jme jT0 jMx d) 99999) 4000 0 [some (jr r0), some (.inl a1)] [] w := (show _ = jlp jT0 25 (jme jT0 jMx d) 100000 0 [some (jr r0), some (.inl a1)] [] w from rfl).trans jlp_s
theorem M26 (d : Nat) (r0 : Nat) (a1 : Int) (w : jH) : jme jT0 jMx (d + 1) 26 [jr r0, .inl a1] w = jblk jT0 26 (jme jT0 jMx d) (jlp jT0 26 (jme jT0 jMx d) 99999) 4000 0 [some (jr r0), some (.inl a1)] [] w := (show _ = jlp jT0 26 (jme jT0 jMx d) 100000 0 [some (jr r0), some (.inl a1)] [] w from rfl).trans jlp_s
theorem M27 (d : Nat) (r0 : Nat) (a1 : Int) (w : jH) : jme jT0 jMx (d + 1) 27 [jr r0, .inl a1] w = jblk jT0 27 (jme jT0 jMx d) (jlp jT0 27 (jme jT0 jMx d) 99999) 4000 0 [some (jr r0), some (.inl a1)] [] w := (show _ = jlp jT0 27 (jme jT0 jMx d) 100000 0 [some (jr r0), some (.inl a1)] [] w from rfl).trans jlp_s
theorem M28 (d : Nat) (r0 : Nat) (a1 : Int) (w : jH) : jme jT0 jMx (d + 1) 28 [jr r0, .inl a1] w = jblk jT0 28 (jme jT0 jMx d) (jlp jT0 28 (jme jT0 jMx d) 99999) 4000 0 [some (jr r0), some (.inl a1)] [] w := (show _ = jlp jT0 28 (jme jT0 jMx d) 100000 0 [some (jr r0), some (.inl a1)] [] w from rfl).trans jlp_s
theorem M29 (d : Nat) (r0 : Nat) (a1 : Int) (w : jH) : jme jT0 jMx (d + 1) 29 [jr r0, .inl a1] w = jblk jT0 29 (jme jT0 jMx d) (jlp jT0 29 (jme jT0 jMx d) 99999) 4000 0 [some (jr r0), some (.inl a1)] [] w := (show _ = jlp jT0 29 (jme jT0 jMx d) 100000 0 [some (jr r0), some (.inl a1)] [] w from rfl).trans jlp_s
theorem M30 (d : Nat) (r0 : Nat) (a1 : Int) (w : jH) : jme jT0 jMx (d + 1) 30 [jr r0, .inl a1] w = jblk jT0 30 (jme jT0 jMx d) (jlp jT0 30 (jme jT0 jMx d) 99999) 4000 0 [some (jr r0), some (.inl a1)] [] w := (show _ = jlp jT0 30 (jme jT0 jMx d) 100000 0 [some (jr r0), some (.inl a1)] [] w from rfl).trans jlp_s
theorem M31 (d : Nat) (r0 : Nat) (a1 : Int) (w : jH) : jme jT0 jMx (d + 1) 31 [jr r0, .inl a1] w = jblk jT0 31 (jme jT0 jMx d) (jlp jT0 31 (jme jT0 jMx d) 99999) 4000 0 [some (jr r0), some (.inl a1)] [] w := (show _ = jlp jT0 31 (jme jT0 jMx d) 100000 0 [some (jr r0), some (.inl a1)] [] w from rfl).trans jlp_s
theorem M32 (d : Nat) (r0 : Nat) (a1 : Int) (w : jH) : jme jT0 jMx (d + 1) 32 [jr r0, .inl a1] w = jblk jT0 32 (jme jT0 jMx d) (jlp jT0 32 (jme jT0 jMx d) 99999) 4000 0 [some (jr r0), some (.inl a1)] [] w := (show _ = jlp jT0 32 (jme jT0 jMx d) 100000 0 [some (jr r0), some (.inl a1)] [] w from rfl).trans jlp_s
theorem M33 (d : Nat) (r0 : Nat) (a1 : Int) (a2 : Int) (w : jH) : jme jT0 jMx (d + 1) 33 [jr r0, .inl a1, .inl a2] w = jblk jT0 33 (jme jT0 jMx d) (jlp jT0 33 (jme jT0 jMx d) 99999) 4000 0 [some (jr r0), some (.inl a1), some (.inl a2), none] [] w := (show _ = jlp jT0 33 (jme jT0 jMx d) 100000 0 [some (jr r0), some (.inl a1), some (.inl a2), none] [] w from rfl).trans jlp_s
theorem M34 (d : Nat) (r0 : Nat) (a1 : Int) (a2 : Int) (a3 : Int) (w : jH) : jme jT0 jMx (d + 1) 34 [jr r0, .inl a1, .inl a2, .inl a3] w = jblk jT0 34 (jme jT0 jMx d) (jlp jT0 34 (jme jT0 jMx d) 99999) 4000 0 [some (jr r0), some (.inl a1), some (.inl a2), some (.inl a3), none] [] w := (show _ = jlp jT0 34 (jme jT0 jMx d) 100000 0 [some (jr r0), some (.inl a1), some (.inl a2), some (.inl a3), none] [] w from rfl).trans jlp_s
theorem M35 (d : Nat) (r0 : Nat) (a1 : Int) (w : jH) : jme jT0 jMx (d + 1) 35 [jr r0, .inl a1] w = jblk jT0 35 (jme jT0 jMx d) (jlp jT0 35 (jme jT0 jMx d) 99999) 4000 0 [some (jr r0), some (.inl a1)] [] w := (show _ = jlp jT0 35 (jme jT0 jMx d) 100000 0 [some (jr r0), some (.inl a1)] [] w from rfl).trans jlp_s
theorem M36 (d : Nat) (r0 : Nat) (a1 : Int) (w : jH) : jme jT0 jMx (d + 1) 36 [jr r0, .inl a1] w = jblk jT0 36 (jme jT0 jMx d) (jlp jT0 36 (jme jT0 jMx d) 99999) 4000 0 [some (jr r0), some (.inl a1)] [] w := (show _ = jlp jT0 36 (jme jT0 jMx d) 100000 0 [some (jr r0), some (.inl a1)] [] w from rfl).trans jlp_s
theorem M37 (d : Nat) (r0 : Nat) (a1 : Int) (w : jH) : jme jT0 jMx (d + 1) 37 [jr r0, .inl a1] w = jblk jT0 37 (jme jT0 jMx d) (jlp jT0 37 (jme jT0 jMx d) 99999) 4000 0 [some (jr r0), some (.inl a1)] [] w := (show _ = jlp jT0 37 (jme jT0 jMx d) 100000 0 [some (jr r0), some (.inl a1)] [] w from rfl).trans jlp_s
theorem M38 (d : Nat) (r0 : Nat) (a1 : Int) (w : jH) : jme jT0 jMx (d + 1) 38 [jr r0, .inl a1] w = jblk jT0 38 (jme jT0 jMx d) (jlp jT0 38 (jme jT0 jMx d) 99999) 4000 0 [some (jr r0), some (.inl a1)] [] w := (show _ = jlp jT0 38 (jme jT0 jMx d) 100000 0 [some (jr r0), some (.inl a1)] [] w from rfl).trans jlp_s
theorem M39 (d : Nat) (r0 : Nat) (a1 : Int) (w : jH) : jme jT0 jMx (d + 1) 39 [jr r0, .inl a1] w = jblk jT0 39 (jme jT0 jMx d) (jlp jT0 39 (jme jT0 jMx d) 99999) 4000 0 [some (jr r0), some (.inl a1)] [] w := (show _ = jlp jT0 39 (jme jT0 jMx d) 100000 0 [some (jr r0), some (.inl a1)] [] w from rfl).trans jlp_s
theorem M40 (d : Nat) (r0 : Nat) (a1 : Int) (a2 : Int) (w : jH) : jme jT0 jMx (d + 1) 40 [jr r0, .inl a1, .inl a2] w = jblk jT0 40 (jme jT0 jMx d) (jlp jT0 40 (jme jT0 jMx d) 99999) 4000 0 [some (jr r0), some (.inl a1), some (.inl a2)] [] w := (show _ = jlp jT0 40 (jme jT0 jMx d) 100000 0 [some (jr r0), some (.inl a1), some (.inl a2)] [] w from rfl).trans jlp_s
theorem M41 (d : Nat) (r0 : Nat) (a1 : Int) (a2 : Int) (w : jH) : jme jT0 jMx (d + 1) 41 [jr r0, .inl a1, .inl a2] w = jblk jT0 41 (jme jT0 jMx d) (jlp jT0 41 (jme jT0 jMx d) 99999) 4000 0 [some (jr r0), some (.inl a1), some (.inl a2), none] [] w := (show _ = jlp jT0 41 (jme jT0 jMx d) 100000 0 [some (jr r0), some (.inl a1), some (.inl a2), none] [] w from rfl).trans jlp_s
theorem M42 (d : Nat) (r0 : Nat) (w : jH) : jme jT0 jMx (d + 1) 42 [jr r0] w = jblk jT0 42 (jme jT0 jMx d) (jlp jT0 42 (jme jT0 jMx d) 99999) 4000 0 [some (jr r0), none] [] w := (show _ = jlp jT0 42 (jme jT0 jMx d) 100000 0 [some (jr r0), none] [] w from rfl).trans jlp_s
theorem M43 (d : Nat) (r0 : Nat) (a1 : Int) (w : jH) : jme jT0 jMx (d + 1) 43 [jr r0, .inl a1] w = jblk jT0 43 (jme jT0 jMx d) (jlp jT0 43 (jme jT0 jMx d) 99999) 4000 0 [some (jr r0), some (.inl a1), none, none] [] w := (show _ = jlp jT0 43 (jme jT0 jMx d) 100000 0 [some (jr r0), some (.inl a1), none, none] [] w from rfl).trans jlp_s
theorem M44 (d : Nat) (r0 : Nat) (w : jH) : jme jT0 jMx (d + 1) 44 [jr r0] w = jblk jT0 44 (jme jT0 jMx d) (jlp jT0 44 (jme jT0 jMx d) 99999) 4000 0 [some (jr r0), none, none] [] w := (show _ = jlp jT0 44 (jme jT0 jMx d) 100000 0 [some (jr r0), none, none] [] w from rfl).trans jlp_s
theorem M45 (d : Nat) (r0 : Nat) (w : jH) : jme jT0 jMx (d + 1) 45 [jr r0] w = jblk jT0 45 (jme jT0 jMx d) (jlp jT0 45 (jme jT0 jMx d) 99999) 4000 0 [some (jr r0), none, none] [] w := (show _ = jlp jT0 45 (jme jT0 jMx d) 100000 0 [some (jr r0), none, none] [] w from rfl).trans jlp_s
theorem M46 (d : Nat) (r0 : Nat) (a1 : Int) (w : jH) : jme jT0 jMx (d + 1) 46 [jr r0, .inl a1] w = jblk jT0 46 (jme jT0 jMx d) (jlp jT0 46 (jme jT0 jMx d) 99999) 4000 0 [some (jr r0), some (.inl a1), none] [] w := (show _ = jlp jT0 46 (jme jT0 jMx d) 100000 0 [some (jr r0), some (.inl a1), none] [] w from rfl).trans jlp_s
theorem M47 (d : Nat) (r0 : Nat) (a1 : Int) (w : jH) : jme jT0 jMx (d + 1) 47 [jr r0, .inl a1] w = jblk jT0 47 (jme jT0 jMx d) (jlp jT0 47 (jme jT0 jMx d) 99999) 4000 0 [some (jr r0), some (.inl a1), none, none, none] [] w := (show _ = jlp jT0 47 (jme jT0 jMx d) 100000 0 [some (jr r0), some (.inl a1), none, none, none] [] w from rfl).trans jlp_s
def f_Habits_has (m : jMem) (a1 : Int) : Option Int := if a1 < 0 then some 0 else if a1 < (m 7 5) then some 1 else some 0
section
variable {cf : jCf} {dv : UInt64}
set_option maxRecDepth 20000 in
set_option maxHeartbeats 4000000 in
theorem X25 (d : Nat) (a1 : Int) (m : jMem) (k : jM) : jme jT0 jMx (d + 1) 25 [jr (jn cf + 7), .inl a1] (hp cf dv m, k) = l0 cf dv m k ijI (f_Habits_has m a1) := by
  simp only [M25, E25_0, E25_1, E25_4, E25_5, E25_6, E25_9, E25_12, E25_13, E25_16, E25_17, gf_7_5, jsh_n, jsh_I, jsh_R, jsh_II, jsh_IR, jsh_RI, jsh_RR, jsh_III, jsh_IIR, jsh_IRI, jsh_IRR, jsh_RII, jsh_RIR, jsh_RRI, jsh_RRR, jsh_IIII, jsh_IIIR, jsh_IIRI, jsh_IIRR, jsh_IRII, jsh_IRIR, jsh_IRRI, jsh_IRRR, jsh_RIII, jsh_RIIR, jsh_RIRI, jsh_RIRR, jsh_RRII, jsh_RRIR, jsh_RRRI, jsh_RRRR, jthr_hp, jc_l0, jc_lW, jc_lX, jc_lXW, jc_lVW, jc_lVX, jpush_n, jpush_s, obt_0, obt_1, och_0, och_32, och_100, och_115, och_104, och_33, och_43, och_60, jint, jbit, jchr, ijI, ijR, ijD, ijF, ↓reduceIte, Int.reduceEq, Int.reduceLT, reduceCtorEq, l0_bind, l0_ite, l0_none, l0_oix, l0_obt, l0_och, l0_sel, l0_oel, l0_some, f_Habits_has]
end
def f_Habits_kind (m : jMem) (a1 : Int) : Option Int := (f_Habits_has m a1).bind fun x1 => if x1 = 0 then some 32 else oix a1 20 (och (m 8 a1.toNat) (some (m 8 a1.toNat)))
section
variable {cf : jCf} {dv : UInt64}
set_option maxRecDepth 20000 in
set_option maxHeartbeats 4000000 in
theorem X26 (d : Nat) (a1 : Int) (m : jMem) (k : jM) : jme jT0 jMx (d + 2) 26 [jr (jn cf + 7), .inl a1] (hp cf dv m, k) = l0 cf dv m k ijI (f_Habits_kind m a1) := by
  simp only [M26, E26_0, E26_1, E26_2, E26_5, E26_8, E26_9, E26_12, E26_13, E26_14, E26_17, E26_19, ai_8, gf_7_0, X25, go_7, jsh_n, jsh_I, jsh_R, jsh_II, jsh_IR, jsh_RI, jsh_RR, jsh_III, jsh_IIR, jsh_IRI, jsh_IRR, jsh_RII, jsh_RIR, jsh_RRI, jsh_RRR, jsh_IIII, jsh_IIIR, jsh_IIRI, jsh_IIRR, jsh_IRII, jsh_IRIR, jsh_IRRI, jsh_IRRR, jsh_RIII, jsh_RIIR, jsh_RIRI, jsh_RIRR, jsh_RRII, jsh_RRIR, jsh_RRRI, jsh_RRRR, jthr_hp, jc_l0, jc_lW, jc_lX, jc_lXW, jc_lVW, jc_lVX, jpush_n, jpush_s, obt_0, obt_1, och_0, och_32, och_100, och_115, och_104, och_33, och_43, och_60, jint, jbit, jchr, ijI, ijR, ijD, ijF, ↓reduceIte, Int.reduceEq, Int.reduceLT, reduceCtorEq, l0_bind, l0_ite, l0_none, l0_oix, l0_obt, l0_och, l0_sel, l0_oel, l0_some, f_Habits_kind]
end
def f_Habits_strength (m : jMem) (a1 : Int) : Option Int := (f_Habits_has m a1).bind fun x1 => if x1 = 0 then some 0 else oix a1 20 (some (m 9 a1.toNat))
section
variable {cf : jCf} {dv : UInt64}
set_option maxRecDepth 20000 in
set_option maxHeartbeats 4000000 in
theorem X27 (d : Nat) (a1 : Int) (m : jMem) (k : jM) : jme jT0 jMx (d + 2) 27 [jr (jn cf + 7), .inl a1] (hp cf dv m, k) = l0 cf dv m k ijI (f_Habits_strength m a1) := by
  simp only [M27, E27_0, E27_1, E27_2, E27_5, E27_8, E27_9, E27_12, E27_13, E27_14, E27_17, E27_18, ai_9, gf_7_1, X25, go_7, jsh_n, jsh_I, jsh_R, jsh_II, jsh_IR, jsh_RI, jsh_RR, jsh_III, jsh_IIR, jsh_IRI, jsh_IRR, jsh_RII, jsh_RIR, jsh_RRI, jsh_RRR, jsh_IIII, jsh_IIIR, jsh_IIRI, jsh_IIRR, jsh_IRII, jsh_IRIR, jsh_IRRI, jsh_IRRR, jsh_RIII, jsh_RIIR, jsh_RIRI, jsh_RIRR, jsh_RRII, jsh_RRIR, jsh_RRRI, jsh_RRRR, jthr_hp, jc_l0, jc_lW, jc_lX, jc_lXW, jc_lVW, jc_lVX, jpush_n, jpush_s, obt_0, obt_1, och_0, och_32, och_100, och_115, och_104, och_33, och_43, och_60, jint, jbit, jchr, ijI, ijR, ijD, ijF, ↓reduceIte, Int.reduceEq, Int.reduceLT, reduceCtorEq, l0_bind, l0_ite, l0_none, l0_oix, l0_obt, l0_och, l0_sel, l0_oel, l0_some, f_Habits_strength]
end
def f_Habits_holder (m : jMem) (a1 : Int) : Option Int := (f_Habits_has m a1).bind fun x1 => if x1 = 0 then some (-1) else oix a1 20 (some (m 10 a1.toNat))
section
variable {cf : jCf} {dv : UInt64}
set_option maxRecDepth 20000 in
set_option maxHeartbeats 4000000 in
theorem X28 (d : Nat) (a1 : Int) (m : jMem) (k : jM) : jme jT0 jMx (d + 2) 28 [jr (jn cf + 7), .inl a1] (hp cf dv m, k) = l0 cf dv m k ijI (f_Habits_holder m a1) := by
  simp only [M28, E28_0, E28_1, E28_2, E28_5, E28_8, E28_9, E28_12, E28_13, E28_14, E28_17, E28_18, ai_10, gf_7_2, X25, go_7, jsh_n, jsh_I, jsh_R, jsh_II, jsh_IR, jsh_RI, jsh_RR, jsh_III, jsh_IIR, jsh_IRI, jsh_IRR, jsh_RII, jsh_RIR, jsh_RRI, jsh_RRR, jsh_IIII, jsh_IIIR, jsh_IIRI, jsh_IIRR, jsh_IRII, jsh_IRIR, jsh_IRRI, jsh_IRRR, jsh_RIII, jsh_RIIR, jsh_RIRI, jsh_RIRR, jsh_RRII, jsh_RRIR, jsh_RRRI, jsh_RRRR, jthr_hp, jc_l0, jc_lW, jc_lX, jc_lXW, jc_lVW, jc_lVX, jpush_n, jpush_s, obt_0, obt_1, och_0, och_32, och_100, och_115, och_104, och_33, och_43, och_60, jint, jbit, jchr, ijI, ijR, ijD, ijF, ↓reduceIte, Int.reduceEq, Int.reduceLT, reduceCtorEq, l0_bind, l0_ite, l0_none, l0_oix, l0_obt, l0_och, l0_sel, l0_oel, l0_some, f_Habits_holder]
end
def f_Habits_isHeld (m : jMem) (a1 : Int) : Option Int := (f_Habits_has m a1).bind fun x1 => if x1 = 0 then some 0 else oix a1 20 (if 0 < (m 9 a1.toNat) then some 1 else some 0)
section
variable {cf : jCf} {dv : UInt64}
set_option maxRecDepth 20000 in
set_option maxHeartbeats 4000000 in
theorem X29 (d : Nat) (a1 : Int) (m : jMem) (k : jM) : jme jT0 jMx (d + 2) 29 [jr (jn cf + 7), .inl a1] (hp cf dv m, k) = l0 cf dv m k ijI (f_Habits_isHeld m a1) := by
  simp only [M29, E29_0, E29_1, E29_2, E29_5, E29_8, E29_9, E29_12, E29_13, E29_14, E29_17, E29_18, E29_21, E29_22, ai_9, gf_7_1, X25, go_7, jsh_n, jsh_I, jsh_R, jsh_II, jsh_IR, jsh_RI, jsh_RR, jsh_III, jsh_IIR, jsh_IRI, jsh_IRR, jsh_RII, jsh_RIR, jsh_RRI, jsh_RRR, jsh_IIII, jsh_IIIR, jsh_IIRI, jsh_IIRR, jsh_IRII, jsh_IRIR, jsh_IRRI, jsh_IRRR, jsh_RIII, jsh_RIIR, jsh_RIRI, jsh_RIRR, jsh_RRII, jsh_RRIR, jsh_RRRI, jsh_RRRR, jthr_hp, jc_l0, jc_lW, jc_lX, jc_lXW, jc_lVW, jc_lVX, jpush_n, jpush_s, obt_0, obt_1, och_0, och_32, och_100, och_115, och_104, och_33, och_43, och_60, jint, jbit, jchr, ijI, ijR, ijD, ijF, ↓reduceIte, Int.reduceEq, Int.reduceLT, reduceCtorEq, l0_bind, l0_ite, l0_none, l0_oix, l0_obt, l0_och, l0_sel, l0_oel, l0_some, f_Habits_isHeld]
end
def f_Habits_hasEntail (m : jMem) (a1 : Int) : Option Int := (f_Habits_has m a1).bind fun x1 => if x1 = 0 then some 0 else oix a1 20 (if (m 11 a1.toNat) = 0 then some 0 else some 1)
section
variable {cf : jCf} {dv : UInt64}
set_option maxRecDepth 20000 in
set_option maxHeartbeats 4000000 in
theorem X30 (d : Nat) (a1 : Int) (m : jMem) (k : jM) : jme jT0 jMx (d + 2) 30 [jr (jn cf + 7), .inl a1] (hp cf dv m, k) = l0 cf dv m k ijI (f_Habits_hasEntail m a1) := by
  simp only [M30, E30_0, E30_1, E30_2, E30_5, E30_8, E30_9, E30_12, E30_13, E30_14, E30_17, E30_18, E30_21, E30_22, ai_11, gf_7_3, X25, go_7, jsh_n, jsh_I, jsh_R, jsh_II, jsh_IR, jsh_RI, jsh_RR, jsh_III, jsh_IIR, jsh_IRI, jsh_IRR, jsh_RII, jsh_RIR, jsh_RRI, jsh_RRR, jsh_IIII, jsh_IIIR, jsh_IIRI, jsh_IIRR, jsh_IRII, jsh_IRIR, jsh_IRRI, jsh_IRRR, jsh_RIII, jsh_RIIR, jsh_RIRI, jsh_RIRR, jsh_RRII, jsh_RRIR, jsh_RRRI, jsh_RRRR, jthr_hp, jc_l0, jc_lW, jc_lX, jc_lXW, jc_lVW, jc_lVX, jpush_n, jpush_s, obt_0, obt_1, och_0, och_32, och_100, och_115, och_104, och_33, och_43, och_60, jint, jbit, jchr, ijI, ijR, ijD, ijF, ↓reduceIte, Int.reduceEq, Int.reduceLT, reduceCtorEq, l0_bind, l0_ite, l0_none, l0_oix, l0_obt, l0_och, l0_sel, l0_oel, l0_some, f_Habits_hasEntail]
end
def f_Habits_hasPractice (m : jMem) (a1 : Int) : Option Int := (f_Habits_has m a1).bind fun x1 => if x1 = 0 then some 0 else oix a1 20 (if (m 12 a1.toNat) = 0 then some 0 else some 1)
section
variable {cf : jCf} {dv : UInt64}
set_option maxRecDepth 20000 in
set_option maxHeartbeats 4000000 in
theorem X31 (d : Nat) (a1 : Int) (m : jMem) (k : jM) : jme jT0 jMx (d + 2) 31 [jr (jn cf + 7), .inl a1] (hp cf dv m, k) = l0 cf dv m k ijI (f_Habits_hasPractice m a1) := by
  simp only [M31, E31_0, E31_1, E31_2, E31_5, E31_8, E31_9, E31_12, E31_13, E31_14, E31_17, E31_18, E31_21, E31_22, ai_12, gf_7_4, X25, go_7, jsh_n, jsh_I, jsh_R, jsh_II, jsh_IR, jsh_RI, jsh_RR, jsh_III, jsh_IIR, jsh_IRI, jsh_IRR, jsh_RII, jsh_RIR, jsh_RRI, jsh_RRR, jsh_IIII, jsh_IIIR, jsh_IIRI, jsh_IIRR, jsh_IRII, jsh_IRIR, jsh_IRRI, jsh_IRRR, jsh_RIII, jsh_RIIR, jsh_RIRI, jsh_RIRR, jsh_RRII, jsh_RRIR, jsh_RRRI, jsh_RRRR, jthr_hp, jc_l0, jc_lW, jc_lX, jc_lXW, jc_lVW, jc_lVX, jpush_n, jpush_s, obt_0, obt_1, och_0, och_32, och_100, och_115, och_104, och_33, och_43, och_60, jint, jbit, jchr, ijI, ijR, ijD, ijF, ↓reduceIte, Int.reduceEq, Int.reduceLT, reduceCtorEq, l0_bind, l0_ite, l0_none, l0_oix, l0_obt, l0_och, l0_sel, l0_oel, l0_some, f_Habits_hasPractice]
end
def f_Habits_remainingYears (m : jMem) (a1 : Int) : Option Int := (f_Habits_isHeld m a1).bind fun x1 => if x1 = 0 then some (-1) else (f_Habits_hasPractice m a1).bind fun x2 => if x2 = 0 then (f_Habits_strength m a1).bind fun x3 => some x3 else (f_Habits_strength m a1).bind fun x4 => some (jw (x4 + 1))
section
variable {cf : jCf} {dv : UInt64}
set_option maxRecDepth 20000 in
set_option maxHeartbeats 4000000 in
theorem X32 (d : Nat) (a1 : Int) (m : jMem) (k : jM) : jme jT0 jMx (d + 3) 32 [jr (jn cf + 7), .inl a1] (hp cf dv m, k) = l0 cf dv m k ijI (f_Habits_remainingYears m a1) := by
  simp only [M32, E32_0, E32_1, E32_2, E32_5, E32_8, E32_9, E32_10, E32_11, E32_12, E32_15, E32_18, E32_19, E32_20, E32_23, E32_24, E32_25, E32_28, E32_29, E32_30, E32_33, X27, X29, X31, go_7, jsh_n, jsh_I, jsh_R, jsh_II, jsh_IR, jsh_RI, jsh_RR, jsh_III, jsh_IIR, jsh_IRI, jsh_IRR, jsh_RII, jsh_RIR, jsh_RRI, jsh_RRR, jsh_IIII, jsh_IIIR, jsh_IIRI, jsh_IIRR, jsh_IRII, jsh_IRIR, jsh_IRRI, jsh_IRRR, jsh_RIII, jsh_RIIR, jsh_RIRI, jsh_RIRR, jsh_RRII, jsh_RRIR, jsh_RRRI, jsh_RRRR, jthr_hp, jc_l0, jc_lW, jc_lX, jc_lXW, jc_lVW, jc_lVX, jpush_n, jpush_s, obt_0, obt_1, och_0, och_32, och_100, och_115, och_104, och_33, och_43, och_60, jint, jbit, jchr, ijI, ijR, ijD, ijF, ↓reduceIte, Int.reduceEq, Int.reduceLT, reduceCtorEq, l0_bind, l0_ite, l0_none, l0_oix, l0_obt, l0_och, l0_sel, l0_oel, l0_some, f_Habits_remainingYears]
end
def f_Habits_findL : Nat → jMem → Int → Int → Int → Option Int
  | 0, _, _, _, _ => none
  | N + 1, m, a1, a2, a3 => if a3 < (m 7 5) then oix a3 20 (if 0 < (m 9 a3.toNat) then oix a3 20 (if (m 10 a3.toNat) = a1 then oix a3 20 (if (m 8 a3.toNat) = a2 then some a3 else f_Habits_findL N m a1 a2 (jw (a3 + 1))) else f_Habits_findL N m a1 a2 (jw (a3 + 1))) else f_Habits_findL N m a1 a2 (jw (a3 + 1))) else some (-1)
def f_Habits_find (m : jMem) (a1 : Int) (a2 : Int) : Option Int := f_Habits_findL 99999 m a1 a2 0
section
variable {cf : jCf} {dv : UInt64}
set_option maxRecDepth 20000 in
set_option maxHeartbeats 4000000 in
theorem X33L (d : Nat) : ∀ (N : Nat) (m : jMem) (k : jM), (∀ (a1 a2 a3 : Int), jlp jT0 33 (jme jT0 jMx d) N 2 [some (jr (jn cf + 7)), some (.inl a1), some (.inl a2), some (.inl a3)] [] (hp cf dv m, k) = l0 cf dv m k ijI (f_Habits_findL N m a1 a2 a3)) := by
  intro N
  induction N with
  | zero => intro m k; exact by intros; rfl
  | succ N ih =>
    intro m k
    intros
    rw [jlp_s]
    simp only [E33_0, E33_1, E33_2, E33_3, E33_4, E33_7, E33_10, E33_11, E33_14, E33_15, E33_16, E33_19, E33_20, E33_23, E33_24, E33_25, E33_26, E33_29, E33_30, E33_33, E33_34, E33_35, E33_36, E33_39, E33_40, E33_41, E33_44, E33_47, E33_48, ai_10, ai_8, ai_9, gf_7_0, gf_7_1, gf_7_2, gf_7_5, jsh_n, jsh_I, jsh_R, jsh_II, jsh_IR, jsh_RI, jsh_RR, jsh_III, jsh_IIR, jsh_IRI, jsh_IRR, jsh_RII, jsh_RIR, jsh_RRI, jsh_RRR, jsh_IIII, jsh_IIIR, jsh_IIRI, jsh_IIRR, jsh_IRII, jsh_IRIR, jsh_IRRI, jsh_IRRR, jsh_RIII, jsh_RIIR, jsh_RIRI, jsh_RIRR, jsh_RRII, jsh_RRIR, jsh_RRRI, jsh_RRRR, jthr_hp, jc_l0, jc_lW, jc_lX, jc_lXW, jc_lVW, jc_lVX, jpush_n, jpush_s, obt_0, obt_1, och_0, och_32, och_100, och_115, och_104, och_33, och_43, och_60, jint, jbit, jchr, ijI, ijR, ijD, ijF, ↓reduceIte, Int.reduceEq, Int.reduceLT, reduceCtorEq, l0_bind, l0_ite, l0_none, l0_oix, l0_obt, l0_och, l0_sel, l0_oel, l0_some, f_Habits_findL, ih]
set_option maxRecDepth 20000 in
set_option maxHeartbeats 4000000 in
theorem X33 (d : Nat) (a1 : Int) (a2 : Int) (m : jMem) (k : jM) : jme jT0 jMx (d + 1) 33 [jr (jn cf + 7), .inl a1, .inl a2] (hp cf dv m, k) = l0 cf dv m k ijI (f_Habits_find m a1 a2) := by
  simp only [M33, E33_0, E33_1, E33_2, E33_3, E33_4, E33_7, E33_10, E33_11, E33_14, E33_15, E33_16, E33_19, E33_20, E33_23, E33_24, E33_25, E33_26, E33_29, E33_30, E33_33, E33_34, E33_35, E33_36, E33_39, E33_40, E33_41, E33_44, E33_47, E33_48, ai_10, ai_8, ai_9, gf_7_0, gf_7_1, gf_7_2, gf_7_5, jsh_n, jsh_I, jsh_R, jsh_II, jsh_IR, jsh_RI, jsh_RR, jsh_III, jsh_IIR, jsh_IRI, jsh_IRR, jsh_RII, jsh_RIR, jsh_RRI, jsh_RRR, jsh_IIII, jsh_IIIR, jsh_IIRI, jsh_IIRR, jsh_IRII, jsh_IRIR, jsh_IRRI, jsh_IRRR, jsh_RIII, jsh_RIIR, jsh_RIRI, jsh_RIRR, jsh_RRII, jsh_RRIR, jsh_RRRI, jsh_RRRR, jthr_hp, jc_l0, jc_lW, jc_lX, jc_lXW, jc_lVW, jc_lVX, jpush_n, jpush_s, obt_0, obt_1, och_0, och_32, och_100, och_115, och_104, och_33, och_43, och_60, jint, jbit, jchr, ijI, ijR, ijD, ijF, ↓reduceIte, Int.reduceEq, Int.reduceLT, reduceCtorEq, l0_bind, l0_ite, l0_none, l0_oix, l0_obt, l0_och, l0_sel, l0_oel, l0_some, f_Habits_find, X33L]
end
def f_Habits_add (m : jMem) (a1 : Int) (a2 : Int) (a3 : Int) : Option (Int × jMem) := if (m 7 5) < 20 then oix (m 7 5) 20 (och a2 (oix (m 7 5) 20 (oix (m 7 5) 20 (oix (m 7 5) 20 (oix (m 7 5) 20 (some (m 7 5, mset (mset (mset (mset (mset (mset m 8 (m 7 5).toNat a2) 9 (m 7 5).toNat a3) 10 (m 7 5).toNat a1) 11 (m 7 5).toNat 0) 12 (m 7 5).toNat 0) 7 5 (jw (((mset (mset (mset (mset (mset m 8 (m 7 5).toNat a2) 9 (m 7 5).toNat a3) 10 (m 7 5).toNat a1) 11 (m 7 5).toNat 0) 12 (m 7 5).toNat 0) 7 5) + 1))))))))) else some ((-1), m)
section
variable {cf : jCf} {dv : UInt64}
set_option maxRecDepth 20000 in
set_option maxHeartbeats 4000000 in
theorem X34 (d : Nat) (a1 : Int) (a2 : Int) (a3 : Int) (m : jMem) (k : jM) : jme jT0 jMx (d + 1) 34 [jr (jn cf + 7), .inl a1, .inl a2, .inl a3] (hp cf dv m, k) = lW cf dv k ijI (f_Habits_add m a1 a2 a3) := by
  simp only [M34, E34_0, E34_1, E34_4, E34_6, E34_9, E34_10, E34_11, E34_12, E34_15, E34_17, E34_18, E34_21, E34_23, E34_24, E34_25, E34_26, E34_29, E34_31, E34_32, E34_33, E34_34, E34_37, E34_39, E34_40, E34_41, E34_42, E34_45, E34_47, E34_48, E34_49, E34_50, E34_53, E34_55, E34_56, E34_57, E34_58_0, E34_58_1, E34_59, E34_62, E34_63, E34_64, E34_67, E34_69, as_10, as_11, as_12, as_8, as_9, gf_7_0, gf_7_1, gf_7_2, gf_7_3, gf_7_4, gf_7_5, pf_7_5, jsh_n, jsh_I, jsh_R, jsh_II, jsh_IR, jsh_RI, jsh_RR, jsh_III, jsh_IIR, jsh_IRI, jsh_IRR, jsh_RII, jsh_RIR, jsh_RRI, jsh_RRR, jsh_IIII, jsh_IIIR, jsh_IIRI, jsh_IIRR, jsh_IRII, jsh_IRIR, jsh_IRRI, jsh_IRRR, jsh_RIII, jsh_RIIR, jsh_RIRI, jsh_RIRR, jsh_RRII, jsh_RRIR, jsh_RRRI, jsh_RRRR, jthr_hp, jc_l0, jc_lW, jc_lX, jc_lXW, jc_lVW, jc_lVX, jpush_n, jpush_s, obt_0, obt_1, och_0, och_32, och_100, och_115, och_104, och_33, och_43, och_60, jint, jbit, jchr, ijI, ijR, ijD, ijF, ↓reduceIte, Int.reduceEq, Int.reduceLT, reduceCtorEq, lW_bind, lW_ite, lW_none, lW_oix, lW_obt, lW_och, lW_sel, lW_oel, lW_some, f_Habits_add]
end
def f_Habits_strengthen (m : jMem) (a1 : Int) : Option jMem := (f_Habits_has m a1).bind fun x1 => if x1 = 0 then some (m) else oix a1 20 (oix a1 20 (oix a1 20 (some (mset (mset m 9 a1.toNat (if 9 < (jw ((m 9 a1.toNat) + 1)) then 9 else jw ((m 9 a1.toNat) + 1))) 12 a1.toNat 1))))
section
variable {cf : jCf} {dv : UInt64}
set_option maxRecDepth 20000 in
set_option maxHeartbeats 4000000 in
theorem X35 (d : Nat) (a1 : Int) (m : jMem) (k : jM) : jme jT0 jMx (d + 2) 35 [jr (jn cf + 7), .inl a1] (hp cf dv m, k) = lVW cf dv k (f_Habits_strengthen m a1) := by
  simp only [M35, E35_0, E35_1, E35_2, E35_5, E35_8, E35_9, E35_12, E35_13, E35_14, E35_17, E35_18, E35_19, E35_20, E35_21, E35_23, E35_26, E35_27, E35_28, E35_31, E35_32, E35_33, E35_34, ai_9, as_12, as_9, gf_7_1, gf_7_4, X25, go_7, jsh_n, jsh_I, jsh_R, jsh_II, jsh_IR, jsh_RI, jsh_RR, jsh_III, jsh_IIR, jsh_IRI, jsh_IRR, jsh_RII, jsh_RIR, jsh_RRI, jsh_RRR, jsh_IIII, jsh_IIIR, jsh_IIRI, jsh_IIRR, jsh_IRII, jsh_IRIR, jsh_IRRI, jsh_IRRR, jsh_RIII, jsh_RIIR, jsh_RIRI, jsh_RIRR, jsh_RRII, jsh_RRIR, jsh_RRRI, jsh_RRRR, jthr_hp, jc_l0, jc_lW, jc_lX, jc_lXW, jc_lVW, jc_lVX, jpush_n, jpush_s, obt_0, obt_1, och_0, och_32, och_100, och_115, och_104, och_33, och_43, och_60, jint, jbit, jchr, ijI, ijR, ijD, ijF, ↓reduceIte, Int.reduceEq, Int.reduceLT, reduceCtorEq, lVW_bind, lVW_ite, lVW_none, lVW_oix, lVW_obt, lVW_och, lVW_sel, lVW_oel, lVW_some, f_Habits_strengthen]
end
def f_Habits_end (m : jMem) (a1 : Int) : Option jMem := (f_Habits_has m a1).bind fun x1 => if x1 = 0 then some (m) else oix a1 20 (oix a1 20 (oix a1 20 (oix a1 20 (some (mset (mset (mset (mset m 9 a1.toNat 0) 10 a1.toNat (-1)) 11 a1.toNat 0) 12 a1.toNat 0)))))
section
variable {cf : jCf} {dv : UInt64}
set_option maxRecDepth 20000 in
set_option maxHeartbeats 4000000 in
theorem X37 (d : Nat) (a1 : Int) (m : jMem) (k : jM) : jme jT0 jMx (d + 2) 37 [jr (jn cf + 7), .inl a1] (hp cf dv m, k) = lVW cf dv k (f_Habits_end m a1) := by
  simp only [M37, E37_0, E37_1, E37_2, E37_5, E37_8, E37_9, E37_12, E37_13, E37_14, E37_15, E37_16, E37_19, E37_20, E37_21, E37_22, E37_23, E37_26, E37_27, E37_28, E37_29, E37_30, E37_33, E37_34, E37_35, E37_36, as_10, as_11, as_12, as_9, gf_7_1, gf_7_2, gf_7_3, gf_7_4, X25, go_7, jsh_n, jsh_I, jsh_R, jsh_II, jsh_IR, jsh_RI, jsh_RR, jsh_III, jsh_IIR, jsh_IRI, jsh_IRR, jsh_RII, jsh_RIR, jsh_RRI, jsh_RRR, jsh_IIII, jsh_IIIR, jsh_IIRI, jsh_IIRR, jsh_IRII, jsh_IRIR, jsh_IRRI, jsh_IRRR, jsh_RIII, jsh_RIIR, jsh_RIRI, jsh_RIRR, jsh_RRII, jsh_RRIR, jsh_RRRI, jsh_RRRR, jthr_hp, jc_l0, jc_lW, jc_lX, jc_lXW, jc_lVW, jc_lVX, jpush_n, jpush_s, obt_0, obt_1, och_0, och_32, och_100, och_115, och_104, och_33, och_43, och_60, jint, jbit, jchr, ijI, ijR, ijD, ijF, ↓reduceIte, Int.reduceEq, Int.reduceLT, reduceCtorEq, lVW_bind, lVW_ite, lVW_none, lVW_oix, lVW_obt, lVW_och, lVW_sel, lVW_oel, lVW_some, f_Habits_end]
end
def f_Habits_weaken (m : jMem) (a1 : Int) : Option jMem := (f_Habits_isHeld m a1).bind fun x1 => if x1 = 0 then some (m) else oix a1 20 (oix a1 20 (oix a1 20 (if ((mset m 9 a1.toNat (jw ((m 9 a1.toNat) - 1))) 9 a1.toNat) = 0 then (f_Habits_end (mset (mset m 9 a1.toNat (jw ((m 9 a1.toNat) - 1))) 7 6 (jw (((mset m 9 a1.toNat (jw ((m 9 a1.toNat) - 1))) 7 6) + 1))) a1).bind fun m2 => some (m2) else some (mset m 9 a1.toNat (jw ((m 9 a1.toNat) - 1))))))
section
variable {cf : jCf} {dv : UInt64}
set_option maxRecDepth 20000 in
set_option maxHeartbeats 4000000 in
theorem X36 (d : Nat) (a1 : Int) (m : jMem) (k : jM) : jme jT0 jMx (d + 3) 36 [jr (jn cf + 7), .inl a1] (hp cf dv m, k) = lVW cf dv k (f_Habits_weaken m a1) := by
  simp only [M36, E36_0, E36_1, E36_2, E36_5, E36_8, E36_9, E36_10, E36_13, E36_14, E36_15, E36_16, E36_17, E36_18, E36_19, E36_20, E36_23, E36_24, E36_25, E36_28, E36_29_0, E36_29_1, E36_30, E36_33, E36_34, E36_35, E36_38, E36_39, E36_40, E36_43, ai_9, as_9, gf_7_1, gf_7_6, pf_7_6, X29, X37, go_7, jsh_n, jsh_I, jsh_R, jsh_II, jsh_IR, jsh_RI, jsh_RR, jsh_III, jsh_IIR, jsh_IRI, jsh_IRR, jsh_RII, jsh_RIR, jsh_RRI, jsh_RRR, jsh_IIII, jsh_IIIR, jsh_IIRI, jsh_IIRR, jsh_IRII, jsh_IRIR, jsh_IRRI, jsh_IRRR, jsh_RIII, jsh_RIIR, jsh_RIRI, jsh_RIRR, jsh_RRII, jsh_RRIR, jsh_RRRI, jsh_RRRR, jthr_hp, jc_l0, jc_lW, jc_lX, jc_lXW, jc_lVW, jc_lVX, jpush_n, jpush_s, obt_0, obt_1, och_0, och_32, och_100, och_115, och_104, och_33, och_43, och_60, jint, jbit, jchr, ijI, ijR, ijD, ijF, ↓reduceIte, Int.reduceEq, Int.reduceLT, reduceCtorEq, lVW_bind, lVW_ite, lVW_none, lVW_oix, lVW_obt, lVW_och, lVW_sel, lVW_oel, lVW_some, f_Habits_weaken]
end
def f_Habits_bind (m : jMem) (a1 : Int) : Option jMem := (f_Habits_has m a1).bind fun x1 => if x1 = 0 then some (m) else oix a1 20 (some (mset m 11 a1.toNat 1))
section
variable {cf : jCf} {dv : UInt64}
set_option maxRecDepth 20000 in
set_option maxHeartbeats 4000000 in
theorem X38 (d : Nat) (a1 : Int) (m : jMem) (k : jM) : jme jT0 jMx (d + 2) 38 [jr (jn cf + 7), .inl a1] (hp cf dv m, k) = lVW cf dv k (f_Habits_bind m a1) := by
  simp only [M38, E38_0, E38_1, E38_2, E38_5, E38_8, E38_9, E38_12, E38_13, E38_14, E38_15, as_11, gf_7_3, X25, go_7, jsh_n, jsh_I, jsh_R, jsh_II, jsh_IR, jsh_RI, jsh_RR, jsh_III, jsh_IIR, jsh_IRI, jsh_IRR, jsh_RII, jsh_RIR, jsh_RRI, jsh_RRR, jsh_IIII, jsh_IIIR, jsh_IIRI, jsh_IIRR, jsh_IRII, jsh_IRIR, jsh_IRRI, jsh_IRRR, jsh_RIII, jsh_RIIR, jsh_RIRI, jsh_RIRR, jsh_RRII, jsh_RRIR, jsh_RRRI, jsh_RRRR, jthr_hp, jc_l0, jc_lW, jc_lX, jc_lXW, jc_lVW, jc_lVX, jpush_n, jpush_s, obt_0, obt_1, och_0, och_32, och_100, och_115, och_104, och_33, och_43, och_60, jint, jbit, jchr, ijI, ijR, ijD, ijF, ↓reduceIte, Int.reduceEq, Int.reduceLT, reduceCtorEq, lVW_bind, lVW_ite, lVW_none, lVW_oix, lVW_obt, lVW_och, lVW_sel, lVW_oel, lVW_some, f_Habits_bind]
end
def f_Habits_free (m : jMem) (a1 : Int) : Option jMem := (f_Habits_has m a1).bind fun x1 => if x1 = 0 then some (m) else oix a1 20 (oix a1 20 (if (0 : Int) < 2 ∧ 0 ≤ (jw (((mset m 11 a1.toNat 0) 9 a1.toNat) + 1)) then oix a1 20 (some (mset (mset m 11 a1.toNat 0) 9 a1.toNat ((jw (((mset m 11 a1.toNat 0) 9 a1.toNat) + 1)) / 2))) else none))
section
variable {cf : jCf} {dv : UInt64}
set_option maxRecDepth 20000 in
set_option maxHeartbeats 4000000 in
theorem X39 (d : Nat) (a1 : Int) (m : jMem) (k : jM) : jme jT0 jMx (d + 2) 39 [jr (jn cf + 7), .inl a1] (hp cf dv m, k) = lVW cf dv k (f_Habits_free m a1) := by
  simp only [M39, E39_0, E39_1, E39_2, E39_5, E39_8, E39_9, E39_12, E39_13, E39_14, E39_15, E39_16, E39_19, E39_20, E39_21, E39_24, E39_25, E39_26, E39_27, E39_28, E39_29, E39_30, E39_31, ai_9, as_11, as_9, gf_7_1, gf_7_3, X25, go_7, jsh_n, jsh_I, jsh_R, jsh_II, jsh_IR, jsh_RI, jsh_RR, jsh_III, jsh_IIR, jsh_IRI, jsh_IRR, jsh_RII, jsh_RIR, jsh_RRI, jsh_RRR, jsh_IIII, jsh_IIIR, jsh_IIRI, jsh_IIRR, jsh_IRII, jsh_IRIR, jsh_IRRI, jsh_IRRR, jsh_RIII, jsh_RIIR, jsh_RIRI, jsh_RIRR, jsh_RRII, jsh_RRIR, jsh_RRRI, jsh_RRRR, jthr_hp, jc_l0, jc_lW, jc_lX, jc_lXW, jc_lVW, jc_lVX, jpush_n, jpush_s, obt_0, obt_1, och_0, och_32, och_100, och_115, och_104, och_33, och_43, och_60, jint, jbit, jchr, ijI, ijR, ijD, ijF, ↓reduceIte, Int.reduceEq, Int.reduceLT, reduceCtorEq, lVW_bind, lVW_ite, lVW_none, lVW_oix, lVW_obt, lVW_och, lVW_sel, lVW_oel, lVW_some, f_Habits_free]
end
def f_Habits_move (m : jMem) (a1 : Int) (a2 : Int) : Option jMem := (f_Habits_has m a1).bind fun x1 => if x1 = 0 then some (m) else oix a1 20 (some (mset m 10 a1.toNat a2))
section
variable {cf : jCf} {dv : UInt64}
set_option maxRecDepth 20000 in
set_option maxHeartbeats 4000000 in
theorem X40 (d : Nat) (a1 : Int) (a2 : Int) (m : jMem) (k : jM) : jme jT0 jMx (d + 2) 40 [jr (jn cf + 7), .inl a1, .inl a2] (hp cf dv m, k) = lVW cf dv k (f_Habits_move m a1 a2) := by
  simp only [M40, E40_0, E40_1, E40_2, E40_5, E40_8, E40_9, E40_12, E40_13, E40_14, E40_15, as_10, gf_7_2, X25, go_7, jsh_n, jsh_I, jsh_R, jsh_II, jsh_IR, jsh_RI, jsh_RR, jsh_III, jsh_IIR, jsh_IRI, jsh_IRR, jsh_RII, jsh_RIR, jsh_RRI, jsh_RRR, jsh_IIII, jsh_IIIR, jsh_IIRI, jsh_IIRR, jsh_IRII, jsh_IRIR, jsh_IRRI, jsh_IRRR, jsh_RIII, jsh_RIIR, jsh_RIRI, jsh_RIRR, jsh_RRII, jsh_RRIR, jsh_RRRI, jsh_RRRR, jthr_hp, jc_l0, jc_lW, jc_lX, jc_lXW, jc_lVW, jc_lVX, jpush_n, jpush_s, obt_0, obt_1, och_0, och_32, och_100, och_115, och_104, och_33, och_43, och_60, jint, jbit, jchr, ijI, ijR, ijD, ijF, ↓reduceIte, Int.reduceEq, Int.reduceLT, reduceCtorEq, lVW_bind, lVW_ite, lVW_none, lVW_oix, lVW_obt, lVW_och, lVW_sel, lVW_oel, lVW_some, f_Habits_move]
end
def f_Habits_passOn (m : jMem) (a1 : Int) (a2 : Int) : Option (Int × jMem) := if a2 = (-1) then (f_Habits_end (mset m 7 8 (jw ((m 7 8) + 1))) a1).bind fun m7 => some (0, m7) else (f_Habits_kind m a1).bind fun x1 => (f_Habits_find m a2 x1).bind fun x2 => (f_Habits_has m x2).bind fun x3 => if x3 = 0 then (f_Habits_move m a1 a2).bind fun m4 => some (1, m4) else oix x2 20 ((f_Habits_strength m a1).bind fun x5 => oix x2 20 ((f_Habits_end (mset (mset m 9 x2.toNat (if 9 < (jw ((m 9 x2.toNat) + x5)) then 9 else jw ((m 9 x2.toNat) + x5))) 7 7 (jw (((mset m 9 x2.toNat (if 9 < (jw ((m 9 x2.toNat) + x5)) then 9 else jw ((m 9 x2.toNat) + x5))) 7 7) + 1))) a1).bind fun m6 => some (1, m6)))
section
variable {cf : jCf} {dv : UInt64}
set_option maxRecDepth 20000 in
set_option maxHeartbeats 4000000 in
theorem X41 (d : Nat) (a1 : Int) (a2 : Int) (m : jMem) (k : jM) : jme jT0 jMx (d + 3) 41 [jr (jn cf + 7), .inl a1, .inl a2] (hp cf dv m, k) = lW cf dv k ijI (f_Habits_passOn m a1 a2) := by
  simp only [M41, E41_0, E41_1, E41_2, E41_5, E41_6_0, E41_6_1, E41_7, E41_10, E41_11, E41_12, E41_15, E41_16, E41_17, E41_20, E41_21, E41_22, E41_23, E41_24, E41_25, E41_26, E41_29, E41_32, E41_33, E41_34, E41_35, E41_38, E41_41, E41_42, E41_45, E41_46, E41_47, E41_50, E41_51, E41_52, E41_53, E41_54, E41_57, E41_58, E41_60, E41_63, E41_64, E41_65_0, E41_65_1, E41_66, E41_69, E41_70, E41_71, E41_74, E41_75, E41_76, E41_79, E41_82, E41_83, E41_84, E41_85, E41_88, E41_89, ai_9, as_9, gf_7_1, gf_7_7, gf_7_8, pf_7_7, pf_7_8, X25, X26, X27, X33, X37, X40, go_7, jsh_n, jsh_I, jsh_R, jsh_II, jsh_IR, jsh_RI, jsh_RR, jsh_III, jsh_IIR, jsh_IRI, jsh_IRR, jsh_RII, jsh_RIR, jsh_RRI, jsh_RRR, jsh_IIII, jsh_IIIR, jsh_IIRI, jsh_IIRR, jsh_IRII, jsh_IRIR, jsh_IRRI, jsh_IRRR, jsh_RIII, jsh_RIIR, jsh_RIRI, jsh_RIRR, jsh_RRII, jsh_RRIR, jsh_RRRI, jsh_RRRR, jthr_hp, jc_l0, jc_lW, jc_lX, jc_lXW, jc_lVW, jc_lVX, jpush_n, jpush_s, obt_0, obt_1, och_0, och_32, och_100, och_115, och_104, och_33, och_43, och_60, jint, jbit, jchr, ijI, ijR, ijD, ijF, ↓reduceIte, Int.reduceEq, Int.reduceLT, reduceCtorEq, lW_bind, lW_ite, lW_none, lW_oix, lW_obt, lW_och, lW_sel, lW_oel, lW_some, f_Habits_passOn]
end
def f_Habits_endYearL : Nat → jMem → Int → Option jMem
  | 0, _, _ => none
  | N + 1, m, a1 => if a1 < (m 7 5) then oix a1 20 (if (m 12 a1.toNat) = 0 then (f_Habits_weaken m a1).bind fun m1 => oix a1 20 (f_Habits_endYearL N (mset m1 12 a1.toNat 0) (jw (a1 + 1))) else oix a1 20 (f_Habits_endYearL N (mset m 12 a1.toNat 0) (jw (a1 + 1)))) else some (m)
def f_Habits_endYear (m : jMem) : Option jMem := f_Habits_endYearL 99999 m 0
section
variable {cf : jCf} {dv : UInt64}
set_option maxRecDepth 20000 in
set_option maxHeartbeats 4000000 in
theorem X42L (d : Nat) : ∀ (N : Nat) (m : jMem) (k : jM), (∀ (a1 : Int), jlp jT0 42 (jme jT0 jMx (d + 3)) N 2 [some (jr (jn cf + 7)), some (.inl a1)] [] (hp cf dv m, k) = lVW cf dv k (f_Habits_endYearL N m a1)) := by
  intro N
  induction N with
  | zero => intro m k; exact by intros; rfl
  | succ N ih =>
    intro m k
    intros
    rw [jlp_s]
    simp only [E42_0, E42_1, E42_2, E42_3, E42_4, E42_7, E42_10, E42_11, E42_14, E42_15, E42_16, E42_19, E42_20, E42_21, E42_24, E42_25, E42_28, E42_29, E42_30, E42_31, E42_34, E42_37, ai_12, as_12, gf_7_4, gf_7_5, X36, go_7, jsh_n, jsh_I, jsh_R, jsh_II, jsh_IR, jsh_RI, jsh_RR, jsh_III, jsh_IIR, jsh_IRI, jsh_IRR, jsh_RII, jsh_RIR, jsh_RRI, jsh_RRR, jsh_IIII, jsh_IIIR, jsh_IIRI, jsh_IIRR, jsh_IRII, jsh_IRIR, jsh_IRRI, jsh_IRRR, jsh_RIII, jsh_RIIR, jsh_RIRI, jsh_RIRR, jsh_RRII, jsh_RRIR, jsh_RRRI, jsh_RRRR, jthr_hp, jc_l0, jc_lW, jc_lX, jc_lXW, jc_lVW, jc_lVX, jpush_n, jpush_s, obt_0, obt_1, och_0, och_32, och_100, och_115, och_104, och_33, och_43, och_60, jint, jbit, jchr, ijI, ijR, ijD, ijF, ↓reduceIte, Int.reduceEq, Int.reduceLT, reduceCtorEq, lVW_bind, lVW_ite, lVW_none, lVW_oix, lVW_obt, lVW_och, lVW_sel, lVW_oel, lVW_some, f_Habits_endYearL, ih]
set_option maxRecDepth 20000 in
set_option maxHeartbeats 4000000 in
theorem X42 (d : Nat) (m : jMem) (k : jM) : jme jT0 jMx (d + 4) 42 [jr (jn cf + 7)] (hp cf dv m, k) = lVW cf dv k (f_Habits_endYear m) := by
  simp only [M42, E42_0, E42_1, E42_2, E42_3, E42_4, E42_7, E42_10, E42_11, E42_14, E42_15, E42_16, E42_19, E42_20, E42_21, E42_24, E42_25, E42_28, E42_29, E42_30, E42_31, E42_34, E42_37, ai_12, as_12, gf_7_4, gf_7_5, X36, go_7, jsh_n, jsh_I, jsh_R, jsh_II, jsh_IR, jsh_RI, jsh_RR, jsh_III, jsh_IIR, jsh_IRI, jsh_IRR, jsh_RII, jsh_RIR, jsh_RRI, jsh_RRR, jsh_IIII, jsh_IIIR, jsh_IIRI, jsh_IIRR, jsh_IRII, jsh_IRIR, jsh_IRRI, jsh_IRRR, jsh_RIII, jsh_RIIR, jsh_RIRI, jsh_RIRR, jsh_RRII, jsh_RRIR, jsh_RRRI, jsh_RRRR, jthr_hp, jc_l0, jc_lW, jc_lX, jc_lXW, jc_lVW, jc_lVX, jpush_n, jpush_s, obt_0, obt_1, och_0, och_32, och_100, och_115, och_104, och_33, och_43, och_60, jint, jbit, jchr, ijI, ijR, ijD, ijF, ↓reduceIte, Int.reduceEq, Int.reduceLT, reduceCtorEq, lVW_bind, lVW_ite, lVW_none, lVW_oix, lVW_obt, lVW_och, lVW_sel, lVW_oel, lVW_some, f_Habits_endYear, X42L]
end
def f_Habits_sumOfL : Nat → jMem → Int → Int → Int → Option Int
  | 0, _, _, _, _ => none
  | N + 1, m, a1, a2, a3 => if a3 < (m 7 5) then oix a3 20 (if (m 10 a3.toNat) = a1 then oix a3 20 (f_Habits_sumOfL N m a1 (jw (a2 + (m 9 a3.toNat))) (jw (a3 + 1))) else f_Habits_sumOfL N m a1 a2 (jw (a3 + 1))) else some a2
def f_Habits_sumOf (m : jMem) (a1 : Int) : Option Int := f_Habits_sumOfL 99999 m a1 0 0
section
variable {cf : jCf} {dv : UInt64}
set_option maxRecDepth 20000 in
set_option maxHeartbeats 4000000 in
theorem X43L (d : Nat) : ∀ (N : Nat) (m : jMem) (k : jM), (∀ (a1 a2 a3 : Int), jlp jT0 43 (jme jT0 jMx d) N 4 [some (jr (jn cf + 7)), some (.inl a1), some (.inl a2), some (.inl a3)] [] (hp cf dv m, k) = l0 cf dv m k ijI (f_Habits_sumOfL N m a1 a2 a3)) := by
  intro N
  induction N with
  | zero => intro m k; exact by intros; rfl
  | succ N ih =>
    intro m k
    intros
    rw [jlp_s]
    simp only [E43_0, E43_1, E43_2, E43_3, E43_4, E43_5, E43_6, E43_9, E43_12, E43_13, E43_16, E43_17, E43_18, E43_19, E43_22, E43_23, E43_24, E43_27, E43_28, E43_29, E43_30, E43_31, E43_34, E43_37, E43_38, ai_10, ai_9, gf_7_1, gf_7_2, gf_7_5, jsh_n, jsh_I, jsh_R, jsh_II, jsh_IR, jsh_RI, jsh_RR, jsh_III, jsh_IIR, jsh_IRI, jsh_IRR, jsh_RII, jsh_RIR, jsh_RRI, jsh_RRR, jsh_IIII, jsh_IIIR, jsh_IIRI, jsh_IIRR, jsh_IRII, jsh_IRIR, jsh_IRRI, jsh_IRRR, jsh_RIII, jsh_RIIR, jsh_RIRI, jsh_RIRR, jsh_RRII, jsh_RRIR, jsh_RRRI, jsh_RRRR, jthr_hp, jc_l0, jc_lW, jc_lX, jc_lXW, jc_lVW, jc_lVX, jpush_n, jpush_s, obt_0, obt_1, och_0, och_32, och_100, och_115, och_104, och_33, och_43, och_60, jint, jbit, jchr, ijI, ijR, ijD, ijF, ↓reduceIte, Int.reduceEq, Int.reduceLT, reduceCtorEq, l0_bind, l0_ite, l0_none, l0_oix, l0_obt, l0_och, l0_sel, l0_oel, l0_some, f_Habits_sumOfL, ih]
set_option maxRecDepth 20000 in
set_option maxHeartbeats 4000000 in
theorem X43 (d : Nat) (a1 : Int) (m : jMem) (k : jM) : jme jT0 jMx (d + 1) 43 [jr (jn cf + 7), .inl a1] (hp cf dv m, k) = l0 cf dv m k ijI (f_Habits_sumOf m a1) := by
  simp only [M43, E43_0, E43_1, E43_2, E43_3, E43_4, E43_5, E43_6, E43_9, E43_12, E43_13, E43_16, E43_17, E43_18, E43_19, E43_22, E43_23, E43_24, E43_27, E43_28, E43_29, E43_30, E43_31, E43_34, E43_37, E43_38, ai_10, ai_9, gf_7_1, gf_7_2, gf_7_5, jsh_n, jsh_I, jsh_R, jsh_II, jsh_IR, jsh_RI, jsh_RR, jsh_III, jsh_IIR, jsh_IRI, jsh_IRR, jsh_RII, jsh_RIR, jsh_RRI, jsh_RRR, jsh_IIII, jsh_IIIR, jsh_IIRI, jsh_IIRR, jsh_IRII, jsh_IRIR, jsh_IRRI, jsh_IRRR, jsh_RIII, jsh_RIIR, jsh_RIRI, jsh_RIRR, jsh_RRII, jsh_RRIR, jsh_RRRI, jsh_RRRR, jthr_hp, jc_l0, jc_lW, jc_lX, jc_lXW, jc_lVW, jc_lVX, jpush_n, jpush_s, obt_0, obt_1, och_0, och_32, och_100, och_115, och_104, och_33, och_43, och_60, jint, jbit, jchr, ijI, ijR, ijD, ijF, ↓reduceIte, Int.reduceEq, Int.reduceLT, reduceCtorEq, l0_bind, l0_ite, l0_none, l0_oix, l0_obt, l0_och, l0_sel, l0_oel, l0_some, f_Habits_sumOf, X43L]
end
def f_Habits_sumOfAllL : Nat → jMem → Int → Int → Option Int
  | 0, _, _, _ => none
  | N + 1, m, a1, a2 => if a2 < (m 7 5) then oix a2 20 (f_Habits_sumOfAllL N m (jw (a1 + (m 9 a2.toNat))) (jw (a2 + 1))) else some a1
def f_Habits_sumOfAll (m : jMem) : Option Int := f_Habits_sumOfAllL 99999 m 0 0
section
variable {cf : jCf} {dv : UInt64}
set_option maxRecDepth 20000 in
set_option maxHeartbeats 4000000 in
theorem X44L (d : Nat) : ∀ (N : Nat) (m : jMem) (k : jM), (∀ (a1 a2 : Int), jlp jT0 44 (jme jT0 jMx d) N 4 [some (jr (jn cf + 7)), some (.inl a1), some (.inl a2)] [] (hp cf dv m, k) = l0 cf dv m k ijI (f_Habits_sumOfAllL N m a1 a2)) := by
  intro N
  induction N with
  | zero => intro m k; exact by intros; rfl
  | succ N ih =>
    intro m k
    intros
    rw [jlp_s]
    simp only [E44_0, E44_1, E44_2, E44_3, E44_4, E44_5, E44_6, E44_9, E44_12, E44_13, E44_14, E44_17, E44_18, E44_19, E44_20, E44_21, E44_24, E44_27, E44_28, ai_9, gf_7_1, gf_7_5, jsh_n, jsh_I, jsh_R, jsh_II, jsh_IR, jsh_RI, jsh_RR, jsh_III, jsh_IIR, jsh_IRI, jsh_IRR, jsh_RII, jsh_RIR, jsh_RRI, jsh_RRR, jsh_IIII, jsh_IIIR, jsh_IIRI, jsh_IIRR, jsh_IRII, jsh_IRIR, jsh_IRRI, jsh_IRRR, jsh_RIII, jsh_RIIR, jsh_RIRI, jsh_RIRR, jsh_RRII, jsh_RRIR, jsh_RRRI, jsh_RRRR, jthr_hp, jc_l0, jc_lW, jc_lX, jc_lXW, jc_lVW, jc_lVX, jpush_n, jpush_s, obt_0, obt_1, och_0, och_32, och_100, och_115, och_104, och_33, och_43, och_60, jint, jbit, jchr, ijI, ijR, ijD, ijF, ↓reduceIte, Int.reduceEq, Int.reduceLT, reduceCtorEq, l0_bind, l0_ite, l0_none, l0_oix, l0_obt, l0_och, l0_sel, l0_oel, l0_some, f_Habits_sumOfAllL, ih]
set_option maxRecDepth 20000 in
set_option maxHeartbeats 4000000 in
theorem X44 (d : Nat) (m : jMem) (k : jM) : jme jT0 jMx (d + 1) 44 [jr (jn cf + 7)] (hp cf dv m, k) = l0 cf dv m k ijI (f_Habits_sumOfAll m) := by
  simp only [M44, E44_0, E44_1, E44_2, E44_3, E44_4, E44_5, E44_6, E44_9, E44_12, E44_13, E44_14, E44_17, E44_18, E44_19, E44_20, E44_21, E44_24, E44_27, E44_28, ai_9, gf_7_1, gf_7_5, jsh_n, jsh_I, jsh_R, jsh_II, jsh_IR, jsh_RI, jsh_RR, jsh_III, jsh_IIR, jsh_IRI, jsh_IRR, jsh_RII, jsh_RIR, jsh_RRI, jsh_RRR, jsh_IIII, jsh_IIIR, jsh_IIRI, jsh_IIRR, jsh_IRII, jsh_IRIR, jsh_IRRI, jsh_IRRR, jsh_RIII, jsh_RIIR, jsh_RIRI, jsh_RIRR, jsh_RRII, jsh_RRIR, jsh_RRRI, jsh_RRRR, jthr_hp, jc_l0, jc_lW, jc_lX, jc_lXW, jc_lVW, jc_lVX, jpush_n, jpush_s, obt_0, obt_1, och_0, och_32, och_100, och_115, och_104, och_33, och_43, och_60, jint, jbit, jchr, ijI, ijR, ijD, ijF, ↓reduceIte, Int.reduceEq, Int.reduceLT, reduceCtorEq, l0_bind, l0_ite, l0_none, l0_oix, l0_obt, l0_och, l0_sel, l0_oel, l0_some, f_Habits_sumOfAll, X44L]
end
def f_Habits_countHeldL : Nat → jMem → Int → Int → Option Int
  | 0, _, _, _ => none
  | N + 1, m, a1, a2 => if a2 < (m 7 5) then oix a2 20 (if 0 < (m 9 a2.toNat) then f_Habits_countHeldL N m (jw (a1 + 1)) (jw (a2 + 1)) else f_Habits_countHeldL N m a1 (jw (a2 + 1))) else some a1
def f_Habits_countHeld (m : jMem) : Option Int := f_Habits_countHeldL 99999 m 0 0
section
variable {cf : jCf} {dv : UInt64}
set_option maxRecDepth 20000 in
set_option maxHeartbeats 4000000 in
theorem X45L (d : Nat) : ∀ (N : Nat) (m : jMem) (k : jM), (∀ (a1 a2 : Int), jlp jT0 45 (jme jT0 jMx d) N 4 [some (jr (jn cf + 7)), some (.inl a1), some (.inl a2)] [] (hp cf dv m, k) = l0 cf dv m k ijI (f_Habits_countHeldL N m a1 a2)) := by
  intro N
  induction N with
  | zero => intro m k; exact by intros; rfl
  | succ N ih =>
    intro m k
    intros
    rw [jlp_s]
    simp only [E45_0, E45_1, E45_2, E45_3, E45_4, E45_5, E45_6, E45_9, E45_12, E45_13, E45_16, E45_17, E45_18, E45_21, E45_24, E45_27, E45_30, E45_31, ai_9, gf_7_1, gf_7_5, jsh_n, jsh_I, jsh_R, jsh_II, jsh_IR, jsh_RI, jsh_RR, jsh_III, jsh_IIR, jsh_IRI, jsh_IRR, jsh_RII, jsh_RIR, jsh_RRI, jsh_RRR, jsh_IIII, jsh_IIIR, jsh_IIRI, jsh_IIRR, jsh_IRII, jsh_IRIR, jsh_IRRI, jsh_IRRR, jsh_RIII, jsh_RIIR, jsh_RIRI, jsh_RIRR, jsh_RRII, jsh_RRIR, jsh_RRRI, jsh_RRRR, jthr_hp, jc_l0, jc_lW, jc_lX, jc_lXW, jc_lVW, jc_lVX, jpush_n, jpush_s, obt_0, obt_1, och_0, och_32, och_100, och_115, och_104, och_33, och_43, och_60, jint, jbit, jchr, ijI, ijR, ijD, ijF, ↓reduceIte, Int.reduceEq, Int.reduceLT, reduceCtorEq, l0_bind, l0_ite, l0_none, l0_oix, l0_obt, l0_och, l0_sel, l0_oel, l0_some, f_Habits_countHeldL, ih]
set_option maxRecDepth 20000 in
set_option maxHeartbeats 4000000 in
theorem X45 (d : Nat) (m : jMem) (k : jM) : jme jT0 jMx (d + 1) 45 [jr (jn cf + 7)] (hp cf dv m, k) = l0 cf dv m k ijI (f_Habits_countHeld m) := by
  simp only [M45, E45_0, E45_1, E45_2, E45_3, E45_4, E45_5, E45_6, E45_9, E45_12, E45_13, E45_16, E45_17, E45_18, E45_21, E45_24, E45_27, E45_30, E45_31, ai_9, gf_7_1, gf_7_5, jsh_n, jsh_I, jsh_R, jsh_II, jsh_IR, jsh_RI, jsh_RR, jsh_III, jsh_IIR, jsh_IRI, jsh_IRR, jsh_RII, jsh_RIR, jsh_RRI, jsh_RRR, jsh_IIII, jsh_IIIR, jsh_IIRI, jsh_IIRR, jsh_IRII, jsh_IRIR, jsh_IRRI, jsh_IRRR, jsh_RIII, jsh_RIIR, jsh_RIRI, jsh_RIRR, jsh_RRII, jsh_RRIR, jsh_RRRI, jsh_RRRR, jthr_hp, jc_l0, jc_lW, jc_lX, jc_lXW, jc_lVW, jc_lVX, jpush_n, jpush_s, obt_0, obt_1, och_0, och_32, och_100, och_115, och_104, och_33, och_43, och_60, jint, jbit, jchr, ijI, ijR, ijD, ijF, ↓reduceIte, Int.reduceEq, Int.reduceLT, reduceCtorEq, l0_bind, l0_ite, l0_none, l0_oix, l0_obt, l0_och, l0_sel, l0_oel, l0_some, f_Habits_countHeld, X45L]
end
def f_Habits_rankL : Nat → jMem → Int → Int → Int → Option Int
  | 0, _, _, _, _ => none
  | N + 1, m, a1, a2, a3 => if a3 < (m 7 5) then oix a3 20 ((f_Habits_strength m a1).bind fun x1 => if 0 < (jw ((m 9 a3.toNat) - x1)) then f_Habits_rankL N m a1 (jw (a2 + 1)) (jw (a3 + 1)) else if (jw ((m 9 a3.toNat) - x1)) = 0 then if a3 < a1 then f_Habits_rankL N m a1 (jw (a2 + 1)) (jw (a3 + 1)) else f_Habits_rankL N m a1 a2 (jw (a3 + 1)) else f_Habits_rankL N m a1 a2 (jw (a3 + 1))) else some a2
def f_Habits_rank (m : jMem) (a1 : Int) : Option Int := f_Habits_rankL 99999 m a1 0 0
section
variable {cf : jCf} {dv : UInt64}
set_option maxRecDepth 20000 in
set_option maxHeartbeats 4000000 in
theorem X47L (d : Nat) : ∀ (N : Nat) (m : jMem) (k : jM), (∀ (a1 a2 a3 : Int) (z4 : Option jV), jlp jT0 47 (jme jT0 jMx (d + 2)) N 4 [some (jr (jn cf + 7)), some (.inl a1), some (.inl a2), some (.inl a3), z4] [] (hp cf dv m, k) = l0 cf dv m k ijI (f_Habits_rankL N m a1 a2 a3)) := by
  intro N
  induction N with
  | zero => intro m k; exact by intros; rfl
  | succ N ih =>
    intro m k
    intros
    rw [jlp_s]
    simp only [E47_0, E47_1, E47_2, E47_3, E47_4, E47_5, E47_6, E47_9, E47_12, E47_13, E47_16, E47_17, E47_18, E47_19, E47_20, E47_23, E47_24, E47_26, E47_28, E47_31, E47_33, E47_36, E47_37, E47_38, E47_41, E47_44, E47_47, E47_50, E47_51, ai_9, gf_7_1, gf_7_5, X27, go_7, jsh_n, jsh_I, jsh_R, jsh_II, jsh_IR, jsh_RI, jsh_RR, jsh_III, jsh_IIR, jsh_IRI, jsh_IRR, jsh_RII, jsh_RIR, jsh_RRI, jsh_RRR, jsh_IIII, jsh_IIIR, jsh_IIRI, jsh_IIRR, jsh_IRII, jsh_IRIR, jsh_IRRI, jsh_IRRR, jsh_RIII, jsh_RIIR, jsh_RIRI, jsh_RIRR, jsh_RRII, jsh_RRIR, jsh_RRRI, jsh_RRRR, jthr_hp, jc_l0, jc_lW, jc_lX, jc_lXW, jc_lVW, jc_lVX, jpush_n, jpush_s, obt_0, obt_1, och_0, och_32, och_100, och_115, och_104, och_33, och_43, och_60, jint, jbit, jchr, ijI, ijR, ijD, ijF, ↓reduceIte, Int.reduceEq, Int.reduceLT, reduceCtorEq, l0_bind, l0_ite, l0_none, l0_oix, l0_obt, l0_och, l0_sel, l0_oel, l0_some, f_Habits_rankL, ih]
set_option maxRecDepth 20000 in
set_option maxHeartbeats 4000000 in
theorem X47 (d : Nat) (a1 : Int) (m : jMem) (k : jM) : jme jT0 jMx (d + 3) 47 [jr (jn cf + 7), .inl a1] (hp cf dv m, k) = l0 cf dv m k ijI (f_Habits_rank m a1) := by
  simp only [M47, E47_0, E47_1, E47_2, E47_3, E47_4, E47_5, E47_6, E47_9, E47_12, E47_13, E47_16, E47_17, E47_18, E47_19, E47_20, E47_23, E47_24, E47_26, E47_28, E47_31, E47_33, E47_36, E47_37, E47_38, E47_41, E47_44, E47_47, E47_50, E47_51, ai_9, gf_7_1, gf_7_5, X27, go_7, jsh_n, jsh_I, jsh_R, jsh_II, jsh_IR, jsh_RI, jsh_RR, jsh_III, jsh_IIR, jsh_IRI, jsh_IRR, jsh_RII, jsh_RIR, jsh_RRI, jsh_RRR, jsh_IIII, jsh_IIIR, jsh_IIRI, jsh_IIRR, jsh_IRII, jsh_IRIR, jsh_IRRI, jsh_IRRR, jsh_RIII, jsh_RIIR, jsh_RIRI, jsh_RIRR, jsh_RRII, jsh_RRIR, jsh_RRRI, jsh_RRRR, jthr_hp, jc_l0, jc_lW, jc_lX, jc_lXW, jc_lVW, jc_lVX, jpush_n, jpush_s, obt_0, obt_1, och_0, och_32, och_100, och_115, och_104, och_33, och_43, och_60, jint, jbit, jchr, ijI, ijR, ijD, ijF, ↓reduceIte, Int.reduceEq, Int.reduceLT, reduceCtorEq, l0_bind, l0_ite, l0_none, l0_oix, l0_obt, l0_och, l0_sel, l0_oel, l0_some, f_Habits_rank, X47L]
end
def f_Habits_rankedL : Nat → jMem → Int → Int → Option Int
  | 0, _, _, _ => none
  | N + 1, m, a1, a2 => if a2 < (m 7 5) then oix a2 20 (if 0 < (m 9 a2.toNat) then (f_Habits_rank m a2).bind fun x1 => if x1 = a1 then some a2 else f_Habits_rankedL N m a1 (jw (a2 + 1)) else f_Habits_rankedL N m a1 (jw (a2 + 1))) else some (-1)
def f_Habits_ranked (m : jMem) (a1 : Int) : Option Int := f_Habits_rankedL 99999 m a1 0
section
variable {cf : jCf} {dv : UInt64}
set_option maxRecDepth 20000 in
set_option maxHeartbeats 4000000 in
theorem X46L (d : Nat) : ∀ (N : Nat) (m : jMem) (k : jM), (∀ (a1 a2 : Int), jlp jT0 46 (jme jT0 jMx (d + 3)) N 2 [some (jr (jn cf + 7)), some (.inl a1), some (.inl a2)] [] (hp cf dv m, k) = l0 cf dv m k ijI (f_Habits_rankedL N m a1 a2)) := by
  intro N
  induction N with
  | zero => intro m k; exact by intros; rfl
  | succ N ih =>
    intro m k
    intros
    rw [jlp_s]
    simp only [E46_0, E46_1, E46_2, E46_3, E46_4, E46_7, E46_10, E46_11, E46_14, E46_15, E46_16, E46_19, E46_20, E46_21, E46_24, E46_25, E46_28, E46_29, E46_30, E46_33, E46_36, E46_37, ai_9, gf_7_1, gf_7_5, X47, go_7, jsh_n, jsh_I, jsh_R, jsh_II, jsh_IR, jsh_RI, jsh_RR, jsh_III, jsh_IIR, jsh_IRI, jsh_IRR, jsh_RII, jsh_RIR, jsh_RRI, jsh_RRR, jsh_IIII, jsh_IIIR, jsh_IIRI, jsh_IIRR, jsh_IRII, jsh_IRIR, jsh_IRRI, jsh_IRRR, jsh_RIII, jsh_RIIR, jsh_RIRI, jsh_RIRR, jsh_RRII, jsh_RRIR, jsh_RRRI, jsh_RRRR, jthr_hp, jc_l0, jc_lW, jc_lX, jc_lXW, jc_lVW, jc_lVX, jpush_n, jpush_s, obt_0, obt_1, och_0, och_32, och_100, och_115, och_104, och_33, och_43, och_60, jint, jbit, jchr, ijI, ijR, ijD, ijF, ↓reduceIte, Int.reduceEq, Int.reduceLT, reduceCtorEq, l0_bind, l0_ite, l0_none, l0_oix, l0_obt, l0_och, l0_sel, l0_oel, l0_some, f_Habits_rankedL, ih]
set_option maxRecDepth 20000 in
set_option maxHeartbeats 4000000 in
theorem X46 (d : Nat) (a1 : Int) (m : jMem) (k : jM) : jme jT0 jMx (d + 4) 46 [jr (jn cf + 7), .inl a1] (hp cf dv m, k) = l0 cf dv m k ijI (f_Habits_ranked m a1) := by
  simp only [M46, E46_0, E46_1, E46_2, E46_3, E46_4, E46_7, E46_10, E46_11, E46_14, E46_15, E46_16, E46_19, E46_20, E46_21, E46_24, E46_25, E46_28, E46_29, E46_30, E46_33, E46_36, E46_37, ai_9, gf_7_1, gf_7_5, X47, go_7, jsh_n, jsh_I, jsh_R, jsh_II, jsh_IR, jsh_RI, jsh_RR, jsh_III, jsh_IIR, jsh_IRI, jsh_IRR, jsh_RII, jsh_RIR, jsh_RRI, jsh_RRR, jsh_IIII, jsh_IIIR, jsh_IIRI, jsh_IIRR, jsh_IRII, jsh_IRIR, jsh_IRRI, jsh_IRRR, jsh_RIII, jsh_RIIR, jsh_RIRI, jsh_RIRR, jsh_RRII, jsh_RRIR, jsh_RRRI, jsh_RRRR, jthr_hp, jc_l0, jc_lW, jc_lX, jc_lXW, jc_lVW, jc_lVX, jpush_n, jpush_s, obt_0, obt_1, och_0, och_32, och_100, och_115, och_104, och_33, och_43, och_60, jint, jbit, jchr, ijI, ijR, ijD, ijF, ↓reduceIte, Int.reduceEq, Int.reduceLT, reduceCtorEq, l0_bind, l0_ite, l0_none, l0_oix, l0_obt, l0_och, l0_sel, l0_oel, l0_some, f_Habits_ranked, X46L]
end

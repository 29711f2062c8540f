/-! ===== the model 2 ===== -/
section
variable (cl : Nat → List jV → jH → jR) (bk : Nat → jL → List jV → jH → jR) (n : Nat)
theorem E197_0 (a : Nat) (st : List jV) (w : jH) : jblk jT0 197 cl bk (n + 1) 0 [some (jr a)] st w = jblk jT0 197 cl bk n 1 [some (jr a)] (jr a :: st) w := rfl
theorem E197_1 (st : List jV) (l0 : Option jV) (w : jH) : jblk jT0 197 cl bk (n + 1) 1 [l0] st w = jblk jT0 197 cl bk n 2 [l0] (.inl 0 :: st) w := rfl
theorem E197_2 (a : Nat) (v : jV) (st : List jV) (l0 : Option jV) (w : jH) : jblk jT0 197 cl bk (n + 1) 2 [l0] (v :: jr a :: st) w = jpf w a 9 8 .int v fun w' => jblk jT0 197 cl bk n 5 [l0] st w' := rfl
theorem E197_5 (a : Nat) (st : List jV) (w : jH) : jblk jT0 197 cl bk (n + 1) 5 [some (jr a)] st w = jblk jT0 197 cl bk n 6 [some (jr a)] (jr a :: st) w := rfl
theorem E197_6 (a : Nat) (st : List jV) (l0 : Option jV) (w : jH) : jblk jT0 197 cl bk (n + 1) 6 [l0] (jr a :: st) w = jgf w a 9 0 fun v => jblk jT0 197 cl bk n 9 [l0] (v :: st) w := rfl
theorem E197_9 (st : List jV) (l0 : Option jV) (w : jH) : jblk jT0 197 cl bk (n + 1) 9 [l0] st w = jblk jT0 197 cl bk n 10 [l0] (.inl 0 :: st) w := rfl
theorem E197_10 (x : Int) (a : Nat) (st : List jV) (l0 : Option jV) (w : jH) : jblk jT0 197 cl bk (n + 1) 10 [l0] (.inl x :: jr a :: st) w = jlda w a x (fun z => jblk jT0 197 cl bk n 11 [l0] (.inl z :: st) w) := rfl
theorem E197_11 (x : Int) (l0 : Option jV) (w : jH) : jblk jT0 197 cl bk (n + 1) 11 [l0] [.inl x] w = if jfits .int x = true then some (.inl (some (.inl x)), w) else none := rfl
theorem E198_0 (st : List jV) (l0 l1 l2 : Option jV) (w : jH) : jblk jT0 198 cl bk (n + 1) 0 [l0, l1, l2] st w = jblk jT0 198 cl bk n 1 [l0, l1, l2] (.inl 0 :: st) w := rfl
theorem E198_1 (x : Int) (st : List jV) (l0 l1 l2 : Option jV) (w : jH) : jblk jT0 198 cl bk (n + 1) 1 [l0, l1, l2] (.inl x :: st) w = jblk jT0 198 cl bk n 2 [l0, some (.inl x), l2] st w := rfl
theorem E198_2 (st : List jV) (l0 l1 l2 : Option jV) (w : jH) : jblk jT0 198 cl bk (n + 1) 2 [l0, l1, l2] st w = jblk jT0 198 cl bk n 3 [l0, l1, l2] (.inl 0 :: st) w := rfl
theorem E198_3 (x : Int) (st : List jV) (l0 l1 l2 : Option jV) (w : jH) : jblk jT0 198 cl bk (n + 1) 3 [l0, l1, l2] (.inl x :: st) w = bk 4 [l0, l1, some (.inl x)] st w := rfl
theorem E198_4 (x : Int) (st : List jV) (l0 l1 : Option jV) (w : jH) : jblk jT0 198 cl bk (n + 1) 4 [l0, l1, some (.inl x)] st w = jblk jT0 198 cl bk n 5 [l0, l1, some (.inl x)] (.inl x :: st) w := rfl
theorem E198_5 (a : Nat) (st : List jV) (l1 l2 : Option jV) (w : jH) : jblk jT0 198 cl bk (n + 1) 5 [some (jr a), l1, l2] st w = jblk jT0 198 cl bk n 6 [some (jr a), l1, l2] (jr a :: st) w := rfl
theorem E198_6 (a : Nat) (st : List jV) (l0 l1 l2 : Option jV) (w : jH) : jblk jT0 198 cl bk (n + 1) 6 [l0, l1, l2] (jr a :: st) w = jgf w a 9 0 fun v => jblk jT0 198 cl bk n 9 [l0, l1, l2] (v :: st) w := rfl
theorem E198_9 (st : List jV) (l0 l1 l2 : Option jV) (w : jH) : jblk jT0 198 cl bk (n + 1) 9 [l0, l1, l2] st w = jblk jT0 198 cl bk n 10 [l0, l1, l2] (.inl 0 :: st) w := rfl
theorem E198_10 (x : Int) (a : Nat) (st : List jV) (l0 l1 l2 : Option jV) (w : jH) : jblk jT0 198 cl bk (n + 1) 10 [l0, l1, l2] (.inl x :: jr a :: st) w = jlda w a x (fun z => jblk jT0 198 cl bk n 11 [l0, l1, l2] (.inl z :: st) w) := rfl
theorem E198_11 (x : Int) (y : Int) (st : List jV) (l0 l1 l2 : Option jV) (w : jH) : jblk jT0 198 cl bk (n + 1) 11 [l0, l1, l2] (.inl y :: .inl x :: st) w = if x < y then jblk jT0 198 cl bk n 14 [l0, l1, l2] st w else jblk jT0 198 cl bk n 36 [l0, l1, l2] st w := rfl
theorem E198_14 (x : Int) (st : List jV) (l0 l2 : Option jV) (w : jH) : jblk jT0 198 cl bk (n + 1) 14 [l0, some (.inl x), l2] st w = jblk jT0 198 cl bk n 15 [l0, some (.inl x), l2] (.inl x :: st) w := rfl
theorem E198_15 (a : Nat) (st : List jV) (l1 l2 : Option jV) (w : jH) : jblk jT0 198 cl bk (n + 1) 15 [some (jr a), l1, l2] st w = jblk jT0 198 cl bk n 16 [some (jr a), l1, l2] (jr a :: st) w := rfl
theorem E198_16 (x : Int) (st : List jV) (l0 l1 : Option jV) (w : jH) : jblk jT0 198 cl bk (n + 1) 16 [l0, l1, some (.inl x)] st w = jblk jT0 198 cl bk n 17 [l0, l1, some (.inl x)] (.inl x :: st) w := rfl
theorem E198_17 (a : Nat) (v0 : jV) (st : List jV) (l0 l1 l2 : Option jV) (w : jH) : jblk jT0 198 cl bk (n + 1) 17 [l0, l1, l2] (v0 :: jr a :: st) w = jsh st (jgo w a 9 fun _ => jcl (cl 187 [jr a, v0] w) (fun v w' => jblk jT0 198 cl bk n 20 [l0, l1, l2] (jpush v st) w') (fun E w' => some (.inr E, w'))) := rfl
theorem E198_20 (x : Int) (st : List jV) (l0 l1 l2 : Option jV) (w : jH) : jblk jT0 198 cl bk (n + 1) 20 [l0, l1, l2] (.inl x :: st) w = if x = 0 then jblk jT0 198 cl bk n 27 [l0, l1, l2] st w else jblk jT0 198 cl bk n 23 [l0, l1, l2] st w := rfl
theorem E198_23 (st : List jV) (l0 l1 l2 : Option jV) (w : jH) : jblk jT0 198 cl bk (n + 1) 23 [l0, l1, l2] st w = jblk jT0 198 cl bk n 24 [l0, l1, l2] (.inl 1 :: st) w := rfl
theorem E198_24 (st : List jV) (l0 l1 l2 : Option jV) (w : jH) : jblk jT0 198 cl bk (n + 1) 24 [l0, l1, l2] st w = jblk jT0 198 cl bk n 28 [l0, l1, l2] st w := rfl
theorem E198_27 (st : List jV) (l0 l1 l2 : Option jV) (w : jH) : jblk jT0 198 cl bk (n + 1) 27 [l0, l1, l2] st w = jblk jT0 198 cl bk n 28 [l0, l1, l2] (.inl 0 :: st) w := rfl
theorem E198_28 (x : Int) (y : Int) (st : List jV) (l0 l1 l2 : Option jV) (w : jH) : jblk jT0 198 cl bk (n + 1) 28 [l0, l1, l2] (.inl y :: .inl x :: st) w = jblk jT0 198 cl bk n 29 [l0, l1, l2] (.inl (jw (x + y)) :: st) w := rfl
theorem E198_29 (x : Int) (st : List jV) (l0 l1 l2 : Option jV) (w : jH) : jblk jT0 198 cl bk (n + 1) 29 [l0, l1, l2] (.inl x :: st) w = jblk jT0 198 cl bk n 30 [l0, some (.inl x), l2] st w := rfl
theorem E198_30 (x : Int) (st : List jV) (l0 l1 : Option jV) (w : jH) : jblk jT0 198 cl bk (n + 1) 30 [l0, l1, some (.inl x)] st w = jblk jT0 198 cl bk n 33 [l0, l1, some (.inl (jw (x + 1)))] st w := rfl
theorem E198_33 (st : List jV) (l0 l1 l2 : Option jV) (w : jH) : jblk jT0 198 cl bk (n + 1) 33 [l0, l1, l2] st w = bk 4 [l0, l1, l2] st w := rfl
theorem E198_36 (x : Int) (st : List jV) (l0 l2 : Option jV) (w : jH) : jblk jT0 198 cl bk (n + 1) 36 [l0, some (.inl x), l2] st w = jblk jT0 198 cl bk n 37 [l0, some (.inl x), l2] (.inl x :: st) w := rfl
theorem E198_37 (x : Int) (l0 l1 l2 : Option jV) (w : jH) : jblk jT0 198 cl bk (n + 1) 37 [l0, l1, l2] [.inl x] w = if jfits .int x = true then some (.inl (some (.inl x)), w) else none := rfl
theorem E199_0 (a : Nat) (st : List jV) (w : jH) : jblk jT0 199 cl bk (n + 1) 0 [some (jr a)] st w = jblk jT0 199 cl bk n 1 [some (jr a)] (jr a :: st) w := rfl
theorem E199_1 (st : List jV) (l0 : Option jV) (w : jH) : jblk jT0 199 cl bk (n + 1) 1 [l0] st w = jblk jT0 199 cl bk n 2 [l0] (.inl 0 :: st) w := rfl
theorem E199_2 (a : Nat) (v : jV) (st : List jV) (l0 : Option jV) (w : jH) : jblk jT0 199 cl bk (n + 1) 2 [l0] (v :: jr a :: st) w = jpf w a 9 8 .int v fun w' => jblk jT0 199 cl bk n 5 [l0] st w' := rfl
theorem E199_5 (a : Nat) (st : List jV) (w : jH) : jblk jT0 199 cl bk (n + 1) 5 [some (jr a)] st w = jblk jT0 199 cl bk n 6 [some (jr a)] (jr a :: st) w := rfl
theorem E199_6 (a : Nat) (st : List jV) (l0 : Option jV) (w : jH) : jblk jT0 199 cl bk (n + 1) 6 [l0] (jr a :: st) w = jsh st (jgo w a 9 fun _ => jcl (cl 198 [jr a] w) (fun v w' => jblk jT0 199 cl bk n 9 [l0] (jpush v st) w') (fun E w' => some (.inr E, w'))) := rfl
theorem E199_9 (x : Int) (l0 : Option jV) (w : jH) : jblk jT0 199 cl bk (n + 1) 9 [l0] [.inl x] w = if jfits .int x = true then some (.inl (some (.inl x)), w) else none := rfl
theorem E200_0 (a : Nat) (st : List jV) (l1 : Option jV) (w : jH) : jblk jT0 200 cl bk (n + 1) 0 [some (jr a), l1] st w = jblk jT0 200 cl bk n 1 [some (jr a), l1] (jr a :: st) w := rfl
theorem E200_1 (a : Nat) (st : List jV) (l1 : Option jV) (w : jH) : jblk jT0 200 cl bk (n + 1) 1 [some (jr a), l1] st w = jblk jT0 200 cl bk n 2 [some (jr a), l1] (jr a :: st) w := rfl
theorem E200_2 (x : Int) (st : List jV) (l0 : Option jV) (w : jH) : jblk jT0 200 cl bk (n + 1) 2 [l0, some (.inl x)] st w = jblk jT0 200 cl bk n 3 [l0, some (.inl x)] (.inl x :: st) w := rfl
theorem E200_3 (a : Nat) (v0 : jV) (st : List jV) (l0 l1 : Option jV) (w : jH) : jblk jT0 200 cl bk (n + 1) 3 [l0, l1] (v0 :: jr a :: st) w = jsh st (jgo w a 9 fun _ => jcl (cl 184 [jr a, v0] w) (fun v w' => jblk jT0 200 cl bk n 6 [l0, l1] (jpush v st) w') (fun E w' => some (.inr E, w'))) := rfl
theorem E200_6 (x : Int) (st : List jV) (l0 l1 : Option jV) (w : jH) : jblk jT0 200 cl bk (n + 1) 6 [l0, l1] (.inl x :: st) w = if x = 0 then jblk jT0 200 cl bk n 13 [l0, l1] st w else jblk jT0 200 cl bk n 9 [l0, l1] st w := rfl
theorem E200_9 (st : List jV) (l0 l1 : Option jV) (w : jH) : jblk jT0 200 cl bk (n + 1) 9 [l0, l1] st w = jblk jT0 200 cl bk n 10 [l0, l1] (.inl 0 :: st) w := rfl
theorem E200_10 (st : List jV) (l0 l1 : Option jV) (w : jH) : jblk jT0 200 cl bk (n + 1) 10 [l0, l1] st w = jblk jT0 200 cl bk n 14 [l0, l1] st w := rfl
theorem E200_13 (st : List jV) (l0 l1 : Option jV) (w : jH) : jblk jT0 200 cl bk (n + 1) 13 [l0, l1] st w = jblk jT0 200 cl bk n 14 [l0, l1] (.inl 1 :: st) w := rfl
theorem E200_14 (a : Nat) (v0 : jV) (st : List jV) (l0 l1 : Option jV) (w : jH) : jblk jT0 200 cl bk (n + 1) 14 [l0, l1] (v0 :: jr a :: st) w = jsh st (jgo w a 9 fun _ => jcl (cl 178 [jr a, v0] w) (fun v w' => jblk jT0 200 cl bk n 17 [l0, l1] (jpush v st) w') (fun E w' => some (.inr E, w'))) := rfl
theorem E200_17 (x : Int) (l0 l1 : Option jV) (w : jH) : jblk jT0 200 cl bk (n + 1) 17 [l0, l1] [.inl x] w = if jfits .boolean x = true then some (.inl (some (.inl x)), w) else none := rfl
theorem E201_0 (a : Nat) (st : List jV) (l1 : Option jV) (w : jH) : jblk jT0 201 cl bk (n + 1) 0 [some (jr a), l1] st w = jblk jT0 201 cl bk n 1 [some (jr a), l1] (jr a :: st) w := rfl
theorem E201_1 (x : Int) (st : List jV) (l0 : Option jV) (w : jH) : jblk jT0 201 cl bk (n + 1) 1 [l0, some (.inl x)] st w = jblk jT0 201 cl bk n 2 [l0, some (.inl x)] (.inl x :: st) w := rfl
theorem E201_2 (a : Nat) (v0 : jV) (st : List jV) (l0 l1 : Option jV) (w : jH) : jblk jT0 201 cl bk (n + 1) 2 [l0, l1] (v0 :: jr a :: st) w = jsh st (jgo w a 9 fun _ => jcl (cl 200 [jr a, v0] w) (fun v w' => jblk jT0 201 cl bk n 5 [l0, l1] (jpush v st) w') (fun E w' => some (.inr E, w'))) := rfl
theorem E201_5 (x : Int) (st : List jV) (l0 l1 : Option jV) (w : jH) : jblk jT0 201 cl bk (n + 1) 5 [l0, l1] (.inl x :: st) w = if x = 0 then jblk jT0 201 cl bk n 8 [l0, l1] st w else jblk jT0 201 cl bk n 20 [l0, l1] st w := rfl
theorem E201_8 (a : Nat) (st : List jV) (l1 : Option jV) (w : jH) : jblk jT0 201 cl bk (n + 1) 8 [some (jr a), l1] st w = jblk jT0 201 cl bk n 9 [some (jr a), l1] (jr a :: st) w := rfl
theorem E201_9 (x : Int) (st : List jV) (l0 : Option jV) (w : jH) : jblk jT0 201 cl bk (n + 1) 9 [l0, some (.inl x)] st w = jblk jT0 201 cl bk n 10 [l0, some (.inl x)] (.inl x :: st) w := rfl
theorem E201_10 (a : Nat) (v0 : jV) (st : List jV) (l0 l1 : Option jV) (w : jH) : jblk jT0 201 cl bk (n + 1) 10 [l0, l1] (v0 :: jr a :: st) w = jsh st (jgo w a 9 fun _ => jcl (cl 187 [jr a, v0] w) (fun v w' => jblk jT0 201 cl bk n 13 [l0, l1] (jpush v st) w') (fun E w' => some (.inr E, w'))) := rfl
theorem E201_13 (x : Int) (st : List jV) (l0 l1 : Option jV) (w : jH) : jblk jT0 201 cl bk (n + 1) 13 [l0, l1] (.inl x :: st) w = if x = 0 then jblk jT0 201 cl bk n 20 [l0, l1] st w else jblk jT0 201 cl bk n 16 [l0, l1] st w := rfl
theorem E201_16 (st : List jV) (l0 l1 : Option jV) (w : jH) : jblk jT0 201 cl bk (n + 1) 16 [l0, l1] st w = jblk jT0 201 cl bk n 17 [l0, l1] (.inl 1 :: st) w := rfl
theorem E201_17 (st : List jV) (l0 l1 : Option jV) (w : jH) : jblk jT0 201 cl bk (n + 1) 17 [l0, l1] st w = jblk jT0 201 cl bk n 21 [l0, l1] st w := rfl
theorem E201_20 (st : List jV) (l0 l1 : Option jV) (w : jH) : jblk jT0 201 cl bk (n + 1) 20 [l0, l1] st w = jblk jT0 201 cl bk n 21 [l0, l1] (.inl 0 :: st) w := rfl
theorem E201_21 (x : Int) (l0 l1 : Option jV) (w : jH) : jblk jT0 201 cl bk (n + 1) 21 [l0, l1] [.inl x] w = if jfits .boolean x = true then some (.inl (some (.inl x)), w) else none := rfl
theorem E202_0 (a : Nat) (st : List jV) (l1 : Option jV) (w : jH) : jblk jT0 202 cl bk (n + 1) 0 [some (jr a), l1] st w = jblk jT0 202 cl bk n 1 [some (jr a), l1] (jr a :: st) w := rfl
theorem E202_1 (x : Int) (st : List jV) (l0 : Option jV) (w : jH) : jblk jT0 202 cl bk (n + 1) 1 [l0, some (.inl x)] st w = jblk jT0 202 cl bk n 2 [l0, some (.inl x)] (.inl x :: st) w := rfl
theorem E202_2 (a : Nat) (v0 : jV) (st : List jV) (l0 l1 : Option jV) (w : jH) : jblk jT0 202 cl bk (n + 1) 2 [l0, l1] (v0 :: jr a :: st) w = jsh st (jgo w a 9 fun _ => jcl (cl 200 [jr a, v0] w) (fun v w' => jblk jT0 202 cl bk n 5 [l0, l1] (jpush v st) w') (fun E w' => some (.inr E, w'))) := rfl
theorem E202_5 (x : Int) (st : List jV) (l0 l1 : Option jV) (w : jH) : jblk jT0 202 cl bk (n + 1) 5 [l0, l1] (.inl x :: st) w = if x = 0 then jblk jT0 202 cl bk n 8 [l0, l1] st w else jblk jT0 202 cl bk n 20 [l0, l1] st w := rfl
theorem E202_8 (a : Nat) (st : List jV) (l1 : Option jV) (w : jH) : jblk jT0 202 cl bk (n + 1) 8 [some (jr a), l1] st w = jblk jT0 202 cl bk n 9 [some (jr a), l1] (jr a :: st) w := rfl
theorem E202_9 (x : Int) (st : List jV) (l0 : Option jV) (w : jH) : jblk jT0 202 cl bk (n + 1) 9 [l0, some (.inl x)] st w = jblk jT0 202 cl bk n 10 [l0, some (.inl x)] (.inl x :: st) w := rfl
theorem E202_10 (a : Nat) (v0 : jV) (st : List jV) (l0 l1 : Option jV) (w : jH) : jblk jT0 202 cl bk (n + 1) 10 [l0, l1] (v0 :: jr a :: st) w = jsh st (jgo w a 9 fun _ => jcl (cl 186 [jr a, v0] w) (fun v w' => jblk jT0 202 cl bk n 13 [l0, l1] (jpush v st) w') (fun E w' => some (.inr E, w'))) := rfl
theorem E202_13 (x : Int) (st : List jV) (l0 l1 : Option jV) (w : jH) : jblk jT0 202 cl bk (n + 1) 13 [l0, l1] (.inl x :: st) w = if x < 0 then jblk jT0 202 cl bk n 16 [l0, l1] st w else jblk jT0 202 cl bk n 20 [l0, l1] st w := rfl
theorem E202_16 (st : List jV) (l0 l1 : Option jV) (w : jH) : jblk jT0 202 cl bk (n + 1) 16 [l0, l1] st w = jblk jT0 202 cl bk n 17 [l0, l1] (.inl 1 :: st) w := rfl
theorem E202_17 (st : List jV) (l0 l1 : Option jV) (w : jH) : jblk jT0 202 cl bk (n + 1) 17 [l0, l1] st w = jblk jT0 202 cl bk n 21 [l0, l1] st w := rfl
theorem E202_20 (st : List jV) (l0 l1 : Option jV) (w : jH) : jblk jT0 202 cl bk (n + 1) 20 [l0, l1] st w = jblk jT0 202 cl bk n 21 [l0, l1] (.inl 0 :: st) w := rfl
theorem E202_21 (x : Int) (l0 l1 : Option jV) (w : jH) : jblk jT0 202 cl bk (n + 1) 21 [l0, l1] [.inl x] w = if jfits .boolean x = true then some (.inl (some (.inl x)), w) else none := rfl
theorem E203_0 (a : Nat) (st : List jV) (l1 : Option jV) (w : jH) : jblk jT0 203 cl bk (n + 1) 0 [some (jr a), l1] st w = jblk jT0 203 cl bk n 1 [some (jr a), l1] (jr a :: st) w := rfl
theorem E203_1 (a : Nat) (st : List jV) (l1 : Option jV) (w : jH) : jblk jT0 203 cl bk (n + 1) 1 [some (jr a), l1] st w = jblk jT0 203 cl bk n 2 [some (jr a), l1] (jr a :: st) w := rfl
theorem E203_2 (x : Int) (st : List jV) (l0 : Option jV) (w : jH) : jblk jT0 203 cl bk (n + 1) 2 [l0, some (.inl x)] st w = jblk jT0 203 cl bk n 3 [l0, some (.inl x)] (.inl x :: st) w := rfl
theorem E203_3 (a : Nat) (v0 : jV) (st : List jV) (l0 l1 : Option jV) (w : jH) : jblk jT0 203 cl bk (n + 1) 3 [l0, l1] (v0 :: jr a :: st) w = jsh st (jgo w a 9 fun _ => jcl (cl 184 [jr a, v0] w) (fun v w' => jblk jT0 203 cl bk n 6 [l0, l1] (jpush v st) w') (fun E w' => some (.inr E, w'))) := rfl
theorem E203_6 (x : Int) (st : List jV) (l0 l1 : Option jV) (w : jH) : jblk jT0 203 cl bk (n + 1) 6 [l0, l1] (.inl x :: st) w = if x = 0 then jblk jT0 203 cl bk n 9 [l0, l1] st w else jblk jT0 203 cl bk n 13 [l0, l1] st w := rfl
theorem E203_9 (st : List jV) (l0 l1 : Option jV) (w : jH) : jblk jT0 203 cl bk (n + 1) 9 [l0, l1] st w = jblk jT0 203 cl bk n 10 [l0, l1] (.inl 1 :: st) w := rfl
theorem E203_10 (st : List jV) (l0 l1 : Option jV) (w : jH) : jblk jT0 203 cl bk (n + 1) 10 [l0, l1] st w = jblk jT0 203 cl bk n 26 [l0, l1] st w := rfl
theorem E203_13 (a : Nat) (st : List jV) (l1 : Option jV) (w : jH) : jblk jT0 203 cl bk (n + 1) 13 [some (jr a), l1] st w = jblk jT0 203 cl bk n 14 [some (jr a), l1] (jr a :: st) w := rfl
theorem E203_14 (x : Int) (st : List jV) (l0 : Option jV) (w : jH) : jblk jT0 203 cl bk (n + 1) 14 [l0, some (.inl x)] st w = jblk jT0 203 cl bk n 15 [l0, some (.inl x)] (.inl x :: st) w := rfl
theorem E203_15 (a : Nat) (v0 : jV) (st : List jV) (l0 l1 : Option jV) (w : jH) : jblk jT0 203 cl bk (n + 1) 15 [l0, l1] (v0 :: jr a :: st) w = jsh st (jgo w a 9 fun _ => jcl (cl 186 [jr a, v0] w) (fun v w' => jblk jT0 203 cl bk n 18 [l0, l1] (jpush v st) w') (fun E w' => some (.inr E, w'))) := rfl
theorem E203_18 (x : Int) (st : List jV) (l0 l1 : Option jV) (w : jH) : jblk jT0 203 cl bk (n + 1) 18 [l0, l1] (.inl x :: st) w = if x < 0 then jblk jT0 203 cl bk n 21 [l0, l1] st w else jblk jT0 203 cl bk n 25 [l0, l1] st w := rfl
theorem E203_21 (st : List jV) (l0 l1 : Option jV) (w : jH) : jblk jT0 203 cl bk (n + 1) 21 [l0, l1] st w = jblk jT0 203 cl bk n 22 [l0, l1] (.inl 2 :: st) w := rfl
theorem E203_22 (st : List jV) (l0 l1 : Option jV) (w : jH) : jblk jT0 203 cl bk (n + 1) 22 [l0, l1] st w = jblk jT0 203 cl bk n 26 [l0, l1] st w := rfl
theorem E203_25 (st : List jV) (l0 l1 : Option jV) (w : jH) : jblk jT0 203 cl bk (n + 1) 25 [l0, l1] st w = jblk jT0 203 cl bk n 26 [l0, l1] (.inl 0 :: st) w := rfl
theorem E203_26 (a : Nat) (v0 : jV) (st : List jV) (l0 l1 : Option jV) (w : jH) : jblk jT0 203 cl bk (n + 1) 26 [l0, l1] (v0 :: jr a :: st) w = jsh st (jgo w a 9 fun _ => jcl (cl 178 [jr a, v0] w) (fun v w' => jblk jT0 203 cl bk n 29 [l0, l1] (jpush v st) w') (fun E w' => some (.inr E, w'))) := rfl
theorem E203_29 (x : Int) (st : List jV) (l0 l1 : Option jV) (w : jH) : jblk jT0 203 cl bk (n + 1) 29 [l0, l1] (.inl x :: st) w = if x = 0 then jblk jT0 203 cl bk n 36 [l0, l1] st w else jblk jT0 203 cl bk n 32 [l0, l1] st w := rfl
theorem E203_32 (st : List jV) (l0 l1 : Option jV) (w : jH) : jblk jT0 203 cl bk (n + 1) 32 [l0, l1] st w = jblk jT0 203 cl bk n 33 [l0, l1] (.inl 0 :: st) w := rfl
theorem E203_33 (st : List jV) (l0 l1 : Option jV) (w : jH) : jblk jT0 203 cl bk (n + 1) 33 [l0, l1] st w = jblk jT0 203 cl bk n 41 [l0, l1] st w := rfl
theorem E203_36 (a : Nat) (st : List jV) (l1 : Option jV) (w : jH) : jblk jT0 203 cl bk (n + 1) 36 [some (jr a), l1] st w = jblk jT0 203 cl bk n 37 [some (jr a), l1] (jr a :: st) w := rfl
theorem E203_37 (x : Int) (st : List jV) (l0 : Option jV) (w : jH) : jblk jT0 203 cl bk (n + 1) 37 [l0, some (.inl x)] st w = jblk jT0 203 cl bk n 38 [l0, some (.inl x)] (.inl x :: st) w := rfl
theorem E203_38 (a : Nat) (v0 : jV) (st : List jV) (l0 l1 : Option jV) (w : jH) : jblk jT0 203 cl bk (n + 1) 38 [l0, l1] (v0 :: jr a :: st) w = jsh st (jgo w a 9 fun _ => jcl (cl 186 [jr a, v0] w) (fun v w' => jblk jT0 203 cl bk n 41 [l0, l1] (jpush v st) w') (fun E w' => some (.inr E, w'))) := rfl
theorem E203_41 (x : Int) (l0 l1 : Option jV) (w : jH) : jblk jT0 203 cl bk (n + 1) 41 [l0, l1] [.inl x] w = if jfits .int x = true then some (.inl (some (.inl x)), w) else none := rfl
theorem E204_0 (a : Nat) (st : List jV) (l1 l2 l3 : Option jV) (w : jH) : jblk jT0 204 cl bk (n + 1) 0 [some (jr a), l1, l2, l3] st w = jblk jT0 204 cl bk n 1 [some (jr a), l1, l2, l3] (jr a :: st) w := rfl
theorem E204_1 (x : Int) (st : List jV) (l0 l2 l3 : Option jV) (w : jH) : jblk jT0 204 cl bk (n + 1) 1 [l0, some (.inl x), l2, l3] st w = jblk jT0 204 cl bk n 2 [l0, some (.inl x), l2, l3] (.inl x :: st) w := rfl
theorem E204_2 (a : Nat) (v0 : jV) (st : List jV) (l0 l1 l2 l3 : Option jV) (w : jH) : jblk jT0 204 cl bk (n + 1) 2 [l0, l1, l2, l3] (v0 :: jr a :: st) w = jsh st (jgo w a 9 fun _ => jcl (cl 200 [jr a, v0] w) (fun v w' => jblk jT0 204 cl bk n 5 [l0, l1, l2, l3] (jpush v st) w') (fun E w' => some (.inr E, w'))) := rfl
theorem E204_5 (x : Int) (st : List jV) (l0 l1 l2 l3 : Option jV) (w : jH) : jblk jT0 204 cl bk (n + 1) 5 [l0, l1, l2, l3] (.inl x :: st) w = if x = 0 then jblk jT0 204 cl bk n 10 [l0, l1, l2, l3] st w else jblk jT0 204 cl bk n 8 [l0, l1, l2, l3] st w := rfl
theorem E204_8 (st : List jV) (l0 l1 l2 l3 : Option jV) (w : jH) : jblk jT0 204 cl bk (n + 1) 8 [l0, l1, l2, l3] st w = jblk jT0 204 cl bk n 9 [l0, l1, l2, l3] (.inl 0 :: st) w := rfl
theorem E204_9 (x : Int) (l0 l1 l2 l3 : Option jV) (w : jH) : jblk jT0 204 cl bk (n + 1) 9 [l0, l1, l2, l3] [.inl x] w = if jfits .int x = true then some (.inl (some (.inl x)), w) else none := rfl
theorem E204_10 (st : List jV) (l0 l1 l2 l3 : Option jV) (w : jH) : jblk jT0 204 cl bk (n + 1) 10 [l0, l1, l2, l3] st w = jblk jT0 204 cl bk n 11 [l0, l1, l2, l3] (.inl 0 :: st) w := rfl
theorem E204_11 (x : Int) (st : List jV) (l0 l1 l2 l3 : Option jV) (w : jH) : jblk jT0 204 cl bk (n + 1) 11 [l0, l1, l2, l3] (.inl x :: st) w = jblk jT0 204 cl bk n 12 [l0, l1, some (.inl x), l3] st w := rfl
theorem E204_12 (st : List jV) (l0 l1 l2 l3 : Option jV) (w : jH) : jblk jT0 204 cl bk (n + 1) 12 [l0, l1, l2, l3] st w = jblk jT0 204 cl bk n 13 [l0, l1, l2, l3] (.inl 0 :: st) w := rfl
theorem E204_13 (x : Int) (st : List jV) (l0 l1 l2 l3 : Option jV) (w : jH) : jblk jT0 204 cl bk (n + 1) 13 [l0, l1, l2, l3] (.inl x :: st) w = bk 14 [l0, l1, l2, some (.inl x)] st w := rfl
theorem E204_14 (x : Int) (st : List jV) (l0 l1 l2 : Option jV) (w : jH) : jblk jT0 204 cl bk (n + 1) 14 [l0, l1, l2, some (.inl x)] st w = jblk jT0 204 cl bk n 15 [l0, l1, l2, some (.inl x)] (.inl x :: st) w := rfl
theorem E204_15 (a : Nat) (st : List jV) (l1 l2 l3 : Option jV) (w : jH) : jblk jT0 204 cl bk (n + 1) 15 [some (jr a), l1, l2, l3] st w = jblk jT0 204 cl bk n 16 [some (jr a), l1, l2, l3] (jr a :: st) w := rfl
theorem E204_16 (a : Nat) (st : List jV) (l0 l1 l2 l3 : Option jV) (w : jH) : jblk jT0 204 cl bk (n + 1) 16 [l0, l1, l2, l3] (jr a :: st) w = jgf w a 9 0 fun v => jblk jT0 204 cl bk n 19 [l0, l1, l2, l3] (v :: st) w := rfl
theorem E204_19 (st : List jV) (l0 l1 l2 l3 : Option jV) (w : jH) : jblk jT0 204 cl bk (n + 1) 19 [l0, l1, l2, l3] st w = jblk jT0 204 cl bk n 20 [l0, l1, l2, l3] (.inl 0 :: st) w := rfl
theorem E204_20 (x : Int) (a : Nat) (st : List jV) (l0 l1 l2 l3 : Option jV) (w : jH) : jblk jT0 204 cl bk (n + 1) 20 [l0, l1, l2, l3] (.inl x :: jr a :: st) w = jlda w a x (fun z => jblk jT0 204 cl bk n 21 [l0, l1, l2, l3] (.inl z :: st) w) := rfl
theorem E204_21 (x : Int) (y : Int) (st : List jV) (l0 l1 l2 l3 : Option jV) (w : jH) : jblk jT0 204 cl bk (n + 1) 21 [l0, l1, l2, l3] (.inl y :: .inl x :: st) w = if x < y then jblk jT0 204 cl bk n 24 [l0, l1, l2, l3] st w else jblk jT0 204 cl bk n 47 [l0, l1, l2, l3] st w := rfl
theorem E204_24 (x : Int) (st : List jV) (l0 l1 l3 : Option jV) (w : jH) : jblk jT0 204 cl bk (n + 1) 24 [l0, l1, some (.inl x), l3] st w = jblk jT0 204 cl bk n 25 [l0, l1, some (.inl x), l3] (.inl x :: st) w := rfl
theorem E204_25 (a : Nat) (st : List jV) (l1 l2 l3 : Option jV) (w : jH) : jblk jT0 204 cl bk (n + 1) 25 [some (jr a), l1, l2, l3] st w = jblk jT0 204 cl bk n 26 [some (jr a), l1, l2, l3] (jr a :: st) w := rfl
theorem E204_26 (x : Int) (st : List jV) (l0 l1 l2 : Option jV) (w : jH) : jblk jT0 204 cl bk (n + 1) 26 [l0, l1, l2, some (.inl x)] st w = jblk jT0 204 cl bk n 27 [l0, l1, l2, some (.inl x)] (.inl x :: st) w := rfl
theorem E204_27 (a : Nat) (v0 : jV) (st : List jV) (l0 l1 l2 l3 : Option jV) (w : jH) : jblk jT0 204 cl bk (n + 1) 27 [l0, l1, l2, l3] (v0 :: jr a :: st) w = jsh st (jgo w a 9 fun _ => jcl (cl 186 [jr a, v0] w) (fun v w' => jblk jT0 204 cl bk n 30 [l0, l1, l2, l3] (jpush v st) w') (fun E w' => some (.inr E, w'))) := rfl
theorem E204_30 (x : Int) (st : List jV) (l0 l2 l3 : Option jV) (w : jH) : jblk jT0 204 cl bk (n + 1) 30 [l0, some (.inl x), l2, l3] st w = jblk jT0 204 cl bk n 31 [l0, some (.inl x), l2, l3] (.inl x :: st) w := rfl
theorem E204_31 (x : Int) (y : Int) (st : List jV) (l0 l1 l2 l3 : Option jV) (w : jH) : jblk jT0 204 cl bk (n + 1) 31 [l0, l1, l2, l3] (.inl y :: .inl x :: st) w = if x = y then jblk jT0 204 cl bk n 34 [l0, l1, l2, l3] st w else jblk jT0 204 cl bk n 38 [l0, l1, l2, l3] st w := rfl
theorem E204_34 (st : List jV) (l0 l1 l2 l3 : Option jV) (w : jH) : jblk jT0 204 cl bk (n + 1) 34 [l0, l1, l2, l3] st w = jblk jT0 204 cl bk n 35 [l0, l1, l2, l3] (.inl 1 :: st) w := rfl
theorem E204_35 (st : List jV) (l0 l1 l2 l3 : Option jV) (w : jH) : jblk jT0 204 cl bk (n + 1) 35 [l0, l1, l2, l3] st w = jblk jT0 204 cl bk n 39 [l0, l1, l2, l3] st w := rfl
theorem E204_38 (st : List jV) (l0 l1 l2 l3 : Option jV) (w : jH) : jblk jT0 204 cl bk (n + 1) 38 [l0, l1, l2, l3] st w = jblk jT0 204 cl bk n 39 [l0, l1, l2, l3] (.inl 0 :: st) w := rfl
theorem E204_39 (x : Int) (y : Int) (st : List jV) (l0 l1 l2 l3 : Option jV) (w : jH) : jblk jT0 204 cl bk (n + 1) 39 [l0, l1, l2, l3] (.inl y :: .inl x :: st) w = jblk jT0 204 cl bk n 40 [l0, l1, l2, l3] (.inl (jw (x + y)) :: st) w := rfl
theorem E204_40 (x : Int) (st : List jV) (l0 l1 l2 l3 : Option jV) (w : jH) : jblk jT0 204 cl bk (n + 1) 40 [l0, l1, l2, l3] (.inl x :: st) w = jblk jT0 204 cl bk n 41 [l0, l1, some (.inl x), l3] st w := rfl
theorem E204_41 (x : Int) (st : List jV) (l0 l1 l2 : Option jV) (w : jH) : jblk jT0 204 cl bk (n + 1) 41 [l0, l1, l2, some (.inl x)] st w = jblk jT0 204 cl bk n 44 [l0, l1, l2, some (.inl (jw (x + 1)))] st w := rfl
theorem E204_44 (st : List jV) (l0 l1 l2 l3 : Option jV) (w : jH) : jblk jT0 204 cl bk (n + 1) 44 [l0, l1, l2, l3] st w = bk 14 [l0, l1, l2, l3] st w := rfl
theorem E204_47 (x : Int) (st : List jV) (l0 l1 l3 : Option jV) (w : jH) : jblk jT0 204 cl bk (n + 1) 47 [l0, l1, some (.inl x), l3] st w = jblk jT0 204 cl bk n 48 [l0, l1, some (.inl x), l3] (.inl x :: st) w := rfl
theorem E204_48 (x : Int) (l0 l1 l2 l3 : Option jV) (w : jH) : jblk jT0 204 cl bk (n + 1) 48 [l0, l1, l2, l3] [.inl x] w = if jfits .int x = true then some (.inl (some (.inl x)), w) else none := rfl
theorem E205_0 (a : Nat) (st : List jV) (l1 l2 l3 l4 : Option jV) (w : jH) : jblk jT0 205 cl bk (n + 1) 0 [some (jr a), l1, l2, l3, l4] st w = jblk jT0 205 cl bk n 1 [some (jr a), l1, l2, l3, l4] (jr a :: st) w := rfl
theorem E205_1 (x : Int) (st : List jV) (l0 l2 l3 l4 : Option jV) (w : jH) : jblk jT0 205 cl bk (n + 1) 1 [l0, some (.inl x), l2, l3, l4] st w = jblk jT0 205 cl bk n 2 [l0, some (.inl x), l2, l3, l4] (.inl x :: st) w := rfl
theorem E205_2 (a : Nat) (v0 : jV) (st : List jV) (l0 l1 l2 l3 l4 : Option jV) (w : jH) : jblk jT0 205 cl bk (n + 1) 2 [l0, l1, l2, l3, l4] (v0 :: jr a :: st) w = jsh st (jgo w a 9 fun _ => jcl (cl 200 [jr a, v0] w) (fun v w' => jblk jT0 205 cl bk n 5 [l0, l1, l2, l3, l4] (jpush v st) w') (fun E w' => some (.inr E, w'))) := rfl
theorem E205_5 (x : Int) (st : List jV) (l0 l1 l2 l3 l4 : Option jV) (w : jH) : jblk jT0 205 cl bk (n + 1) 5 [l0, l1, l2, l3, l4] (.inl x :: st) w = if x = 0 then jblk jT0 205 cl bk n 10 [l0, l1, l2, l3, l4] st w else jblk jT0 205 cl bk n 8 [l0, l1, l2, l3, l4] st w := rfl
theorem E205_8 (st : List jV) (l0 l1 l2 l3 l4 : Option jV) (w : jH) : jblk jT0 205 cl bk (n + 1) 8 [l0, l1, l2, l3, l4] st w = jblk jT0 205 cl bk n 9 [l0, l1, l2, l3, l4] (.inl 0 :: st) w := rfl
theorem E205_9 (x : Int) (l0 l1 l2 l3 l4 : Option jV) (w : jH) : jblk jT0 205 cl bk (n + 1) 9 [l0, l1, l2, l3, l4] [.inl x] w = if jfits .int x = true then some (.inl (some (.inl x)), w) else none := rfl
theorem E205_10 (x : Int) (st : List jV) (l0 l1 l3 l4 : Option jV) (w : jH) : jblk jT0 205 cl bk (n + 1) 10 [l0, l1, some (.inl x), l3, l4] st w = jblk jT0 205 cl bk n 11 [l0, l1, some (.inl x), l3, l4] (.inl x :: st) w := rfl
theorem E205_11 (x : Int) (st : List jV) (l0 l1 l2 l3 l4 : Option jV) (w : jH) : jblk jT0 205 cl bk (n + 1) 11 [l0, l1, l2, l3, l4] (.inl x :: st) w = if x < 0 then jblk jT0 205 cl bk n 14 [l0, l1, l2, l3, l4] st w else jblk jT0 205 cl bk n 18 [l0, l1, l2, l3, l4] st w := rfl
theorem E205_14 (st : List jV) (l0 l1 l2 l3 l4 : Option jV) (w : jH) : jblk jT0 205 cl bk (n + 1) 14 [l0, l1, l2, l3, l4] st w = jblk jT0 205 cl bk n 15 [l0, l1, l2, l3, l4] (.inl (-1) :: st) w := rfl
theorem E205_15 (st : List jV) (l0 l1 l2 l3 l4 : Option jV) (w : jH) : jblk jT0 205 cl bk (n + 1) 15 [l0, l1, l2, l3, l4] st w = jblk jT0 205 cl bk n 24 [l0, l1, l2, l3, l4] st w := rfl
theorem E205_18 (a : Nat) (st : List jV) (l1 l2 l3 l4 : Option jV) (w : jH) : jblk jT0 205 cl bk (n + 1) 18 [some (jr a), l1, l2, l3, l4] st w = jblk jT0 205 cl bk n 19 [some (jr a), l1, l2, l3, l4] (jr a :: st) w := rfl
theorem E205_19 (x : Int) (st : List jV) (l0 l2 l3 l4 : Option jV) (w : jH) : jblk jT0 205 cl bk (n + 1) 19 [l0, some (.inl x), l2, l3, l4] st w = jblk jT0 205 cl bk n 20 [l0, some (.inl x), l2, l3, l4] (.inl x :: st) w := rfl
theorem E205_20 (x : Int) (st : List jV) (l0 l2 l3 l4 : Option jV) (w : jH) : jblk jT0 205 cl bk (n + 1) 20 [l0, some (.inl x), l2, l3, l4] st w = jblk jT0 205 cl bk n 21 [l0, some (.inl x), l2, l3, l4] (.inl x :: st) w := rfl
theorem E205_21 (a : Nat) (v0 : jV) (v1 : jV) (st : List jV) (l0 l1 l2 l3 l4 : Option jV) (w : jH) : jblk jT0 205 cl bk (n + 1) 21 [l0, l1, l2, l3, l4] (v1 :: v0 :: jr a :: st) w = jsh st (jgo w a 9 fun _ => jcl (cl 191 [jr a, v0, v1] w) (fun v w' => jblk jT0 205 cl bk n 24 [l0, l1, l2, l3, l4] (jpush v st) w') (fun E w' => some (.inr E, w'))) := rfl
theorem E205_24 (x : Int) (st : List jV) (l0 l1 l2 l3 l4 : Option jV) (w : jH) : jblk jT0 205 cl bk (n + 1) 24 [l0, l1, l2, l3, l4] (.inl x :: st) w = jblk jT0 205 cl bk n 25 [l0, l1, l2, some (.inl x), l4] st w := rfl
theorem E205_25 (st : List jV) (l0 l1 l2 l3 l4 : Option jV) (w : jH) : jblk jT0 205 cl bk (n + 1) 25 [l0, l1, l2, l3, l4] st w = jblk jT0 205 cl bk n 26 [l0, l1, l2, l3, l4] (.inl 0 :: st) w := rfl
theorem E205_26 (x : Int) (st : List jV) (l0 l1 l2 l3 l4 : Option jV) (w : jH) : jblk jT0 205 cl bk (n + 1) 26 [l0, l1, l2, l3, l4] (.inl x :: st) w = bk 28 [l0, l1, l2, l3, some (.inl x)] st w := rfl
theorem E205_28 (x : Int) (st : List jV) (l0 l1 l2 l3 : Option jV) (w : jH) : jblk jT0 205 cl bk (n + 1) 28 [l0, l1, l2, l3, some (.inl x)] st w = jblk jT0 205 cl bk n 30 [l0, l1, l2, l3, some (.inl x)] (.inl x :: st) w := rfl
theorem E205_30 (x : Int) (st : List jV) (l0 l1 l3 l4 : Option jV) (w : jH) : jblk jT0 205 cl bk (n + 1) 30 [l0, l1, some (.inl x), l3, l4] st w = jblk jT0 205 cl bk n 31 [l0, l1, some (.inl x), l3, l4] (.inl x :: st) w := rfl
theorem E205_31 (x : Int) (y : Int) (st : List jV) (l0 l1 l2 l3 l4 : Option jV) (w : jH) : jblk jT0 205 cl bk (n + 1) 31 [l0, l1, l2, l3, l4] (.inl y :: .inl x :: st) w = if x < y then jblk jT0 205 cl bk n 34 [l0, l1, l2, l3, l4] st w else jblk jT0 205 cl bk n 51 [l0, l1, l2, l3, l4] st w := rfl
theorem E205_34 (x : Int) (st : List jV) (l0 l1 l2 l4 : Option jV) (w : jH) : jblk jT0 205 cl bk (n + 1) 34 [l0, l1, l2, some (.inl x), l4] st w = jblk jT0 205 cl bk n 35 [l0, l1, l2, some (.inl x), l4] (.inl x :: st) w := rfl
theorem E205_35 (x : Int) (st : List jV) (l0 l1 l2 l3 l4 : Option jV) (w : jH) : jblk jT0 205 cl bk (n + 1) 35 [l0, l1, l2, l3, l4] (.inl x :: st) w = if x < 0 then jblk jT0 205 cl bk n 51 [l0, l1, l2, l3, l4] st w else jblk jT0 205 cl bk n 38 [l0, l1, l2, l3, l4] st w := rfl
theorem E205_38 (a : Nat) (st : List jV) (l1 l2 l3 l4 : Option jV) (w : jH) : jblk jT0 205 cl bk (n + 1) 38 [some (jr a), l1, l2, l3, l4] st w = jblk jT0 205 cl bk n 39 [some (jr a), l1, l2, l3, l4] (jr a :: st) w := rfl
theorem E205_39 (x : Int) (st : List jV) (l0 l2 l3 l4 : Option jV) (w : jH) : jblk jT0 205 cl bk (n + 1) 39 [l0, some (.inl x), l2, l3, l4] st w = jblk jT0 205 cl bk n 40 [l0, some (.inl x), l2, l3, l4] (.inl x :: st) w := rfl
theorem E205_40 (x : Int) (st : List jV) (l0 l1 l2 l4 : Option jV) (w : jH) : jblk jT0 205 cl bk (n + 1) 40 [l0, l1, l2, some (.inl x), l4] st w = jblk jT0 205 cl bk n 41 [l0, l1, l2, some (.inl x), l4] (.inl x :: st) w := rfl
theorem E205_41 (a : Nat) (v0 : jV) (v1 : jV) (st : List jV) (l0 l1 l2 l3 l4 : Option jV) (w : jH) : jblk jT0 205 cl bk (n + 1) 41 [l0, l1, l2, l3, l4] (v1 :: v0 :: jr a :: st) w = jsh st (jgo w a 9 fun _ => jcl (cl 191 [jr a, v0, v1] w) (fun v w' => jblk jT0 205 cl bk n 44 [l0, l1, l2, l3, l4] (jpush v st) w') (fun E w' => some (.inr E, w'))) := rfl
theorem E205_44 (x : Int) (st : List jV) (l0 l1 l2 l3 l4 : Option jV) (w : jH) : jblk jT0 205 cl bk (n + 1) 44 [l0, l1, l2, l3, l4] (.inl x :: st) w = jblk jT0 205 cl bk n 45 [l0, l1, l2, some (.inl x), l4] st w := rfl
theorem E205_45 (x : Int) (st : List jV) (l0 l1 l2 l3 : Option jV) (w : jH) : jblk jT0 205 cl bk (n + 1) 45 [l0, l1, l2, l3, some (.inl x)] st w = jblk jT0 205 cl bk n 48 [l0, l1, l2, l3, some (.inl (jw (x + 1)))] st w := rfl
theorem E205_48 (st : List jV) (l0 l1 l2 l3 l4 : Option jV) (w : jH) : jblk jT0 205 cl bk (n + 1) 48 [l0, l1, l2, l3, l4] st w = bk 28 [l0, l1, l2, l3, l4] st w := rfl
theorem E205_51 (a : Nat) (st : List jV) (l1 l2 l3 l4 : Option jV) (w : jH) : jblk jT0 205 cl bk (n + 1) 51 [some (jr a), l1, l2, l3, l4] st w = jblk jT0 205 cl bk n 52 [some (jr a), l1, l2, l3, l4] (jr a :: st) w := rfl
theorem E205_52 (x : Int) (st : List jV) (l0 l1 l2 l4 : Option jV) (w : jH) : jblk jT0 205 cl bk (n + 1) 52 [l0, l1, l2, some (.inl x), l4] st w = jblk jT0 205 cl bk n 53 [l0, l1, l2, some (.inl x), l4] (.inl x :: st) w := rfl
theorem E205_53 (x : Int) (st : List jV) (l0 l1 l2 l3 l4 : Option jV) (w : jH) : jblk jT0 205 cl bk (n + 1) 53 [l0, l1, l2, l3, l4] (.inl x :: st) w = if x < 0 then jblk jT0 205 cl bk n 56 [l0, l1, l2, l3, l4] st w else jblk jT0 205 cl bk n 60 [l0, l1, l2, l3, l4] st w := rfl
theorem E205_56 (st : List jV) (l0 l1 l2 l3 l4 : Option jV) (w : jH) : jblk jT0 205 cl bk (n + 1) 56 [l0, l1, l2, l3, l4] st w = jblk jT0 205 cl bk n 57 [l0, l1, l2, l3, l4] (.inl 2 :: st) w := rfl
theorem E205_57 (st : List jV) (l0 l1 l2 l3 l4 : Option jV) (w : jH) : jblk jT0 205 cl bk (n + 1) 57 [l0, l1, l2, l3, l4] st w = jblk jT0 205 cl bk n 61 [l0, l1, l2, l3, l4] st w := rfl
theorem E205_60 (st : List jV) (l0 l1 l2 l3 l4 : Option jV) (w : jH) : jblk jT0 205 cl bk (n + 1) 60 [l0, l1, l2, l3, l4] st w = jblk jT0 205 cl bk n 61 [l0, l1, l2, l3, l4] (.inl 0 :: st) w := rfl
theorem E205_61 (a : Nat) (v0 : jV) (st : List jV) (l0 l1 l2 l3 l4 : Option jV) (w : jH) : jblk jT0 205 cl bk (n + 1) 61 [l0, l1, l2, l3, l4] (v0 :: jr a :: st) w = jsh st (jgo w a 9 fun _ => jcl (cl 178 [jr a, v0] w) (fun v w' => jblk jT0 205 cl bk n 64 [l0, l1, l2, l3, l4] (jpush v st) w') (fun E w' => some (.inr E, w'))) := rfl
theorem E205_64 (x : Int) (st : List jV) (l0 l1 l2 l3 l4 : Option jV) (w : jH) : jblk jT0 205 cl bk (n + 1) 64 [l0, l1, l2, l3, l4] (.inl x :: st) w = if x = 0 then jblk jT0 205 cl bk n 71 [l0, l1, l2, l3, l4] st w else jblk jT0 205 cl bk n 67 [l0, l1, l2, l3, l4] st w := rfl
theorem E205_67 (st : List jV) (l0 l1 l2 l3 l4 : Option jV) (w : jH) : jblk jT0 205 cl bk (n + 1) 67 [l0, l1, l2, l3, l4] st w = jblk jT0 205 cl bk n 68 [l0, l1, l2, l3, l4] (.inl 0 :: st) w := rfl
theorem E205_68 (st : List jV) (l0 l1 l2 l3 l4 : Option jV) (w : jH) : jblk jT0 205 cl bk (n + 1) 68 [l0, l1, l2, l3, l4] st w = jblk jT0 205 cl bk n 72 [l0, l1, l2, l3, l4] st w := rfl
theorem E205_71 (x : Int) (st : List jV) (l0 l1 l2 l4 : Option jV) (w : jH) : jblk jT0 205 cl bk (n + 1) 71 [l0, l1, l2, some (.inl x), l4] st w = jblk jT0 205 cl bk n 72 [l0, l1, l2, some (.inl x), l4] (.inl x :: st) w := rfl
theorem E205_72 (x : Int) (l0 l1 l2 l3 l4 : Option jV) (w : jH) : jblk jT0 205 cl bk (n + 1) 72 [l0, l1, l2, l3, l4] [.inl x] w = if jfits .int x = true then some (.inl (some (.inl x)), w) else none := rfl
theorem E206_0 (st : List jV) (l0 l1 l2 l3 : Option jV) (w : jH) : jblk jT0 206 cl bk (n + 1) 0 [l0, l1, l2, l3] st w = jblk jT0 206 cl bk n 1 [l0, l1, l2, l3] (.inl 0 :: st) w := rfl
theorem E206_1 (x : Int) (st : List jV) (l0 l1 l2 l3 : Option jV) (w : jH) : jblk jT0 206 cl bk (n + 1) 1 [l0, l1, l2, l3] (.inl x :: st) w = jblk jT0 206 cl bk n 2 [l0, l1, some (.inl x), l3] st w := rfl
theorem E206_2 (a : Nat) (st : List jV) (l1 l2 l3 : Option jV) (w : jH) : jblk jT0 206 cl bk (n + 1) 2 [some (jr a), l1, l2, l3] st w = jblk jT0 206 cl bk n 3 [some (jr a), l1, l2, l3] (jr a :: st) w := rfl
theorem E206_3 (x : Int) (st : List jV) (l0 l2 l3 : Option jV) (w : jH) : jblk jT0 206 cl bk (n + 1) 3 [l0, some (.inl x), l2, l3] st w = jblk jT0 206 cl bk n 4 [l0, some (.inl x), l2, l3] (.inl x :: st) w := rfl
theorem E206_4 (a : Nat) (v0 : jV) (st : List jV) (l0 l1 l2 l3 : Option jV) (w : jH) : jblk jT0 206 cl bk (n + 1) 4 [l0, l1, l2, l3] (v0 :: jr a :: st) w = jsh st (jgo w a 9 fun _ => jcl (cl 186 [jr a, v0] w) (fun v w' => jblk jT0 206 cl bk n 7 [l0, l1, l2, l3] (jpush v st) w') (fun E w' => some (.inr E, w'))) := rfl
theorem E206_7 (x : Int) (st : List jV) (l0 l1 l2 l3 : Option jV) (w : jH) : jblk jT0 206 cl bk (n + 1) 7 [l0, l1, l2, l3] (.inl x :: st) w = bk 8 [l0, l1, l2, some (.inl x)] st w := rfl
theorem E206_8 (x : Int) (st : List jV) (l0 l1 l2 : Option jV) (w : jH) : jblk jT0 206 cl bk (n + 1) 8 [l0, l1, l2, some (.inl x)] st w = jblk jT0 206 cl bk n 9 [l0, l1, l2, some (.inl x)] (.inl x :: st) w := rfl
theorem E206_9 (x : Int) (st : List jV) (l0 l1 l2 l3 : Option jV) (w : jH) : jblk jT0 206 cl bk (n + 1) 9 [l0, l1, l2, l3] (.inl x :: st) w = if x < 0 then jblk jT0 206 cl bk n 24 [l0, l1, l2, l3] st w else jblk jT0 206 cl bk n 12 [l0, l1, l2, l3] st w := rfl
theorem E206_12 (x : Int) (st : List jV) (l0 l1 l3 : Option jV) (w : jH) : jblk jT0 206 cl bk (n + 1) 12 [l0, l1, some (.inl x), l3] st w = jblk jT0 206 cl bk n 15 [l0, l1, some (.inl (jw (x + 1))), l3] st w := rfl
theorem E206_15 (a : Nat) (st : List jV) (l1 l2 l3 : Option jV) (w : jH) : jblk jT0 206 cl bk (n + 1) 15 [some (jr a), l1, l2, l3] st w = jblk jT0 206 cl bk n 16 [some (jr a), l1, l2, l3] (jr a :: st) w := rfl
theorem E206_16 (x : Int) (st : List jV) (l0 l1 l2 : Option jV) (w : jH) : jblk jT0 206 cl bk (n + 1) 16 [l0, l1, l2, some (.inl x)] st w = jblk jT0 206 cl bk n 17 [l0, l1, l2, some (.inl x)] (.inl x :: st) w := rfl
theorem E206_17 (a : Nat) (v0 : jV) (st : List jV) (l0 l1 l2 l3 : Option jV) (w : jH) : jblk jT0 206 cl bk (n + 1) 17 [l0, l1, l2, l3] (v0 :: jr a :: st) w = jsh st (jgo w a 9 fun _ => jcl (cl 186 [jr a, v0] w) (fun v w' => jblk jT0 206 cl bk n 20 [l0, l1, l2, l3] (jpush v st) w') (fun E w' => some (.inr E, w'))) := rfl
theorem E206_20 (x : Int) (st : List jV) (l0 l1 l2 l3 : Option jV) (w : jH) : jblk jT0 206 cl bk (n + 1) 20 [l0, l1, l2, l3] (.inl x :: st) w = jblk jT0 206 cl bk n 21 [l0, l1, l2, some (.inl x)] st w := rfl
theorem E206_21 (st : List jV) (l0 l1 l2 l3 : Option jV) (w : jH) : jblk jT0 206 cl bk (n + 1) 21 [l0, l1, l2, l3] st w = bk 8 [l0, l1, l2, l3] st w := rfl
theorem E206_24 (x : Int) (st : List jV) (l0 l1 l3 : Option jV) (w : jH) : jblk jT0 206 cl bk (n + 1) 24 [l0, l1, some (.inl x), l3] st w = jblk jT0 206 cl bk n 25 [l0, l1, some (.inl x), l3] (.inl x :: st) w := rfl
theorem E206_25 (x : Int) (l0 l1 l2 l3 : Option jV) (w : jH) : jblk jT0 206 cl bk (n + 1) 25 [l0, l1, l2, l3] [.inl x] w = if jfits .int x = true then some (.inl (some (.inl x)), w) else none := rfl
end
theorem M197 (d : Nat) (r0 : Nat) (w : jH) : jme jT0 jMx (d + 1) 197 [jr r0] w = jblk jT0 197 (jme jT0 jMx d) (jlp jT0 197 (jme jT0 jMx d) 99999) 4000 0 [some (jr r0)] [] w := (show _ = jlp jT0 197 (jme jT0 jMx d) 100000 0 [some (jr r0)] [] w from rfl).trans jlp_s
theorem M198 (d : Nat) (r0 : Nat) (w : jH) : jme jT0 jMx (d + 1) 198 [jr r0] w = jblk jT0 198 (jme jT0 jMx d) (jlp jT0 198 (jme jT0 jMx d) 99999) 4000 0 [some (jr r0), none, none] [] w := (show _ = jlp jT0 198 (jme jT0 jMx d) 100000 0 [some (jr r0), none, none] [] w from rfl).trans jlp_s
theorem M199 (d : Nat) (r0 : Nat) (w : jH) : jme jT0 jMx (d + 1) 199 [jr r0] w = jblk jT0 199 (jme jT0 jMx d) (jlp jT0 199 (jme jT0 jMx d) 99999) 4000 0 [some (jr r0)] [] w := (show _ = jlp jT0 199 (jme jT0 jMx d) 100000 0 [some (jr r0)] [] w from rfl).trans jlp_s
theorem M200 (d : Nat) (r0 : Nat) (a1 : Int) (w : jH) : jme jT0 jMx (d + 1) 200 [jr r0, .inl a1] w = jblk jT0 200 (jme jT0 jMx d) (jlp jT0 200 (jme jT0 jMx d) 99999) 4000 0 [some (jr r0), some (.inl a1)] [] w := (show _ = jlp jT0 200 (jme jT0 jMx d) 100000 0 [some (jr r0), some (.inl a1)] [] w from rfl).trans jlp_s
theorem M201 (d : Nat) (r0 : Nat) (a1 : Int) (w : jH) : jme jT0 jMx (d + 1) 201 [jr r0, .inl a1] w = jblk jT0 201 (jme jT0 jMx d) (jlp jT0 201 (jme jT0 jMx d) 99999) 4000 0 [some (jr r0), some (.inl a1)] [] w := (show _ = jlp jT0 201 (jme jT0 jMx d) 100000 0 [some (jr r0), some (.inl a1)] [] w from rfl).trans jlp_s
theorem M202 (d : Nat) (r0 : Nat) (a1 : Int) (w : jH) : jme jT0 jMx (d + 1) 202 [jr r0, .inl a1] w = jblk jT0 202 (jme jT0 jMx d) (jlp jT0 202 (jme jT0 jMx d) 99999) 4000 0 [some (jr r0), some (.inl a1)] [] w := (show _ = jlp jT0 202 (jme jT0 jMx d) 100000 0 [some (jr r0), some (.inl a1)] [] w from rfl).trans jlp_s
theorem M203 (d : Nat) (r0 : Nat) (a1 : Int) (w : jH) : jme jT0 jMx (d + 1) 203 [jr r0, .inl a1] w = jblk jT0 203 (jme jT0 jMx d) (jlp jT0 203 (jme jT0 jMx d) 99999) 4000 0 [some (jr r0), some (.inl a1)] [] w := (show _ = jlp jT0 203 (jme jT0 jMx d) 100000 0 [some (jr r0), some (.inl a1)] [] w from rfl).trans jlp_s
theorem M204 (d : Nat) (r0 : Nat) (a1 : Int) (w : jH) : jme jT0 jMx (d + 1) 204 [jr r0, .inl a1] w = jblk jT0 204 (jme jT0 jMx d) (jlp jT0 204 (jme jT0 jMx d) 99999) 4000 0 [some (jr r0), some (.inl a1), none, none] [] w := (show _ = jlp jT0 204 (jme jT0 jMx d) 100000 0 [some (jr r0), some (.inl a1), none, none] [] w from rfl).trans jlp_s
theorem M205 (d : Nat) (r0 : Nat) (a1 : Int) (a2 : Int) (w : jH) : jme jT0 jMx (d + 1) 205 [jr r0, .inl a1, .inl a2] w = jblk jT0 205 (jme jT0 jMx d) (jlp jT0 205 (jme jT0 jMx d) 99999) 4000 0 [some (jr r0), some (.inl a1), some (.inl a2), none, none] [] w := (show _ = jlp jT0 205 (jme jT0 jMx d) 100000 0 [some (jr r0), some (.inl a1), some (.inl a2), none, none] [] w from rfl).trans jlp_s
theorem M206 (d : Nat) (r0 : Nat) (a1 : Int) (w : jH) : jme jT0 jMx (d + 1) 206 [jr r0, .inl a1] w = jblk jT0 206 (jme jT0 jMx d) (jlp jT0 206 (jme jT0 jMx d) 99999) 4000 0 [some (jr r0), some (.inl a1), none, none] [] w := (show _ = jlp jT0 206 (jme jT0 jMx d) 100000 0 [some (jr r0), some (.inl a1), none, none] [] w from rfl).trans jlp_s
def f_Mod_peopleCount (m : jMem) : Option (Int × jMem) := oix (0 : Int) 138 (some ((mset m 147 8 0) 148 (0 : Int).toNat, mset m 147 8 0))
section
variable {cf : jCf} {dv : UInt64}
set_option maxRecDepth 20000 in
set_option maxHeartbeats 4000000 in
theorem X197 (d : Nat) (m : jMem) (k : jM) : jme jT0 jMx (d + 1) 197 [jr (jn cf + 147)] (hp cf dv m, k) = lW cf dv k ijI (f_Mod_peopleCount m) := by
  simp only [M197, E197_0, E197_1, E197_2, E197_5, E197_6, E197_9, E197_10, E197_11, ai_148, gf_147_0, pf_147_8, jsh_n, jsh_I, jsh_R, jsh_II, jsh_IR, jsh_RI, jsh_RR, jsh_III, jsh_IIR, jsh_IRI, jsh_IRR, jsh_RII, jsh_RIR, jsh_RRI, jsh_RRR, jsh_IIII, jsh_IIIR, jsh_IIRI, jsh_IIRR, jsh_IRII, jsh_IRIR, jsh_IRRI, jsh_IRRR, jsh_RIII, jsh_RIIR, jsh_RIRI, jsh_RIRR, jsh_RRII, jsh_RRIR, jsh_RRRI, jsh_RRRR, jthr_hp, jc_l0, jc_lW, jc_lX, jc_lXW, jc_lVW, jc_lVX, jpush_n, jpush_s, obt_0, obt_1, och_0, och_32, och_100, och_115, och_104, och_33, och_43, och_60, jint, jbit, jchr, ijI, ijR, ijD, ijF, ↓reduceIte, Int.reduceEq, Int.reduceLT, reduceCtorEq, lW_bind, lW_ite, lW_none, lW_oix, lW_obt, lW_och, lW_sel, lW_oel, lW_some, f_Mod_peopleCount]
end
def f_Mod_livingL : Nat → jMem → Int → Int → Option Int
  | 0, _, _, _ => none
  | N + 1, m, a1, a2 => oix (0 : Int) 138 (if a2 < (m 148 (0 : Int).toNat) then (f_Mod_lives m a2).bind fun x1 => if x1 = 0 then f_Mod_livingL N m (jw (a1 + 0)) (jw (a2 + 1)) else f_Mod_livingL N m (jw (a1 + 1)) (jw (a2 + 1)) else some a1)
def f_Mod_living (m : jMem) : Option Int := f_Mod_livingL 99999 m 0 0
section
variable {cf : jCf} {dv : UInt64}
set_option maxRecDepth 20000 in
set_option maxHeartbeats 4000000 in
theorem X198L (d : Nat) : ∀ (N : Nat) (m : jMem) (k : jM), (∀ (a1 a2 : Int), jlp jT0 198 (jme jT0 jMx (d + 1)) N 4 [some (jr (jn cf + 147)), some (.inl a1), some (.inl a2)] [] (hp cf dv m, k) = l0 cf dv m k ijI (f_Mod_livingL N m a1 a2)) := by
  intro N
  induction N with
  | zero => intro m k; exact by intros; rfl
  | succ N ih =>
    intro m k
    intros
    rw [jlp_s]
    simp only [E198_0, E198_1, E198_2, E198_3, E198_4, E198_5, E198_6, E198_9, E198_10, E198_11, E198_14, E198_15, E198_16, E198_17, E198_20, E198_23, E198_24, E198_27, E198_28, E198_29, E198_30, E198_33, E198_36, E198_37, ai_148, gf_147_0, X187, go_147, jsh_n, jsh_I, jsh_R, jsh_II, jsh_IR, jsh_RI, jsh_RR, jsh_III, jsh_IIR, jsh_IRI, jsh_IRR, jsh_RII, jsh_RIR, jsh_RRI, jsh_RRR, jsh_IIII, jsh_IIIR, jsh_IIRI, jsh_IIRR, jsh_IRII, jsh_IRIR, jsh_IRRI, jsh_IRRR, jsh_RIII, jsh_RIIR, jsh_RIRI, jsh_RIRR, jsh_RRII, jsh_RRIR, jsh_RRRI, jsh_RRRR, jthr_hp, jc_l0, jc_lW, jc_lX, jc_lXW, jc_lVW, jc_lVX, jpush_n, jpush_s, obt_0, obt_1, och_0, och_32, och_100, och_115, och_104, och_33, och_43, och_60, jint, jbit, jchr, ijI, ijR, ijD, ijF, ↓reduceIte, Int.reduceEq, Int.reduceLT, reduceCtorEq, l0_bind, l0_ite, l0_none, l0_oix, l0_obt, l0_och, l0_sel, l0_oel, l0_some, f_Mod_livingL, ih]
set_option maxRecDepth 20000 in
set_option maxHeartbeats 4000000 in
theorem X198 (d : Nat) (m : jMem) (k : jM) : jme jT0 jMx (d + 2) 198 [jr (jn cf + 147)] (hp cf dv m, k) = l0 cf dv m k ijI (f_Mod_living m) := by
  simp only [M198, E198_0, E198_1, E198_2, E198_3, E198_4, E198_5, E198_6, E198_9, E198_10, E198_11, E198_14, E198_15, E198_16, E198_17, E198_20, E198_23, E198_24, E198_27, E198_28, E198_29, E198_30, E198_33, E198_36, E198_37, ai_148, gf_147_0, X187, go_147, jsh_n, jsh_I, jsh_R, jsh_II, jsh_IR, jsh_RI, jsh_RR, jsh_III, jsh_IIR, jsh_IRI, jsh_IRR, jsh_RII, jsh_RIR, jsh_RRI, jsh_RRR, jsh_IIII, jsh_IIIR, jsh_IIRI, jsh_IIRR, jsh_IRII, jsh_IRIR, jsh_IRRI, jsh_IRRR, jsh_RIII, jsh_RIIR, jsh_RIRI, jsh_RIRR, jsh_RRII, jsh_RRIR, jsh_RRRI, jsh_RRRR, jthr_hp, jc_l0, jc_lW, jc_lX, jc_lXW, jc_lVW, jc_lVX, jpush_n, jpush_s, obt_0, obt_1, och_0, och_32, och_100, och_115, och_104, och_33, och_43, och_60, jint, jbit, jchr, ijI, ijR, ijD, ijF, ↓reduceIte, Int.reduceEq, Int.reduceLT, reduceCtorEq, l0_bind, l0_ite, l0_none, l0_oix, l0_obt, l0_och, l0_sel, l0_oel, l0_some, f_Mod_living, X198L]
end
def f_Mod_livingCount (m : jMem) : Option (Int × jMem) := (f_Mod_living (mset m 147 8 0)).bind fun x1 => some (x1, mset m 147 8 0)
section
variable {cf : jCf} {dv : UInt64}
set_option maxRecDepth 20000 in
set_option maxHeartbeats 4000000 in
theorem X199 (d : Nat) (m : jMem) (k : jM) : jme jT0 jMx (d + 3) 199 [jr (jn cf + 147)] (hp cf dv m, k) = lW cf dv k ijI (f_Mod_livingCount m) := by
  simp only [M199, E199_0, E199_1, E199_2, E199_5, E199_6, E199_9, pf_147_8, X198, go_147, jsh_n, jsh_I, jsh_R, jsh_II, jsh_IR, jsh_RI, jsh_RR, jsh_III, jsh_IIR, jsh_IRI, jsh_IRR, jsh_RII, jsh_RIR, jsh_RRI, jsh_RRR, jsh_IIII, jsh_IIIR, jsh_IIRI, jsh_IIRR, jsh_IRII, jsh_IRIR, jsh_IRRI, jsh_IRRR, jsh_RIII, jsh_RIIR, jsh_RIRI, jsh_RIRR, jsh_RRII, jsh_RRIR, jsh_RRRI, jsh_RRRR, jthr_hp, jc_l0, jc_lW, jc_lX, jc_lXW, jc_lVW, jc_lVX, jpush_n, jpush_s, obt_0, obt_1, och_0, och_32, och_100, och_115, och_104, och_33, och_43, och_60, jint, jbit, jchr, ijI, ijR, ijD, ijF, ↓reduceIte, Int.reduceEq, Int.reduceLT, reduceCtorEq, lW_bind, lW_ite, lW_none, lW_oix, lW_obt, lW_och, lW_sel, lW_oel, lW_some, f_Mod_livingCount]
end
def f_Mod_isNobody (m : jMem) (a1 : Int) : Option (Int × jMem) := (f_Mod_isPerson m a1).bind fun x1 => if x1 = 0 then (f_Mod_fails m 1).bind fun qx2 => obt qx2.1 (some (qx2.1, qx2.2)) else (f_Mod_fails m 0).bind fun qx3 => obt qx3.1 (some (qx3.1, qx3.2))
section
variable {cf : jCf} {dv : UInt64}
set_option maxRecDepth 20000 in
set_option maxHeartbeats 4000000 in
theorem X200 (d : Nat) (a1 : Int) (m : jMem) (k : jM) : jme jT0 jMx (d + 3) 200 [jr (jn cf + 147), .inl a1] (hp cf dv m, k) = lW cf dv k ijI (f_Mod_isNobody m a1) := by
  simp only [M200, E200_0, E200_1, E200_2, E200_3, E200_6, E200_9, E200_10, E200_13, E200_14, E200_17, X178, X184, go_147, jsh_n, jsh_I, jsh_R, jsh_II, jsh_IR, jsh_RI, jsh_RR, jsh_III, jsh_IIR, jsh_IRI, jsh_IRR, jsh_RII, jsh_RIR, jsh_RRI, jsh_RRR, jsh_IIII, jsh_IIIR, jsh_IIRI, jsh_IIRR, jsh_IRII, jsh_IRIR, jsh_IRRI, jsh_IRRR, jsh_RIII, jsh_RIIR, jsh_RIRI, jsh_RIRR, jsh_RRII, jsh_RRIR, jsh_RRRI, jsh_RRRR, jthr_hp, jc_l0, jc_lW, jc_lX, jc_lXW, jc_lVW, jc_lVX, jpush_n, jpush_s, obt_0, obt_1, och_0, och_32, och_100, och_115, och_104, och_33, och_43, och_60, jint, jbit, jchr, ijI, ijR, ijD, ijF, ↓reduceIte, Int.reduceEq, Int.reduceLT, reduceCtorEq, lW_bind, lW_ite, lW_none, lW_oix, lW_obt, lW_och, lW_sel, lW_oel, lW_some, f_Mod_isNobody]
end
def f_Mod_isAlive (m : jMem) (a1 : Int) : Option (Int × jMem) := (f_Mod_isNobody m a1).bind fun qx1 => if qx1.1 = 0 then (f_Mod_lives qx1.2 a1).bind fun x2 => if x2 = 0 then some (0, qx1.2) else some (1, qx1.2) else some (0, qx1.2)
section
variable {cf : jCf} {dv : UInt64}
set_option maxRecDepth 20000 in
set_option maxHeartbeats 4000000 in
theorem X201 (d : Nat) (a1 : Int) (m : jMem) (k : jM) : jme jT0 jMx (d + 4) 201 [jr (jn cf + 147), .inl a1] (hp cf dv m, k) = lW cf dv k ijI (f_Mod_isAlive m a1) := by
  simp only [M201, E201_0, E201_1, E201_2, E201_5, E201_8, E201_9, E201_10, E201_13, E201_16, E201_17, E201_20, E201_21, X187, X200, go_147, jsh_n, jsh_I, jsh_R, jsh_II, jsh_IR, jsh_RI, jsh_RR, jsh_III, jsh_IIR, jsh_IRI, jsh_IRR, jsh_RII, jsh_RIR, jsh_RRI, jsh_RRR, jsh_IIII, jsh_IIIR, jsh_IIRI, jsh_IIRR, jsh_IRII, jsh_IRIR, jsh_IRRI, jsh_IRRR, jsh_RIII, jsh_RIIR, jsh_RIRI, jsh_RIRR, jsh_RRII, jsh_RRIR, jsh_RRRI, jsh_RRRR, jthr_hp, jc_l0, jc_lW, jc_lX, jc_lXW, jc_lVW, jc_lVX, jpush_n, jpush_s, obt_0, obt_1, och_0, och_32, och_100, och_115, och_104, och_33, och_43, och_60, jint, jbit, jchr, ijI, ijR, ijD, ijF, ↓reduceIte, Int.reduceEq, Int.reduceLT, reduceCtorEq, lW_bind, lW_ite, lW_none, lW_oix, lW_obt, lW_och, lW_sel, lW_oel, lW_some, f_Mod_isAlive]
end
def f_Mod_isFounder (m : jMem) (a1 : Int) : Option (Int × jMem) := (f_Mod_isNobody m a1).bind fun qx1 => if qx1.1 = 0 then (f_Mod_parent qx1.2 a1).bind fun x2 => if x2 < 0 then some (1, qx1.2) else some (0, qx1.2) else some (0, qx1.2)
section
variable {cf : jCf} {dv : UInt64}
set_option maxRecDepth 20000 in
set_option maxHeartbeats 4000000 in
theorem X202 (d : Nat) (a1 : Int) (m : jMem) (k : jM) : jme jT0 jMx (d + 4) 202 [jr (jn cf + 147), .inl a1] (hp cf dv m, k) = lW cf dv k ijI (f_Mod_isFounder m a1) := by
  simp only [M202, E202_0, E202_1, E202_2, E202_5, E202_8, E202_9, E202_10, E202_13, E202_16, E202_17, E202_20, E202_21, X186, X200, go_147, jsh_n, jsh_I, jsh_R, jsh_II, jsh_IR, jsh_RI, jsh_RR, jsh_III, jsh_IIR, jsh_IRI, jsh_IRR, jsh_RII, jsh_RIR, jsh_RRI, jsh_RRR, jsh_IIII, jsh_IIIR, jsh_IIRI, jsh_IIRR, jsh_IRII, jsh_IRIR, jsh_IRRI, jsh_IRRR, jsh_RIII, jsh_RIIR, jsh_RIRI, jsh_RIRR, jsh_RRII, jsh_RRIR, jsh_RRRI, jsh_RRRR, jthr_hp, jc_l0, jc_lW, jc_lX, jc_lXW, jc_lVW, jc_lVX, jpush_n, jpush_s, obt_0, obt_1, och_0, och_32, och_100, och_115, och_104, och_33, och_43, och_60, jint, jbit, jchr, ijI, ijR, ijD, ijF, ↓reduceIte, Int.reduceEq, Int.reduceLT, reduceCtorEq, lW_bind, lW_ite, lW_none, lW_oix, lW_obt, lW_och, lW_sel, lW_oel, lW_some, f_Mod_isFounder]
end
def f_Mod_parentOf (m : jMem) (a1 : Int) : Option (Int × jMem) := (f_Mod_isPerson m a1).bind fun x1 => if x1 = 0 then (f_Mod_fails m 1).bind fun qx7 => if qx7.1 = 0 then (f_Mod_parent qx7.2 a1).bind fun x8 => some (x8, qx7.2) else some (0, qx7.2) else (f_Mod_parent m a1).bind fun x2 => if x2 < 0 then (f_Mod_fails m 2).bind fun qx5 => if qx5.1 = 0 then (f_Mod_parent qx5.2 a1).bind fun x6 => some (x6, qx5.2) else some (0, qx5.2) else (f_Mod_fails m 0).bind fun qx3 => if qx3.1 = 0 then (f_Mod_parent qx3.2 a1).bind fun x4 => some (x4, qx3.2) else some (0, qx3.2)
section
variable {cf : jCf} {dv : UInt64}
set_option maxRecDepth 20000 in
set_option maxHeartbeats 4000000 in
theorem X203 (d : Nat) (a1 : Int) (m : jMem) (k : jM) : jme jT0 jMx (d + 3) 203 [jr (jn cf + 147), .inl a1] (hp cf dv m, k) = lW cf dv k ijI (f_Mod_parentOf m a1) := by
  simp only [M203, E203_0, E203_1, E203_2, E203_3, E203_6, E203_9, E203_10, E203_13, E203_14, E203_15, E203_18, E203_21, E203_22, E203_25, E203_26, E203_29, E203_32, E203_33, E203_36, E203_37, E203_38, E203_41, X178, X184, X186, go_147, jsh_n, jsh_I, jsh_R, jsh_II, jsh_IR, jsh_RI, jsh_RR, jsh_III, jsh_IIR, jsh_IRI, jsh_IRR, jsh_RII, jsh_RIR, jsh_RRI, jsh_RRR, jsh_IIII, jsh_IIIR, jsh_IIRI, jsh_IIRR, jsh_IRII, jsh_IRIR, jsh_IRRI, jsh_IRRR, jsh_RIII, jsh_RIIR, jsh_RIRI, jsh_RIRR, jsh_RRII, jsh_RRIR, jsh_RRRI, jsh_RRRR, jthr_hp, jc_l0, jc_lW, jc_lX, jc_lXW, jc_lVW, jc_lVX, jpush_n, jpush_s, obt_0, obt_1, och_0, och_32, och_100, och_115, och_104, och_33, och_43, och_60, jint, jbit, jchr, ijI, ijR, ijD, ijF, ↓reduceIte, Int.reduceEq, Int.reduceLT, reduceCtorEq, lW_bind, lW_ite, lW_none, lW_oix, lW_obt, lW_och, lW_sel, lW_oel, lW_some, f_Mod_parentOf]
end
def f_Mod_childCountL : Nat → jMem → Int → Int → Int → Option (Int × jMem)
  | 0, _, _, _, _ => none
  | N + 1, m, a1, a2, a3 => oix (0 : Int) 138 (if a3 < (m 148 (0 : Int).toNat) then (f_Mod_parent m a3).bind fun x2 => if x2 = a1 then f_Mod_childCountL N m a1 (jw (a2 + 1)) (jw (a3 + 1)) else f_Mod_childCountL N m a1 (jw (a2 + 0)) (jw (a3 + 1)) else some (a2, m))
def f_Mod_childCount (m : jMem) (a1 : Int) : Option (Int × jMem) := (f_Mod_isNobody m a1).bind fun qx1 => if qx1.1 = 0 then f_Mod_childCountL 99999 qx1.2 a1 0 0 else some (0, qx1.2)
section
variable {cf : jCf} {dv : UInt64}
set_option maxRecDepth 20000 in
set_option maxHeartbeats 4000000 in
theorem X204L (d : Nat) : ∀ (N : Nat) (m : jMem) (k : jM), (∀ (a1 a2 a3 : Int), jlp jT0 204 (jme jT0 jMx (d + 3)) N 14 [some (jr (jn cf + 147)), some (.inl a1), some (.inl a2), some (.inl a3)] [] (hp cf dv m, k) = lW cf dv k ijI (f_Mod_childCountL N m a1 a2 a3)) := by
  intro N
  induction N with
  | zero => intro m k; exact by intros; rfl
  | succ N ih =>
    intro m k
    intros
    rw [jlp_s]
    simp only [E204_0, E204_1, E204_2, E204_5, E204_8, E204_9, E204_10, E204_11, E204_12, E204_13, E204_14, E204_15, E204_16, E204_19, E204_20, E204_21, E204_24, E204_25, E204_26, E204_27, E204_30, E204_31, E204_34, E204_35, E204_38, E204_39, E204_40, E204_41, E204_44, E204_47, E204_48, ai_148, gf_147_0, X186, X200, go_147, jsh_n, jsh_I, jsh_R, jsh_II, jsh_IR, jsh_RI, jsh_RR, jsh_III, jsh_IIR, jsh_IRI, jsh_IRR, jsh_RII, jsh_RIR, jsh_RRI, jsh_RRR, jsh_IIII, jsh_IIIR, jsh_IIRI, jsh_IIRR, jsh_IRII, jsh_IRIR, jsh_IRRI, jsh_IRRR, jsh_RIII, jsh_RIIR, jsh_RIRI, jsh_RIRR, jsh_RRII, jsh_RRIR, jsh_RRRI, jsh_RRRR, jthr_hp, jc_l0, jc_lW, jc_lX, jc_lXW, jc_lVW, jc_lVX, jpush_n, jpush_s, obt_0, obt_1, och_0, och_32, och_100, och_115, och_104, och_33, och_43, och_60, jint, jbit, jchr, ijI, ijR, ijD, ijF, ↓reduceIte, Int.reduceEq, Int.reduceLT, reduceCtorEq, lW_bind, lW_ite, lW_none, lW_oix, lW_obt, lW_och, lW_sel, lW_oel, lW_some, f_Mod_childCountL, ih]
set_option maxRecDepth 20000 in
set_option maxHeartbeats 4000000 in
theorem X204 (d : Nat) (a1 : Int) (m : jMem) (k : jM) : jme jT0 jMx (d + 4) 204 [jr (jn cf + 147), .inl a1] (hp cf dv m, k) = lW cf dv k ijI (f_Mod_childCount m a1) := by
  simp only [M204, E204_0, E204_1, E204_2, E204_5, E204_8, E204_9, E204_10, E204_11, E204_12, E204_13, E204_14, E204_15, E204_16, E204_19, E204_20, E204_21, E204_24, E204_25, E204_26, E204_27, E204_30, E204_31, E204_34, E204_35, E204_38, E204_39, E204_40, E204_41, E204_44, E204_47, E204_48, ai_148, gf_147_0, X186, X200, go_147, jsh_n, jsh_I, jsh_R, jsh_II, jsh_IR, jsh_RI, jsh_RR, jsh_III, jsh_IIR, jsh_IRI, jsh_IRR, jsh_RII, jsh_RIR, jsh_RRI, jsh_RRR, jsh_IIII, jsh_IIIR, jsh_IIRI, jsh_IIRR, jsh_IRII, jsh_IRIR, jsh_IRRI, jsh_IRRR, jsh_RIII, jsh_RIIR, jsh_RIRI, jsh_RIRR, jsh_RRII, jsh_RRIR, jsh_RRRI, jsh_RRRR, jthr_hp, jc_l0, jc_lW, jc_lX, jc_lXW, jc_lVW, jc_lVX, jpush_n, jpush_s, obt_0, obt_1, och_0, och_32, och_100, och_115, och_104, och_33, och_43, och_60, jint, jbit, jchr, ijI, ijR, ijD, ijF, ↓reduceIte, Int.reduceEq, Int.reduceLT, reduceCtorEq, lW_bind, lW_ite, lW_none, lW_oix, lW_obt, lW_och, lW_sel, lW_oel, lW_some, f_Mod_childCount, X204L]
end
def f_Mod_childAtL : Nat → jMem → Int → Int → Int → Int → Option (Int × jMem)
  | 0, _, _, _, _, _ => none
  | N + 1, m, a1, a2, a3, a4 => if a4 < a2 then if a3 < 0 then if a3 < 0 then (f_Mod_fails m 2).bind fun qx6 => if qx6.1 = 0 then some (a3, qx6.2) else some (0, qx6.2) else (f_Mod_fails m 0).bind fun qx5 => if qx5.1 = 0 then some (a3, qx5.2) else some (0, qx5.2) else (f_Mod_childBehind m a1 a3).bind fun x7 => f_Mod_childAtL N m a1 a2 x7 (jw (a4 + 1)) else if a3 < 0 then (f_Mod_fails m 2).bind fun qx4 => if qx4.1 = 0 then some (a3, qx4.2) else some (0, qx4.2) else (f_Mod_fails m 0).bind fun qx3 => if qx3.1 = 0 then some (a3, qx3.2) else some (0, qx3.2)
def f_Mod_childAt (m : jMem) (a1 : Int) (a2 : Int) : Option (Int × jMem) := (f_Mod_isNobody m a1).bind fun qx1 => if qx1.1 = 0 then if a2 < 0 then f_Mod_childAtL 99999 qx1.2 a1 a2 (-1) 0 else (f_Mod_childBehind qx1.2 a1 a1).bind fun x2 => f_Mod_childAtL 99999 qx1.2 a1 a2 x2 0 else some (0, qx1.2)
section
variable {cf : jCf} {dv : UInt64}
set_option maxRecDepth 20000 in
set_option maxHeartbeats 4000000 in
theorem X205L (d : Nat) : ∀ (N : Nat) (m : jMem) (k : jM), (∀ (a1 a2 a3 a4 : Int), jlp jT0 205 (jme jT0 jMx (d + 3)) N 28 [some (jr (jn cf + 147)), some (.inl a1), some (.inl a2), some (.inl a3), some (.inl a4)] [] (hp cf dv m, k) = lW cf dv k ijI (f_Mod_childAtL N m a1 a2 a3 a4)) := by
  intro N
  induction N with
  | zero => intro m k; exact by intros; rfl
  | succ N ih =>
    intro m k
    intros
    rw [jlp_s]
    simp only [E205_0, E205_1, E205_2, E205_5, E205_8, E205_9, E205_10, E205_11, E205_14, E205_15, E205_18, E205_19, E205_20, E205_21, E205_24, E205_25, E205_26, E205_28, E205_30, E205_31, E205_34, E205_35, E205_38, E205_39, E205_40, E205_41, E205_44, E205_45, E205_48, E205_51, E205_52, E205_53, E205_56, E205_57, E205_60, E205_61, E205_64, E205_67, E205_68, E205_71, E205_72, X178, X191, X200, go_147, jsh_n, jsh_I, jsh_R, jsh_II, jsh_IR, jsh_RI, jsh_RR, jsh_III, jsh_IIR, jsh_IRI, jsh_IRR, jsh_RII, jsh_RIR, jsh_RRI, jsh_RRR, jsh_IIII, jsh_IIIR, jsh_IIRI, jsh_IIRR, jsh_IRII, jsh_IRIR, jsh_IRRI, jsh_IRRR, jsh_RIII, jsh_RIIR, jsh_RIRI, jsh_RIRR, jsh_RRII, jsh_RRIR, jsh_RRRI, jsh_RRRR, jthr_hp, jc_l0, jc_lW, jc_lX, jc_lXW, jc_lVW, jc_lVX, jpush_n, jpush_s, obt_0, obt_1, och_0, och_32, och_100, och_115, och_104, och_33, och_43, och_60, jint, jbit, jchr, ijI, ijR, ijD, ijF, ↓reduceIte, Int.reduceEq, Int.reduceLT, reduceCtorEq, lW_bind, lW_ite, lW_none, lW_oix, lW_obt, lW_och, lW_sel, lW_oel, lW_some, f_Mod_childAtL, ih]
set_option maxRecDepth 20000 in
set_option maxHeartbeats 4000000 in
theorem X205 (d : Nat) (a1 : Int) (a2 : Int) (m : jMem) (k : jM) : jme jT0 jMx (d + 4) 205 [jr (jn cf + 147), .inl a1, .inl a2] (hp cf dv m, k) = lW cf dv k ijI (f_Mod_childAt m a1 a2) := by
  simp only [M205, E205_0, E205_1, E205_2, E205_5, E205_8, E205_9, E205_10, E205_11, E205_14, E205_15, E205_18, E205_19, E205_20, E205_21, E205_24, E205_25, E205_26, E205_28, E205_30, E205_31, E205_34, E205_35, E205_38, E205_39, E205_40, E205_41, E205_44, E205_45, E205_48, E205_51, E205_52, E205_53, E205_56, E205_57, E205_60, E205_61, E205_64, E205_67, E205_68, E205_71, E205_72, X178, X191, X200, go_147, jsh_n, jsh_I, jsh_R, jsh_II, jsh_IR, jsh_RI, jsh_RR, jsh_III, jsh_IIR, jsh_IRI, jsh_IRR, jsh_RII, jsh_RIR, jsh_RRI, jsh_RRR, jsh_IIII, jsh_IIIR, jsh_IIRI, jsh_IIRR, jsh_IRII, jsh_IRIR, jsh_IRRI, jsh_IRRR, jsh_RIII, jsh_RIIR, jsh_RIRI, jsh_RIRR, jsh_RRII, jsh_RRIR, jsh_RRRI, jsh_RRRR, jthr_hp, jc_l0, jc_lW, jc_lX, jc_lXW, jc_lVW, jc_lVX, jpush_n, jpush_s, obt_0, obt_1, och_0, och_32, och_100, och_115, och_104, och_33, och_43, och_60, jint, jbit, jchr, ijI, ijR, ijD, ijF, ↓reduceIte, Int.reduceEq, Int.reduceLT, reduceCtorEq, lW_bind, lW_ite, lW_none, lW_oix, lW_obt, lW_och, lW_sel, lW_oel, lW_some, f_Mod_childAt, X205L]
end
def f_Mod_depthL : Nat → jMem → Int → Int → Option Int
  | 0, _, _, _ => none
  | N + 1, m, a2, a3 => if a3 < 0 then some a2 else (f_Mod_parent m a3).bind fun x2 => f_Mod_depthL N m (jw (a2 + 1)) x2
def f_Mod_depth (m : jMem) (a1 : Int) : Option Int := (f_Mod_parent m a1).bind fun x1 => f_Mod_depthL 99999 m 0 x1
section
variable {cf : jCf} {dv : UInt64}
set_option maxRecDepth 20000 in
set_option maxHeartbeats 4000000 in
theorem X206L (d : Nat) : ∀ (N : Nat) (m : jMem) (k : jM), (∀ (a2 a3 : Int) (z1 : Option jV), jlp jT0 206 (jme jT0 jMx (d + 1)) N 8 [some (jr (jn cf + 147)), z1, some (.inl a2), some (.inl a3)] [] (hp cf dv m, k) = l0 cf dv m k ijI (f_Mod_depthL N m a2 a3)) := by
  intro N
  induction N with
  | zero => intro m k; exact by intros; rfl
  | succ N ih =>
    intro m k
    intros
    rw [jlp_s]
    simp only [E206_0, E206_1, E206_2, E206_3, E206_4, E206_7, E206_8, E206_9, E206_12, E206_15, E206_16, E206_17, E206_20, E206_21, E206_24, E206_25, X186, go_147, jsh_n, jsh_I, jsh_R, jsh_II, jsh_IR, jsh_RI, jsh_RR, jsh_III, jsh_IIR, jsh_IRI, jsh_IRR, jsh_RII, jsh_RIR, jsh_RRI, jsh_RRR, jsh_IIII, jsh_IIIR, jsh_IIRI, jsh_IIRR, jsh_IRII, jsh_IRIR, jsh_IRRI, jsh_IRRR, jsh_RIII, jsh_RIIR, jsh_RIRI, jsh_RIRR, jsh_RRII, jsh_RRIR, jsh_RRRI, jsh_RRRR, jthr_hp, jc_l0, jc_lW, jc_lX, jc_lXW, jc_lVW, jc_lVX, jpush_n, jpush_s, obt_0, obt_1, och_0, och_32, och_100, och_115, och_104, och_33, och_43, och_60, jint, jbit, jchr, ijI, ijR, ijD, ijF, ↓reduceIte, Int.reduceEq, Int.reduceLT, reduceCtorEq, l0_bind, l0_ite, l0_none, l0_oix, l0_obt, l0_och, l0_sel, l0_oel, l0_some, f_Mod_depthL, ih]
set_option maxRecDepth 20000 in
set_option maxHeartbeats 4000000 in
theorem X206 (d : Nat) (a1 : Int) (m : jMem) (k : jM) : jme jT0 jMx (d + 2) 206 [jr (jn cf + 147), .inl a1] (hp cf dv m, k) = l0 cf dv m k ijI (f_Mod_depth m a1) := by
  simp only [M206, E206_0, E206_1, E206_2, E206_3, E206_4, E206_7, E206_8, E206_9, E206_12, E206_15, E206_16, E206_17, E206_20, E206_21, E206_24, E206_25, X186, go_147, jsh_n, jsh_I, jsh_R, jsh_II, jsh_IR, jsh_RI, jsh_RR, jsh_III, jsh_IIR, jsh_IRI, jsh_IRR, jsh_RII, jsh_RIR, jsh_RRI, jsh_RRR, jsh_IIII, jsh_IIIR, jsh_IIRI, jsh_IIRR, jsh_IRII, jsh_IRIR, jsh_IRRI, jsh_IRRR, jsh_RIII, jsh_RIIR, jsh_RIRI, jsh_RIRR, jsh_RRII, jsh_RRIR, jsh_RRRI, jsh_RRRR, jthr_hp, jc_l0, jc_lW, jc_lX, jc_lXW, jc_lVW, jc_lVX, jpush_n, jpush_s, obt_0, obt_1, och_0, och_32, och_100, och_115, och_104, och_33, och_43, och_60, jint, jbit, jchr, ijI, ijR, ijD, ijF, ↓reduceIte, Int.reduceEq, Int.reduceLT, reduceCtorEq, l0_bind, l0_ite, l0_none, l0_oix, l0_obt, l0_och, l0_sel, l0_oel, l0_some, f_Mod_depth, X206L]
end

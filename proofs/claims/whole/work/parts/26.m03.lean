/-! ===== the model 3 ===== -/
section
variable (cl : Nat → List jV → jH → jR) (bk : Nat → jL → List jV → jH → jR) (n : Nat)
theorem E207_0 (a : Nat) (st : List jV) (l1 : Option jV) (w : jH) : jblk jT0 207 cl bk (n + 1) 0 [some (jr a), l1] st w = jblk jT0 207 cl bk n 1 [some (jr a), l1] (jr a :: st) w := rfl
theorem E207_1 (x : Int) (st : List jV) (l0 : Option jV) (w : jH) : jblk jT0 207 cl bk (n + 1) 1 [l0, some (.inl x)] st w = jblk jT0 207 cl bk n 2 [l0, some (.inl x)] (.inl x :: st) w := rfl
theorem E207_2 (a : Nat) (v0 : jV) (st : List jV) (l0 l1 : Option jV) (w : jH) : jblk jT0 207 cl bk (n + 1) 2 [l0, l1] (v0 :: jr a :: st) w = jsh st (jgo w a 9 fun _ => jcl (cl 200 [jr a, v0] w) (fun v w' => jblk jT0 207 cl bk n 5 [l0, l1] (jpush v st) w') (fun E w' => some (.inr E, w'))) := rfl
theorem E207_5 (x : Int) (st : List jV) (l0 l1 : Option jV) (w : jH) : jblk jT0 207 cl bk (n + 1) 5 [l0, l1] (.inl x :: st) w = if x = 0 then jblk jT0 207 cl bk n 12 [l0, l1] st w else jblk jT0 207 cl bk n 8 [l0, l1] st w := rfl
theorem E207_8 (st : List jV) (l0 l1 : Option jV) (w : jH) : jblk jT0 207 cl bk (n + 1) 8 [l0, l1] st w = jblk jT0 207 cl bk n 9 [l0, l1] (.inl 0 :: st) w := rfl
theorem E207_9 (st : List jV) (l0 l1 : Option jV) (w : jH) : jblk jT0 207 cl bk (n + 1) 9 [l0, l1] st w = jblk jT0 207 cl bk n 17 [l0, l1] st w := rfl
theorem E207_12 (a : Nat) (st : List jV) (l1 : Option jV) (w : jH) : jblk jT0 207 cl bk (n + 1) 12 [some (jr a), l1] st w = jblk jT0 207 cl bk n 13 [some (jr a), l1] (jr a :: st) w := rfl
theorem E207_13 (x : Int) (st : List jV) (l0 : Option jV) (w : jH) : jblk jT0 207 cl bk (n + 1) 13 [l0, some (.inl x)] st w = jblk jT0 207 cl bk n 14 [l0, some (.inl x)] (.inl x :: st) w := rfl
theorem E207_14 (a : Nat) (v0 : jV) (st : List jV) (l0 l1 : Option jV) (w : jH) : jblk jT0 207 cl bk (n + 1) 14 [l0, l1] (v0 :: jr a :: st) w = jsh st (jgo w a 9 fun _ => jcl (cl 206 [jr a, v0] w) (fun v w' => jblk jT0 207 cl bk n 17 [l0, l1] (jpush v st) w') (fun E w' => some (.inr E, w'))) := rfl
theorem E207_17 (x : Int) (l0 l1 : Option jV) (w : jH) : jblk jT0 207 cl bk (n + 1) 17 [l0, l1] [.inl x] w = if jfits .int x = true then some (.inl (some (.inl x)), w) else none := rfl
theorem E208_0 (a : Nat) (st : List jV) (l1 l2 l3 : Option jV) (w : jH) : jblk jT0 208 cl bk (n + 1) 0 [some (jr a), l1, l2, l3] st w = jblk jT0 208 cl bk n 1 [some (jr a), l1, l2, l3] (jr a :: st) w := rfl
theorem E208_1 (x : Int) (st : List jV) (l0 l1 l3 : Option jV) (w : jH) : jblk jT0 208 cl bk (n + 1) 1 [l0, l1, some (.inl x), l3] st w = jblk jT0 208 cl bk n 2 [l0, l1, some (.inl x), l3] (.inl x :: st) w := rfl
theorem E208_2 (a : Nat) (v0 : jV) (st : List jV) (l0 l1 l2 l3 : Option jV) (w : jH) : jblk jT0 208 cl bk (n + 1) 2 [l0, l1, l2, l3] (v0 :: jr a :: st) w = jsh st (jgo w a 9 fun _ => jcl (cl 186 [jr a, v0] w) (fun v w' => jblk jT0 208 cl bk n 5 [l0, l1, l2, l3] (jpush v st) w') (fun E w' => some (.inr E, w'))) := rfl
theorem E208_5 (x : Int) (st : List jV) (l0 l1 l2 l3 : Option jV) (w : jH) : jblk jT0 208 cl bk (n + 1) 5 [l0, l1, l2, l3] (.inl x :: st) w = bk 6 [l0, l1, l2, some (.inl x)] st w := rfl
theorem E208_6 (x : Int) (st : List jV) (l0 l1 l2 : Option jV) (w : jH) : jblk jT0 208 cl bk (n + 1) 6 [l0, l1, l2, some (.inl x)] st w = jblk jT0 208 cl bk n 7 [l0, l1, l2, some (.inl x)] (.inl x :: st) w := rfl
theorem E208_7 (x : Int) (st : List jV) (l0 l1 l2 l3 : Option jV) (w : jH) : jblk jT0 208 cl bk (n + 1) 7 [l0, l1, l2, l3] (.inl x :: st) w = if x < 0 then jblk jT0 208 cl bk n 24 [l0, l1, l2, l3] st w else jblk jT0 208 cl bk n 10 [l0, l1, l2, l3] st w := rfl
theorem E208_10 (x : Int) (st : List jV) (l0 l1 l2 : Option jV) (w : jH) : jblk jT0 208 cl bk (n + 1) 10 [l0, l1, l2, some (.inl x)] st w = jblk jT0 208 cl bk n 11 [l0, l1, l2, some (.inl x)] (.inl x :: st) w := rfl
theorem E208_11 (x : Int) (st : List jV) (l0 l2 l3 : Option jV) (w : jH) : jblk jT0 208 cl bk (n + 1) 11 [l0, some (.inl x), l2, l3] st w = jblk jT0 208 cl bk n 12 [l0, some (.inl x), l2, l3] (.inl x :: st) w := rfl
theorem E208_12 (x : Int) (y : Int) (st : List jV) (l0 l1 l2 l3 : Option jV) (w : jH) : jblk jT0 208 cl bk (n + 1) 12 [l0, l1, l2, l3] (.inl y :: .inl x :: st) w = if x = y then jblk jT0 208 cl bk n 24 [l0, l1, l2, l3] st w else jblk jT0 208 cl bk n 15 [l0, l1, l2, l3] st w := rfl
theorem E208_15 (a : Nat) (st : List jV) (l1 l2 l3 : Option jV) (w : jH) : jblk jT0 208 cl bk (n + 1) 15 [some (jr a), l1, l2, l3] st w = jblk jT0 208 cl bk n 16 [some (jr a), l1, l2, l3] (jr a :: st) w := rfl
theorem E208_16 (x : Int) (st : List jV) (l0 l1 l2 : Option jV) (w : jH) : jblk jT0 208 cl bk (n + 1) 16 [l0, l1, l2, some (.inl x)] st w = jblk jT0 208 cl bk n 17 [l0, l1, l2, some (.inl x)] (.inl x :: st) w := rfl
theorem E208_17 (a : Nat) (v0 : jV) (st : List jV) (l0 l1 l2 l3 : Option jV) (w : jH) : jblk jT0 208 cl bk (n + 1) 17 [l0, l1, l2, l3] (v0 :: jr a :: st) w = jsh st (jgo w a 9 fun _ => jcl (cl 186 [jr a, v0] w) (fun v w' => jblk jT0 208 cl bk n 20 [l0, l1, l2, l3] (jpush v st) w') (fun E w' => some (.inr E, w'))) := rfl
theorem E208_20 (x : Int) (st : List jV) (l0 l1 l2 l3 : Option jV) (w : jH) : jblk jT0 208 cl bk (n + 1) 20 [l0, l1, l2, l3] (.inl x :: st) w = jblk jT0 208 cl bk n 21 [l0, l1, l2, some (.inl x)] st w := rfl
theorem E208_21 (st : List jV) (l0 l1 l2 l3 : Option jV) (w : jH) : jblk jT0 208 cl bk (n + 1) 21 [l0, l1, l2, l3] st w = bk 6 [l0, l1, l2, l3] st w := rfl
theorem E208_24 (x : Int) (st : List jV) (l0 l1 l2 : Option jV) (w : jH) : jblk jT0 208 cl bk (n + 1) 24 [l0, l1, l2, some (.inl x)] st w = jblk jT0 208 cl bk n 25 [l0, l1, l2, some (.inl x)] (.inl x :: st) w := rfl
theorem E208_25 (x : Int) (st : List jV) (l0 l1 l2 l3 : Option jV) (w : jH) : jblk jT0 208 cl bk (n + 1) 25 [l0, l1, l2, l3] (.inl x :: st) w = if x < 0 then jblk jT0 208 cl bk n 32 [l0, l1, l2, l3] st w else jblk jT0 208 cl bk n 28 [l0, l1, l2, l3] st w := rfl
theorem E208_28 (st : List jV) (l0 l1 l2 l3 : Option jV) (w : jH) : jblk jT0 208 cl bk (n + 1) 28 [l0, l1, l2, l3] st w = jblk jT0 208 cl bk n 29 [l0, l1, l2, l3] (.inl 1 :: st) w := rfl
theorem E208_29 (st : List jV) (l0 l1 l2 l3 : Option jV) (w : jH) : jblk jT0 208 cl bk (n + 1) 29 [l0, l1, l2, l3] st w = jblk jT0 208 cl bk n 33 [l0, l1, l2, l3] st w := rfl
theorem E208_32 (st : List jV) (l0 l1 l2 l3 : Option jV) (w : jH) : jblk jT0 208 cl bk (n + 1) 32 [l0, l1, l2, l3] st w = jblk jT0 208 cl bk n 33 [l0, l1, l2, l3] (.inl 0 :: st) w := rfl
theorem E208_33 (x : Int) (l0 l1 l2 l3 : Option jV) (w : jH) : jblk jT0 208 cl bk (n + 1) 33 [l0, l1, l2, l3] [.inl x] w = if jfits .boolean x = true then some (.inl (some (.inl x)), w) else none := rfl
theorem E209_0 (a : Nat) (st : List jV) (l1 l2 l3 : Option jV) (w : jH) : jblk jT0 209 cl bk (n + 1) 0 [some (jr a), l1, l2, l3] st w = jblk jT0 209 cl bk n 1 [some (jr a), l1, l2, l3] (jr a :: st) w := rfl
theorem E209_1 (x : Int) (st : List jV) (l0 l2 l3 : Option jV) (w : jH) : jblk jT0 209 cl bk (n + 1) 1 [l0, some (.inl x), l2, l3] st w = jblk jT0 209 cl bk n 2 [l0, some (.inl x), l2, l3] (.inl x :: st) w := rfl
theorem E209_2 (a : Nat) (v0 : jV) (st : List jV) (l0 l1 l2 l3 : Option jV) (w : jH) : jblk jT0 209 cl bk (n + 1) 2 [l0, l1, l2, l3] (v0 :: jr a :: st) w = jsh st (jgo w a 9 fun _ => jcl (cl 200 [jr a, v0] w) (fun v w' => jblk jT0 209 cl bk n 5 [l0, l1, l2, l3] (jpush v st) w') (fun E w' => some (.inr E, w'))) := rfl
theorem E209_5 (x : Int) (st : List jV) (l0 l1 l2 l3 : Option jV) (w : jH) : jblk jT0 209 cl bk (n + 1) 5 [l0, l1, l2, l3] (.inl x :: st) w = if x = 0 then jblk jT0 209 cl bk n 10 [l0, l1, l2, l3] st w else jblk jT0 209 cl bk n 8 [l0, l1, l2, l3] st w := rfl
theorem E209_8 (st : List jV) (l0 l1 l2 l3 : Option jV) (w : jH) : jblk jT0 209 cl bk (n + 1) 8 [l0, l1, l2, l3] st w = jblk jT0 209 cl bk n 9 [l0, l1, l2, l3] (.inl 0 :: st) w := rfl
theorem E209_9 (x : Int) (l0 l1 l2 l3 : Option jV) (w : jH) : jblk jT0 209 cl bk (n + 1) 9 [l0, l1, l2, l3] [.inl x] w = if jfits .int x = true then some (.inl (some (.inl x)), w) else none := rfl
theorem E209_10 (st : List jV) (l0 l1 l2 l3 : Option jV) (w : jH) : jblk jT0 209 cl bk (n + 1) 10 [l0, l1, l2, l3] st w = jblk jT0 209 cl bk n 11 [l0, l1, l2, l3] (.inl 0 :: st) w := rfl
theorem E209_11 (x : Int) (st : List jV) (l0 l1 l2 l3 : Option jV) (w : jH) : jblk jT0 209 cl bk (n + 1) 11 [l0, l1, l2, l3] (.inl x :: st) w = jblk jT0 209 cl bk n 12 [l0, l1, some (.inl x), l3] st w := rfl
theorem E209_12 (st : List jV) (l0 l1 l2 l3 : Option jV) (w : jH) : jblk jT0 209 cl bk (n + 1) 12 [l0, l1, l2, l3] st w = jblk jT0 209 cl bk n 13 [l0, l1, l2, l3] (.inl 0 :: st) w := rfl
theorem E209_13 (x : Int) (st : List jV) (l0 l1 l2 l3 : Option jV) (w : jH) : jblk jT0 209 cl bk (n + 1) 13 [l0, l1, l2, l3] (.inl x :: st) w = bk 14 [l0, l1, l2, some (.inl x)] st w := rfl
theorem E209_14 (x : Int) (st : List jV) (l0 l1 l2 : Option jV) (w : jH) : jblk jT0 209 cl bk (n + 1) 14 [l0, l1, l2, some (.inl x)] st w = jblk jT0 209 cl bk n 15 [l0, l1, l2, some (.inl x)] (.inl x :: st) w := rfl
theorem E209_15 (a : Nat) (st : List jV) (l1 l2 l3 : Option jV) (w : jH) : jblk jT0 209 cl bk (n + 1) 15 [some (jr a), l1, l2, l3] st w = jblk jT0 209 cl bk n 16 [some (jr a), l1, l2, l3] (jr a :: st) w := rfl
theorem E209_16 (a : Nat) (st : List jV) (l0 l1 l2 l3 : Option jV) (w : jH) : jblk jT0 209 cl bk (n + 1) 16 [l0, l1, l2, l3] (jr a :: st) w = jgf w a 9 0 fun v => jblk jT0 209 cl bk n 19 [l0, l1, l2, l3] (v :: st) w := rfl
theorem E209_19 (st : List jV) (l0 l1 l2 l3 : Option jV) (w : jH) : jblk jT0 209 cl bk (n + 1) 19 [l0, l1, l2, l3] st w = jblk jT0 209 cl bk n 20 [l0, l1, l2, l3] (.inl 0 :: st) w := rfl
theorem E209_20 (x : Int) (a : Nat) (st : List jV) (l0 l1 l2 l3 : Option jV) (w : jH) : jblk jT0 209 cl bk (n + 1) 20 [l0, l1, l2, l3] (.inl x :: jr a :: st) w = jlda w a x (fun z => jblk jT0 209 cl bk n 21 [l0, l1, l2, l3] (.inl z :: st) w) := rfl
theorem E209_21 (x : Int) (y : Int) (st : List jV) (l0 l1 l2 l3 : Option jV) (w : jH) : jblk jT0 209 cl bk (n + 1) 21 [l0, l1, l2, l3] (.inl y :: .inl x :: st) w = if x < y then jblk jT0 209 cl bk n 24 [l0, l1, l2, l3] st w else jblk jT0 209 cl bk n 55 [l0, l1, l2, l3] st w := rfl
theorem E209_24 (x : Int) (st : List jV) (l0 l1 l3 : Option jV) (w : jH) : jblk jT0 209 cl bk (n + 1) 24 [l0, l1, some (.inl x), l3] st w = jblk jT0 209 cl bk n 25 [l0, l1, some (.inl x), l3] (.inl x :: st) w := rfl
theorem E209_25 (a : Nat) (st : List jV) (l1 l2 l3 : Option jV) (w : jH) : jblk jT0 209 cl bk (n + 1) 25 [some (jr a), l1, l2, l3] st w = jblk jT0 209 cl bk n 26 [some (jr a), l1, l2, l3] (jr a :: st) w := rfl
theorem E209_26 (x : Int) (st : List jV) (l0 l1 l2 : Option jV) (w : jH) : jblk jT0 209 cl bk (n + 1) 26 [l0, l1, l2, some (.inl x)] st w = jblk jT0 209 cl bk n 27 [l0, l1, l2, some (.inl x)] (.inl x :: st) w := rfl
theorem E209_27 (a : Nat) (v0 : jV) (st : List jV) (l0 l1 l2 l3 : Option jV) (w : jH) : jblk jT0 209 cl bk (n + 1) 27 [l0, l1, l2, l3] (v0 :: jr a :: st) w = jsh st (jgo w a 9 fun _ => jcl (cl 187 [jr a, v0] w) (fun v w' => jblk jT0 209 cl bk n 30 [l0, l1, l2, l3] (jpush v st) w') (fun E w' => some (.inr E, w'))) := rfl
theorem E209_30 (x : Int) (st : List jV) (l0 l1 l2 l3 : Option jV) (w : jH) : jblk jT0 209 cl bk (n + 1) 30 [l0, l1, l2, l3] (.inl x :: st) w = if x = 0 then jblk jT0 209 cl bk n 46 [l0, l1, l2, l3] st w else jblk jT0 209 cl bk n 33 [l0, l1, l2, l3] st w := rfl
theorem E209_33 (a : Nat) (st : List jV) (l1 l2 l3 : Option jV) (w : jH) : jblk jT0 209 cl bk (n + 1) 33 [some (jr a), l1, l2, l3] st w = jblk jT0 209 cl bk n 34 [some (jr a), l1, l2, l3] (jr a :: st) w := rfl
theorem E209_34 (x : Int) (st : List jV) (l0 l2 l3 : Option jV) (w : jH) : jblk jT0 209 cl bk (n + 1) 34 [l0, some (.inl x), l2, l3] st w = jblk jT0 209 cl bk n 35 [l0, some (.inl x), l2, l3] (.inl x :: st) w := rfl
theorem E209_35 (x : Int) (st : List jV) (l0 l1 l2 : Option jV) (w : jH) : jblk jT0 209 cl bk (n + 1) 35 [l0, l1, l2, some (.inl x)] st w = jblk jT0 209 cl bk n 36 [l0, l1, l2, some (.inl x)] (.inl x :: st) w := rfl
theorem E209_36 (a : Nat) (v0 : jV) (v1 : jV) (st : List jV) (l0 l1 l2 l3 : Option jV) (w : jH) : jblk jT0 209 cl bk (n + 1) 36 [l0, l1, l2, l3] (v1 :: v0 :: jr a :: st) w = jsh st (jgo w a 9 fun _ => jcl (cl 208 [jr a, v0, v1] w) (fun v w' => jblk jT0 209 cl bk n 39 [l0, l1, l2, l3] (jpush v st) w') (fun E w' => some (.inr E, w'))) := rfl
theorem E209_39 (x : Int) (st : List jV) (l0 l1 l2 l3 : Option jV) (w : jH) : jblk jT0 209 cl bk (n + 1) 39 [l0, l1, l2, l3] (.inl x :: st) w = if x = 0 then jblk jT0 209 cl bk n 46 [l0, l1, l2, l3] st w else jblk jT0 209 cl bk n 42 [l0, l1, l2, l3] st w := rfl
theorem E209_42 (st : List jV) (l0 l1 l2 l3 : Option jV) (w : jH) : jblk jT0 209 cl bk (n + 1) 42 [l0, l1, l2, l3] st w = jblk jT0 209 cl bk n 43 [l0, l1, l2, l3] (.inl 1 :: st) w := rfl
theorem E209_43 (st : List jV) (l0 l1 l2 l3 : Option jV) (w : jH) : jblk jT0 209 cl bk (n + 1) 43 [l0, l1, l2, l3] st w = jblk jT0 209 cl bk n 47 [l0, l1, l2, l3] st w := rfl
theorem E209_46 (st : List jV) (l0 l1 l2 l3 : Option jV) (w : jH) : jblk jT0 209 cl bk (n + 1) 46 [l0, l1, l2, l3] st w = jblk jT0 209 cl bk n 47 [l0, l1, l2, l3] (.inl 0 :: st) w := rfl
theorem E209_47 (x : Int) (y : Int) (st : List jV) (l0 l1 l2 l3 : Option jV) (w : jH) : jblk jT0 209 cl bk (n + 1) 47 [l0, l1, l2, l3] (.inl y :: .inl x :: st) w = jblk jT0 209 cl bk n 48 [l0, l1, l2, l3] (.inl (jw (x + y)) :: st) w := rfl
theorem E209_48 (x : Int) (st : List jV) (l0 l1 l2 l3 : Option jV) (w : jH) : jblk jT0 209 cl bk (n + 1) 48 [l0, l1, l2, l3] (.inl x :: st) w = jblk jT0 209 cl bk n 49 [l0, l1, some (.inl x), l3] st w := rfl
theorem E209_49 (x : Int) (st : List jV) (l0 l1 l2 : Option jV) (w : jH) : jblk jT0 209 cl bk (n + 1) 49 [l0, l1, l2, some (.inl x)] st w = jblk jT0 209 cl bk n 52 [l0, l1, l2, some (.inl (jw (x + 1)))] st w := rfl
theorem E209_52 (st : List jV) (l0 l1 l2 l3 : Option jV) (w : jH) : jblk jT0 209 cl bk (n + 1) 52 [l0, l1, l2, l3] st w = bk 14 [l0, l1, l2, l3] st w := rfl
theorem E209_55 (x : Int) (st : List jV) (l0 l1 l3 : Option jV) (w : jH) : jblk jT0 209 cl bk (n + 1) 55 [l0, l1, some (.inl x), l3] st w = jblk jT0 209 cl bk n 56 [l0, l1, some (.inl x), l3] (.inl x :: st) w := rfl
theorem E209_56 (x : Int) (l0 l1 l2 l3 : Option jV) (w : jH) : jblk jT0 209 cl bk (n + 1) 56 [l0, l1, l2, l3] [.inl x] w = if jfits .int x = true then some (.inl (some (.inl x)), w) else none := rfl
theorem E210_0 (a : Nat) (st : List jV) (l1 l2 : Option jV) (w : jH) : jblk jT0 210 cl bk (n + 1) 0 [some (jr a), l1, l2] st w = jblk jT0 210 cl bk n 1 [some (jr a), l1, l2] (jr a :: st) w := rfl
theorem E210_1 (a : Nat) (st : List jV) (l1 l2 : Option jV) (w : jH) : jblk jT0 210 cl bk (n + 1) 1 [some (jr a), l1, l2] st w = jblk jT0 210 cl bk n 2 [some (jr a), l1, l2] (jr a :: st) w := rfl
theorem E210_2 (x : Int) (st : List jV) (l0 l2 : Option jV) (w : jH) : jblk jT0 210 cl bk (n + 1) 2 [l0, some (.inl x), l2] st w = jblk jT0 210 cl bk n 3 [l0, some (.inl x), l2] (.inl x :: st) w := rfl
theorem E210_3 (x : Int) (st : List jV) (l0 l1 : Option jV) (w : jH) : jblk jT0 210 cl bk (n + 1) 3 [l0, l1, some (.inl x)] st w = jblk jT0 210 cl bk n 4 [l0, l1, some (.inl x)] (.inl x :: st) w := rfl
theorem E210_4 (a : Nat) (v0 : jV) (v1 : jV) (st : List jV) (l0 l1 l2 : Option jV) (w : jH) : jblk jT0 210 cl bk (n + 1) 4 [l0, l1, l2] (v1 :: v0 :: jr a :: st) w = jsh st (jgo w a 9 fun _ => jcl (cl 185 [jr a, v0, v1] w) (fun v w' => jblk jT0 210 cl bk n 7 [l0, l1, l2] (jpush v st) w') (fun E w' => some (.inr E, w'))) := rfl
theorem E210_7 (x : Int) (st : List jV) (l0 l1 l2 : Option jV) (w : jH) : jblk jT0 210 cl bk (n + 1) 7 [l0, l1, l2] (.inl x :: st) w = if x = 0 then jblk jT0 210 cl bk n 14 [l0, l1, l2] st w else jblk jT0 210 cl bk n 10 [l0, l1, l2] st w := rfl
theorem E210_10 (st : List jV) (l0 l1 l2 : Option jV) (w : jH) : jblk jT0 210 cl bk (n + 1) 10 [l0, l1, l2] st w = jblk jT0 210 cl bk n 11 [l0, l1, l2] (.inl 0 :: st) w := rfl
theorem E210_11 (st : List jV) (l0 l1 l2 : Option jV) (w : jH) : jblk jT0 210 cl bk (n + 1) 11 [l0, l1, l2] st w = jblk jT0 210 cl bk n 15 [l0, l1, l2] st w := rfl
theorem E210_14 (st : List jV) (l0 l1 l2 : Option jV) (w : jH) : jblk jT0 210 cl bk (n + 1) 14 [l0, l1, l2] st w = jblk jT0 210 cl bk n 15 [l0, l1, l2] (.inl 1 :: st) w := rfl
theorem E210_15 (a : Nat) (v0 : jV) (st : List jV) (l0 l1 l2 : Option jV) (w : jH) : jblk jT0 210 cl bk (n + 1) 15 [l0, l1, l2] (v0 :: jr a :: st) w = jsh st (jgo w a 9 fun _ => jcl (cl 178 [jr a, v0] w) (fun v w' => jblk jT0 210 cl bk n 18 [l0, l1, l2] (jpush v st) w') (fun E w' => some (.inr E, w'))) := rfl
theorem E210_18 (x : Int) (st : List jV) (l0 l1 l2 : Option jV) (w : jH) : jblk jT0 210 cl bk (n + 1) 18 [l0, l1, l2] (.inl x :: st) w = if x = 0 then jblk jT0 210 cl bk n 21 [l0, l1, l2] st w else jblk jT0 210 cl bk n 34 [l0, l1, l2] st w := rfl
theorem E210_21 (a : Nat) (st : List jV) (l1 l2 : Option jV) (w : jH) : jblk jT0 210 cl bk (n + 1) 21 [some (jr a), l1, l2] st w = jblk jT0 210 cl bk n 22 [some (jr a), l1, l2] (jr a :: st) w := rfl
theorem E210_22 (x : Int) (st : List jV) (l0 l2 : Option jV) (w : jH) : jblk jT0 210 cl bk (n + 1) 22 [l0, some (.inl x), l2] st w = jblk jT0 210 cl bk n 23 [l0, some (.inl x), l2] (.inl x :: st) w := rfl
theorem E210_23 (x : Int) (st : List jV) (l0 l1 : Option jV) (w : jH) : jblk jT0 210 cl bk (n + 1) 23 [l0, l1, some (.inl x)] st w = jblk jT0 210 cl bk n 24 [l0, l1, some (.inl x)] (.inl x :: st) w := rfl
theorem E210_24 (a : Nat) (v0 : jV) (v1 : jV) (st : List jV) (l0 l1 l2 : Option jV) (w : jH) : jblk jT0 210 cl bk (n + 1) 24 [l0, l1, l2] (v1 :: v0 :: jr a :: st) w = jsh st (jgo w a 9 fun _ => jcl (cl 208 [jr a, v0, v1] w) (fun v w' => jblk jT0 210 cl bk n 27 [l0, l1, l2] (jpush v st) w') (fun E w' => some (.inr E, w'))) := rfl
theorem E210_27 (x : Int) (st : List jV) (l0 l1 l2 : Option jV) (w : jH) : jblk jT0 210 cl bk (n + 1) 27 [l0, l1, l2] (.inl x :: st) w = if x = 0 then jblk jT0 210 cl bk n 34 [l0, l1, l2] st w else jblk jT0 210 cl bk n 30 [l0, l1, l2] st w := rfl
theorem E210_30 (st : List jV) (l0 l1 l2 : Option jV) (w : jH) : jblk jT0 210 cl bk (n + 1) 30 [l0, l1, l2] st w = jblk jT0 210 cl bk n 31 [l0, l1, l2] (.inl 1 :: st) w := rfl
theorem E210_31 (st : List jV) (l0 l1 l2 : Option jV) (w : jH) : jblk jT0 210 cl bk (n + 1) 31 [l0, l1, l2] st w = jblk jT0 210 cl bk n 35 [l0, l1, l2] st w := rfl
theorem E210_34 (st : List jV) (l0 l1 l2 : Option jV) (w : jH) : jblk jT0 210 cl bk (n + 1) 34 [l0, l1, l2] st w = jblk jT0 210 cl bk n 35 [l0, l1, l2] (.inl 0 :: st) w := rfl
theorem E210_35 (x : Int) (l0 l1 l2 : Option jV) (w : jH) : jblk jT0 210 cl bk (n + 1) 35 [l0, l1, l2] [.inl x] w = if jfits .boolean x = true then some (.inl (some (.inl x)), w) else none := rfl
theorem E211_0 (x : Int) (st : List jV) (l0 l2 l3 : Option jV) (w : jH) : jblk jT0 211 cl bk (n + 1) 0 [l0, some (.inl x), l2, l3] st w = jblk jT0 211 cl bk n 1 [l0, some (.inl x), l2, l3] (.inl x :: st) w := rfl
theorem E211_1 (x : Int) (st : List jV) (l0 l1 l2 l3 : Option jV) (w : jH) : jblk jT0 211 cl bk (n + 1) 1 [l0, l1, l2, l3] (.inl x :: st) w = bk 2 [l0, l1, l2, some (.inl x)] st w := rfl
theorem E211_2 (x : Int) (st : List jV) (l0 l1 l2 : Option jV) (w : jH) : jblk jT0 211 cl bk (n + 1) 2 [l0, l1, l2, some (.inl x)] st w = jblk jT0 211 cl bk n 3 [l0, l1, l2, some (.inl x)] (.inl x :: st) w := rfl
theorem E211_3 (x : Int) (st : List jV) (l0 l1 l2 l3 : Option jV) (w : jH) : jblk jT0 211 cl bk (n + 1) 3 [l0, l1, l2, l3] (.inl x :: st) w = if x < 0 then jblk jT0 211 cl bk n 29 [l0, l1, l2, l3] st w else jblk jT0 211 cl bk n 6 [l0, l1, l2, l3] st w := rfl
theorem E211_6 (x : Int) (st : List jV) (l0 l1 l2 : Option jV) (w : jH) : jblk jT0 211 cl bk (n + 1) 6 [l0, l1, l2, some (.inl x)] st w = jblk jT0 211 cl bk n 7 [l0, l1, l2, some (.inl x)] (.inl x :: st) w := rfl
theorem E211_7 (x : Int) (st : List jV) (l0 l1 l3 : Option jV) (w : jH) : jblk jT0 211 cl bk (n + 1) 7 [l0, l1, some (.inl x), l3] st w = jblk jT0 211 cl bk n 8 [l0, l1, some (.inl x), l3] (.inl x :: st) w := rfl
theorem E211_8 (x : Int) (y : Int) (st : List jV) (l0 l1 l2 l3 : Option jV) (w : jH) : jblk jT0 211 cl bk (n + 1) 8 [l0, l1, l2, l3] (.inl y :: .inl x :: st) w = if x = y then jblk jT0 211 cl bk n 29 [l0, l1, l2, l3] st w else jblk jT0 211 cl bk n 11 [l0, l1, l2, l3] st w := rfl
theorem E211_11 (a : Nat) (st : List jV) (l1 l2 l3 : Option jV) (w : jH) : jblk jT0 211 cl bk (n + 1) 11 [some (jr a), l1, l2, l3] st w = jblk jT0 211 cl bk n 12 [some (jr a), l1, l2, l3] (jr a :: st) w := rfl
theorem E211_12 (x : Int) (st : List jV) (l0 l1 l2 : Option jV) (w : jH) : jblk jT0 211 cl bk (n + 1) 12 [l0, l1, l2, some (.inl x)] st w = jblk jT0 211 cl bk n 13 [l0, l1, l2, some (.inl x)] (.inl x :: st) w := rfl
theorem E211_13 (x : Int) (st : List jV) (l0 l1 l3 : Option jV) (w : jH) : jblk jT0 211 cl bk (n + 1) 13 [l0, l1, some (.inl x), l3] st w = jblk jT0 211 cl bk n 14 [l0, l1, some (.inl x), l3] (.inl x :: st) w := rfl
theorem E211_14 (a : Nat) (v0 : jV) (v1 : jV) (st : List jV) (l0 l1 l2 l3 : Option jV) (w : jH) : jblk jT0 211 cl bk (n + 1) 14 [l0, l1, l2, l3] (v1 :: v0 :: jr a :: st) w = jsh st (jgo w a 9 fun _ => jcl (cl 208 [jr a, v0, v1] w) (fun v w' => jblk jT0 211 cl bk n 17 [l0, l1, l2, l3] (jpush v st) w') (fun E w' => some (.inr E, w'))) := rfl
theorem E211_17 (x : Int) (st : List jV) (l0 l1 l2 l3 : Option jV) (w : jH) : jblk jT0 211 cl bk (n + 1) 17 [l0, l1, l2, l3] (.inl x :: st) w = if x = 0 then jblk jT0 211 cl bk n 20 [l0, l1, l2, l3] st w else jblk jT0 211 cl bk n 29 [l0, l1, l2, l3] st w := rfl
theorem E211_20 (a : Nat) (st : List jV) (l1 l2 l3 : Option jV) (w : jH) : jblk jT0 211 cl bk (n + 1) 20 [some (jr a), l1, l2, l3] st w = jblk jT0 211 cl bk n 21 [some (jr a), l1, l2, l3] (jr a :: st) w := rfl
theorem E211_21 (x : Int) (st : List jV) (l0 l1 l2 : Option jV) (w : jH) : jblk jT0 211 cl bk (n + 1) 21 [l0, l1, l2, some (.inl x)] st w = jblk jT0 211 cl bk n 22 [l0, l1, l2, some (.inl x)] (.inl x :: st) w := rfl
theorem E211_22 (a : Nat) (v0 : jV) (st : List jV) (l0 l1 l2 l3 : Option jV) (w : jH) : jblk jT0 211 cl bk (n + 1) 22 [l0, l1, l2, l3] (v0 :: jr a :: st) w = jsh st (jgo w a 9 fun _ => jcl (cl 186 [jr a, v0] w) (fun v w' => jblk jT0 211 cl bk n 25 [l0, l1, l2, l3] (jpush v st) w') (fun E w' => some (.inr E, w'))) := rfl
theorem E211_25 (x : Int) (st : List jV) (l0 l1 l2 l3 : Option jV) (w : jH) : jblk jT0 211 cl bk (n + 1) 25 [l0, l1, l2, l3] (.inl x :: st) w = jblk jT0 211 cl bk n 26 [l0, l1, l2, some (.inl x)] st w := rfl
theorem E211_26 (st : List jV) (l0 l1 l2 l3 : Option jV) (w : jH) : jblk jT0 211 cl bk (n + 1) 26 [l0, l1, l2, l3] st w = bk 2 [l0, l1, l2, l3] st w := rfl
theorem E211_29 (x : Int) (st : List jV) (l0 l1 l2 : Option jV) (w : jH) : jblk jT0 211 cl bk (n + 1) 29 [l0, l1, l2, some (.inl x)] st w = jblk jT0 211 cl bk n 30 [l0, l1, l2, some (.inl x)] (.inl x :: st) w := rfl
theorem E211_30 (x : Int) (l0 l1 l2 l3 : Option jV) (w : jH) : jblk jT0 211 cl bk (n + 1) 30 [l0, l1, l2, l3] [.inl x] w = if jfits .int x = true then some (.inl (some (.inl x)), w) else none := rfl
theorem E212_0 (a : Nat) (st : List jV) (l1 l2 : Option jV) (w : jH) : jblk jT0 212 cl bk (n + 1) 0 [some (jr a), l1, l2] st w = jblk jT0 212 cl bk n 1 [some (jr a), l1, l2] (jr a :: st) w := rfl
theorem E212_1 (a : Nat) (st : List jV) (l1 l2 : Option jV) (w : jH) : jblk jT0 212 cl bk (n + 1) 1 [some (jr a), l1, l2] st w = jblk jT0 212 cl bk n 2 [some (jr a), l1, l2] (jr a :: st) w := rfl
theorem E212_2 (x : Int) (st : List jV) (l0 l2 : Option jV) (w : jH) : jblk jT0 212 cl bk (n + 1) 2 [l0, some (.inl x), l2] st w = jblk jT0 212 cl bk n 3 [l0, some (.inl x), l2] (.inl x :: st) w := rfl
theorem E212_3 (x : Int) (st : List jV) (l0 l1 : Option jV) (w : jH) : jblk jT0 212 cl bk (n + 1) 3 [l0, l1, some (.inl x)] st w = jblk jT0 212 cl bk n 4 [l0, l1, some (.inl x)] (.inl x :: st) w := rfl
theorem E212_4 (a : Nat) (v0 : jV) (v1 : jV) (st : List jV) (l0 l1 l2 : Option jV) (w : jH) : jblk jT0 212 cl bk (n + 1) 4 [l0, l1, l2] (v1 :: v0 :: jr a :: st) w = jsh st (jgo w a 9 fun _ => jcl (cl 185 [jr a, v0, v1] w) (fun v w' => jblk jT0 212 cl bk n 7 [l0, l1, l2] (jpush v st) w') (fun E w' => some (.inr E, w'))) := rfl
theorem E212_7 (x : Int) (st : List jV) (l0 l1 l2 : Option jV) (w : jH) : jblk jT0 212 cl bk (n + 1) 7 [l0, l1, l2] (.inl x :: st) w = if x = 0 then jblk jT0 212 cl bk n 10 [l0, l1, l2] st w else jblk jT0 212 cl bk n 14 [l0, l1, l2] st w := rfl
theorem E212_10 (st : List jV) (l0 l1 l2 : Option jV) (w : jH) : jblk jT0 212 cl bk (n + 1) 10 [l0, l1, l2] st w = jblk jT0 212 cl bk n 11 [l0, l1, l2] (.inl 1 :: st) w := rfl
theorem E212_11 (st : List jV) (l0 l1 l2 : Option jV) (w : jH) : jblk jT0 212 cl bk (n + 1) 11 [l0, l1, l2] st w = jblk jT0 212 cl bk n 28 [l0, l1, l2] st w := rfl
theorem E212_14 (a : Nat) (st : List jV) (l1 l2 : Option jV) (w : jH) : jblk jT0 212 cl bk (n + 1) 14 [some (jr a), l1, l2] st w = jblk jT0 212 cl bk n 15 [some (jr a), l1, l2] (jr a :: st) w := rfl
theorem E212_15 (x : Int) (st : List jV) (l0 l2 : Option jV) (w : jH) : jblk jT0 212 cl bk (n + 1) 15 [l0, some (.inl x), l2] st w = jblk jT0 212 cl bk n 16 [l0, some (.inl x), l2] (.inl x :: st) w := rfl
theorem E212_16 (x : Int) (st : List jV) (l0 l1 : Option jV) (w : jH) : jblk jT0 212 cl bk (n + 1) 16 [l0, l1, some (.inl x)] st w = jblk jT0 212 cl bk n 17 [l0, l1, some (.inl x)] (.inl x :: st) w := rfl
theorem E212_17 (a : Nat) (v0 : jV) (v1 : jV) (st : List jV) (l0 l1 l2 : Option jV) (w : jH) : jblk jT0 212 cl bk (n + 1) 17 [l0, l1, l2] (v1 :: v0 :: jr a :: st) w = jsh st (jgo w a 9 fun _ => jcl (cl 211 [jr a, v0, v1] w) (fun v w' => jblk jT0 212 cl bk n 20 [l0, l1, l2] (jpush v st) w') (fun E w' => some (.inr E, w'))) := rfl
theorem E212_20 (x : Int) (st : List jV) (l0 l1 l2 : Option jV) (w : jH) : jblk jT0 212 cl bk (n + 1) 20 [l0, l1, l2] (.inl x :: st) w = if x < 0 then jblk jT0 212 cl bk n 23 [l0, l1, l2] st w else jblk jT0 212 cl bk n 27 [l0, l1, l2] st w := rfl
theorem E212_23 (st : List jV) (l0 l1 l2 : Option jV) (w : jH) : jblk jT0 212 cl bk (n + 1) 23 [l0, l1, l2] st w = jblk jT0 212 cl bk n 24 [l0, l1, l2] (.inl 2 :: st) w := rfl
theorem E212_24 (st : List jV) (l0 l1 l2 : Option jV) (w : jH) : jblk jT0 212 cl bk (n + 1) 24 [l0, l1, l2] st w = jblk jT0 212 cl bk n 28 [l0, l1, l2] st w := rfl
theorem E212_27 (st : List jV) (l0 l1 l2 : Option jV) (w : jH) : jblk jT0 212 cl bk (n + 1) 27 [l0, l1, l2] st w = jblk jT0 212 cl bk n 28 [l0, l1, l2] (.inl 0 :: st) w := rfl
theorem E212_28 (a : Nat) (v0 : jV) (st : List jV) (l0 l1 l2 : Option jV) (w : jH) : jblk jT0 212 cl bk (n + 1) 28 [l0, l1, l2] (v0 :: jr a :: st) w = jsh st (jgo w a 9 fun _ => jcl (cl 178 [jr a, v0] w) (fun v w' => jblk jT0 212 cl bk n 31 [l0, l1, l2] (jpush v st) w') (fun E w' => some (.inr E, w'))) := rfl
theorem E212_31 (x : Int) (l0 l1 l2 : Option jV) (w : jH) : jblk jT0 212 cl bk (n + 1) 31 [l0, l1, l2] [.inl x] w = if jfits .boolean x = true then some (.inl (some (.inl x)), w) else none := rfl
theorem E213_0 (a : Nat) (st : List jV) (l1 l2 : Option jV) (w : jH) : jblk jT0 213 cl bk (n + 1) 0 [some (jr a), l1, l2] st w = jblk jT0 213 cl bk n 1 [some (jr a), l1, l2] (jr a :: st) w := rfl
theorem E213_1 (x : Int) (st : List jV) (l0 l2 : Option jV) (w : jH) : jblk jT0 213 cl bk (n + 1) 1 [l0, some (.inl x), l2] st w = jblk jT0 213 cl bk n 2 [l0, some (.inl x), l2] (.inl x :: st) w := rfl
theorem E213_2 (x : Int) (st : List jV) (l0 l1 : Option jV) (w : jH) : jblk jT0 213 cl bk (n + 1) 2 [l0, l1, some (.inl x)] st w = jblk jT0 213 cl bk n 3 [l0, l1, some (.inl x)] (.inl x :: st) w := rfl
theorem E213_3 (a : Nat) (v0 : jV) (v1 : jV) (st : List jV) (l0 l1 l2 : Option jV) (w : jH) : jblk jT0 213 cl bk (n + 1) 3 [l0, l1, l2] (v1 :: v0 :: jr a :: st) w = jsh st (jgo w a 9 fun _ => jcl (cl 211 [jr a, v0, v1] w) (fun v w' => jblk jT0 213 cl bk n 6 [l0, l1, l2] (jpush v st) w') (fun E w' => some (.inr E, w'))) := rfl
theorem E213_6 (x : Int) (st : List jV) (l0 l1 l2 : Option jV) (w : jH) : jblk jT0 213 cl bk (n + 1) 6 [l0, l1, l2] (.inl x :: st) w = if x < 0 then jblk jT0 213 cl bk n 9 [l0, l1, l2] st w else jblk jT0 213 cl bk n 13 [l0, l1, l2] st w := rfl
theorem E213_9 (st : List jV) (l0 l1 l2 : Option jV) (w : jH) : jblk jT0 213 cl bk (n + 1) 9 [l0, l1, l2] st w = jblk jT0 213 cl bk n 10 [l0, l1, l2] (.inl (-1) :: st) w := rfl
theorem E213_10 (st : List jV) (l0 l1 l2 : Option jV) (w : jH) : jblk jT0 213 cl bk (n + 1) 10 [l0, l1, l2] st w = jblk jT0 213 cl bk n 37 [l0, l1, l2] st w := rfl
theorem E213_13 (a : Nat) (st : List jV) (l1 l2 : Option jV) (w : jH) : jblk jT0 213 cl bk (n + 1) 13 [some (jr a), l1, l2] st w = jblk jT0 213 cl bk n 14 [some (jr a), l1, l2] (jr a :: st) w := rfl
theorem E213_14 (x : Int) (st : List jV) (l0 l2 : Option jV) (w : jH) : jblk jT0 213 cl bk (n + 1) 14 [l0, some (.inl x), l2] st w = jblk jT0 213 cl bk n 15 [l0, some (.inl x), l2] (.inl x :: st) w := rfl
theorem E213_15 (a : Nat) (v0 : jV) (st : List jV) (l0 l1 l2 : Option jV) (w : jH) : jblk jT0 213 cl bk (n + 1) 15 [l0, l1, l2] (v0 :: jr a :: st) w = jsh st (jgo w a 9 fun _ => jcl (cl 206 [jr a, v0] w) (fun v w' => jblk jT0 213 cl bk n 18 [l0, l1, l2] (jpush v st) w') (fun E w' => some (.inr E, w'))) := rfl
theorem E213_18 (a : Nat) (st : List jV) (l1 l2 : Option jV) (w : jH) : jblk jT0 213 cl bk (n + 1) 18 [some (jr a), l1, l2] st w = jblk jT0 213 cl bk n 19 [some (jr a), l1, l2] (jr a :: st) w := rfl
theorem E213_19 (x : Int) (st : List jV) (l0 l1 : Option jV) (w : jH) : jblk jT0 213 cl bk (n + 1) 19 [l0, l1, some (.inl x)] st w = jblk jT0 213 cl bk n 20 [l0, l1, some (.inl x)] (.inl x :: st) w := rfl
theorem E213_20 (a : Nat) (v0 : jV) (st : List jV) (l0 l1 l2 : Option jV) (w : jH) : jblk jT0 213 cl bk (n + 1) 20 [l0, l1, l2] (v0 :: jr a :: st) w = jsh st (jgo w a 9 fun _ => jcl (cl 206 [jr a, v0] w) (fun v w' => jblk jT0 213 cl bk n 23 [l0, l1, l2] (jpush v st) w') (fun E w' => some (.inr E, w'))) := rfl
theorem E213_23 (x : Int) (y : Int) (st : List jV) (l0 l1 l2 : Option jV) (w : jH) : jblk jT0 213 cl bk (n + 1) 23 [l0, l1, l2] (.inl y :: .inl x :: st) w = jblk jT0 213 cl bk n 24 [l0, l1, l2] (.inl (jw (x + y)) :: st) w := rfl
theorem E213_24 (st : List jV) (l0 l1 l2 : Option jV) (w : jH) : jblk jT0 213 cl bk (n + 1) 24 [l0, l1, l2] st w = jblk jT0 213 cl bk n 25 [l0, l1, l2] (.inl 2 :: st) w := rfl
theorem E213_25 (a : Nat) (st : List jV) (l1 l2 : Option jV) (w : jH) : jblk jT0 213 cl bk (n + 1) 25 [some (jr a), l1, l2] st w = jblk jT0 213 cl bk n 26 [some (jr a), l1, l2] (jr a :: st) w := rfl
theorem E213_26 (a : Nat) (st : List jV) (l1 l2 : Option jV) (w : jH) : jblk jT0 213 cl bk (n + 1) 26 [some (jr a), l1, l2] st w = jblk jT0 213 cl bk n 27 [some (jr a), l1, l2] (jr a :: st) w := rfl
theorem E213_27 (x : Int) (st : List jV) (l0 l2 : Option jV) (w : jH) : jblk jT0 213 cl bk (n + 1) 27 [l0, some (.inl x), l2] st w = jblk jT0 213 cl bk n 28 [l0, some (.inl x), l2] (.inl x :: st) w := rfl
theorem E213_28 (x : Int) (st : List jV) (l0 l1 : Option jV) (w : jH) : jblk jT0 213 cl bk (n + 1) 28 [l0, l1, some (.inl x)] st w = jblk jT0 213 cl bk n 29 [l0, l1, some (.inl x)] (.inl x :: st) w := rfl
theorem E213_29 (a : Nat) (v0 : jV) (v1 : jV) (st : List jV) (l0 l1 l2 : Option jV) (w : jH) : jblk jT0 213 cl bk (n + 1) 29 [l0, l1, l2] (v1 :: v0 :: jr a :: st) w = jsh st (jgo w a 9 fun _ => jcl (cl 211 [jr a, v0, v1] w) (fun v w' => jblk jT0 213 cl bk n 32 [l0, l1, l2] (jpush v st) w') (fun E w' => some (.inr E, w'))) := rfl
theorem E213_32 (a : Nat) (v0 : jV) (st : List jV) (l0 l1 l2 : Option jV) (w : jH) : jblk jT0 213 cl bk (n + 1) 32 [l0, l1, l2] (v0 :: jr a :: st) w = jsh st (jgo w a 9 fun _ => jcl (cl 206 [jr a, v0] w) (fun v w' => jblk jT0 213 cl bk n 35 [l0, l1, l2] (jpush v st) w') (fun E w' => some (.inr E, w'))) := rfl
theorem E213_35 (x : Int) (y : Int) (st : List jV) (l0 l1 l2 : Option jV) (w : jH) : jblk jT0 213 cl bk (n + 1) 35 [l0, l1, l2] (.inl y :: .inl x :: st) w = jblk jT0 213 cl bk n 36 [l0, l1, l2] (.inl (jw (x * y)) :: st) w := rfl
theorem E213_36 (x : Int) (y : Int) (st : List jV) (l0 l1 l2 : Option jV) (w : jH) : jblk jT0 213 cl bk (n + 1) 36 [l0, l1, l2] (.inl y :: .inl x :: st) w = jblk jT0 213 cl bk n 37 [l0, l1, l2] (.inl (jw (x - y)) :: st) w := rfl
theorem E213_37 (x : Int) (l0 l1 l2 : Option jV) (w : jH) : jblk jT0 213 cl bk (n + 1) 37 [l0, l1, l2] [.inl x] w = if jfits .int x = true then some (.inl (some (.inl x)), w) else none := rfl
theorem E214_0 (a : Nat) (st : List jV) (l1 l2 : Option jV) (w : jH) : jblk jT0 214 cl bk (n + 1) 0 [some (jr a), l1, l2] st w = jblk jT0 214 cl bk n 1 [some (jr a), l1, l2] (jr a :: st) w := rfl
theorem E214_1 (x : Int) (st : List jV) (l0 l2 : Option jV) (w : jH) : jblk jT0 214 cl bk (n + 1) 1 [l0, some (.inl x), l2] st w = jblk jT0 214 cl bk n 2 [l0, some (.inl x), l2] (.inl x :: st) w := rfl
theorem E214_2 (x : Int) (st : List jV) (l0 l1 : Option jV) (w : jH) : jblk jT0 214 cl bk (n + 1) 2 [l0, l1, some (.inl x)] st w = jblk jT0 214 cl bk n 3 [l0, l1, some (.inl x)] (.inl x :: st) w := rfl
theorem E214_3 (a : Nat) (v0 : jV) (v1 : jV) (st : List jV) (l0 l1 l2 : Option jV) (w : jH) : jblk jT0 214 cl bk (n + 1) 3 [l0, l1, l2] (v1 :: v0 :: jr a :: st) w = jsh st (jgo w a 9 fun _ => jcl (cl 212 [jr a, v0, v1] w) (fun v w' => jblk jT0 214 cl bk n 6 [l0, l1, l2] (jpush v st) w') (fun E w' => some (.inr E, w'))) := rfl
theorem E214_6 (x : Int) (st : List jV) (l0 l1 l2 : Option jV) (w : jH) : jblk jT0 214 cl bk (n + 1) 6 [l0, l1, l2] (.inl x :: st) w = if x = 0 then jblk jT0 214 cl bk n 13 [l0, l1, l2] st w else jblk jT0 214 cl bk n 9 [l0, l1, l2] st w := rfl
theorem E214_9 (st : List jV) (l0 l1 l2 : Option jV) (w : jH) : jblk jT0 214 cl bk (n + 1) 9 [l0, l1, l2] st w = jblk jT0 214 cl bk n 10 [l0, l1, l2] (.inl 0 :: st) w := rfl
theorem E214_10 (st : List jV) (l0 l1 l2 : Option jV) (w : jH) : jblk jT0 214 cl bk (n + 1) 10 [l0, l1, l2] st w = jblk jT0 214 cl bk n 19 [l0, l1, l2] st w := rfl
theorem E214_13 (a : Nat) (st : List jV) (l1 l2 : Option jV) (w : jH) : jblk jT0 214 cl bk (n + 1) 13 [some (jr a), l1, l2] st w = jblk jT0 214 cl bk n 14 [some (jr a), l1, l2] (jr a :: st) w := rfl
theorem E214_14 (x : Int) (st : List jV) (l0 l2 : Option jV) (w : jH) : jblk jT0 214 cl bk (n + 1) 14 [l0, some (.inl x), l2] st w = jblk jT0 214 cl bk n 15 [l0, some (.inl x), l2] (.inl x :: st) w := rfl
theorem E214_15 (x : Int) (st : List jV) (l0 l1 : Option jV) (w : jH) : jblk jT0 214 cl bk (n + 1) 15 [l0, l1, some (.inl x)] st w = jblk jT0 214 cl bk n 16 [l0, l1, some (.inl x)] (.inl x :: st) w := rfl
theorem E214_16 (a : Nat) (v0 : jV) (v1 : jV) (st : List jV) (l0 l1 l2 : Option jV) (w : jH) : jblk jT0 214 cl bk (n + 1) 16 [l0, l1, l2] (v1 :: v0 :: jr a :: st) w = jsh st (jgo w a 9 fun _ => jcl (cl 211 [jr a, v0, v1] w) (fun v w' => jblk jT0 214 cl bk n 19 [l0, l1, l2] (jpush v st) w') (fun E w' => some (.inr E, w'))) := rfl
theorem E214_19 (x : Int) (l0 l1 l2 : Option jV) (w : jH) : jblk jT0 214 cl bk (n + 1) 19 [l0, l1, l2] [.inl x] w = if jfits .int x = true then some (.inl (some (.inl x)), w) else none := rfl
theorem E215_0 (a : Nat) (st : List jV) (l1 l2 : Option jV) (w : jH) : jblk jT0 215 cl bk (n + 1) 0 [some (jr a), l1, l2] st w = jblk jT0 215 cl bk n 1 [some (jr a), l1, l2] (jr a :: st) w := rfl
theorem E215_1 (x : Int) (st : List jV) (l0 l2 : Option jV) (w : jH) : jblk jT0 215 cl bk (n + 1) 1 [l0, some (.inl x), l2] st w = jblk jT0 215 cl bk n 2 [l0, some (.inl x), l2] (.inl x :: st) w := rfl
theorem E215_2 (x : Int) (st : List jV) (l0 l1 : Option jV) (w : jH) : jblk jT0 215 cl bk (n + 1) 2 [l0, l1, some (.inl x)] st w = jblk jT0 215 cl bk n 3 [l0, l1, some (.inl x)] (.inl x :: st) w := rfl
theorem E215_3 (a : Nat) (v0 : jV) (v1 : jV) (st : List jV) (l0 l1 l2 : Option jV) (w : jH) : jblk jT0 215 cl bk (n + 1) 3 [l0, l1, l2] (v1 :: v0 :: jr a :: st) w = jsh st (jgo w a 9 fun _ => jcl (cl 212 [jr a, v0, v1] w) (fun v w' => jblk jT0 215 cl bk n 6 [l0, l1, l2] (jpush v st) w') (fun E w' => some (.inr E, w'))) := rfl
theorem E215_6 (x : Int) (st : List jV) (l0 l1 l2 : Option jV) (w : jH) : jblk jT0 215 cl bk (n + 1) 6 [l0, l1, l2] (.inl x :: st) w = if x = 0 then jblk jT0 215 cl bk n 13 [l0, l1, l2] st w else jblk jT0 215 cl bk n 9 [l0, l1, l2] st w := rfl
theorem E215_9 (st : List jV) (l0 l1 l2 : Option jV) (w : jH) : jblk jT0 215 cl bk (n + 1) 9 [l0, l1, l2] st w = jblk jT0 215 cl bk n 10 [l0, l1, l2] (.inl 0 :: st) w := rfl
theorem E215_10 (st : List jV) (l0 l1 l2 : Option jV) (w : jH) : jblk jT0 215 cl bk (n + 1) 10 [l0, l1, l2] st w = jblk jT0 215 cl bk n 19 [l0, l1, l2] st w := rfl
theorem E215_13 (a : Nat) (st : List jV) (l1 l2 : Option jV) (w : jH) : jblk jT0 215 cl bk (n + 1) 13 [some (jr a), l1, l2] st w = jblk jT0 215 cl bk n 14 [some (jr a), l1, l2] (jr a :: st) w := rfl
theorem E215_14 (x : Int) (st : List jV) (l0 l2 : Option jV) (w : jH) : jblk jT0 215 cl bk (n + 1) 14 [l0, some (.inl x), l2] st w = jblk jT0 215 cl bk n 15 [l0, some (.inl x), l2] (.inl x :: st) w := rfl
theorem E215_15 (x : Int) (st : List jV) (l0 l1 : Option jV) (w : jH) : jblk jT0 215 cl bk (n + 1) 15 [l0, l1, some (.inl x)] st w = jblk jT0 215 cl bk n 16 [l0, l1, some (.inl x)] (.inl x :: st) w := rfl
theorem E215_16 (a : Nat) (v0 : jV) (v1 : jV) (st : List jV) (l0 l1 l2 : Option jV) (w : jH) : jblk jT0 215 cl bk (n + 1) 16 [l0, l1, l2] (v1 :: v0 :: jr a :: st) w = jsh st (jgo w a 9 fun _ => jcl (cl 213 [jr a, v0, v1] w) (fun v w' => jblk jT0 215 cl bk n 19 [l0, l1, l2] (jpush v st) w') (fun E w' => some (.inr E, w'))) := rfl
theorem E215_19 (x : Int) (l0 l1 l2 : Option jV) (w : jH) : jblk jT0 215 cl bk (n + 1) 19 [l0, l1, l2] [.inl x] w = if jfits .int x = true then some (.inl (some (.inl x)), w) else none := rfl
theorem E216_0 (a : Nat) (st : List jV) (l1 l2 : Option jV) (w : jH) : jblk jT0 216 cl bk (n + 1) 0 [some (jr a), l1, l2] st w = jblk jT0 216 cl bk n 1 [some (jr a), l1, l2] (jr a :: st) w := rfl
theorem E216_1 (x : Int) (st : List jV) (l0 l2 : Option jV) (w : jH) : jblk jT0 216 cl bk (n + 1) 1 [l0, some (.inl x), l2] st w = jblk jT0 216 cl bk n 2 [l0, some (.inl x), l2] (.inl x :: st) w := rfl
theorem E216_2 (x : Int) (st : List jV) (l0 l1 : Option jV) (w : jH) : jblk jT0 216 cl bk (n + 1) 2 [l0, l1, some (.inl x)] st w = jblk jT0 216 cl bk n 3 [l0, l1, some (.inl x)] (.inl x :: st) w := rfl
theorem E216_3 (a : Nat) (v0 : jV) (v1 : jV) (st : List jV) (l0 l1 l2 : Option jV) (w : jH) : jblk jT0 216 cl bk (n + 1) 3 [l0, l1, l2] (v1 :: v0 :: jr a :: st) w = jsh st (jgo w a 9 fun _ => jcl (cl 212 [jr a, v0, v1] w) (fun v w' => jblk jT0 216 cl bk n 6 [l0, l1, l2] (jpush v st) w') (fun E w' => some (.inr E, w'))) := rfl
theorem E216_6 (x : Int) (st : List jV) (l0 l1 l2 : Option jV) (w : jH) : jblk jT0 216 cl bk (n + 1) 6 [l0, l1, l2] (.inl x :: st) w = if x = 0 then jblk jT0 216 cl bk n 13 [l0, l1, l2] st w else jblk jT0 216 cl bk n 9 [l0, l1, l2] st w := rfl
theorem E216_9 (st : List jV) (l0 l1 l2 : Option jV) (w : jH) : jblk jT0 216 cl bk (n + 1) 9 [l0, l1, l2] st w = jblk jT0 216 cl bk n 10 [l0, l1, l2] (.inl 0 :: st) w := rfl
theorem E216_10 (st : List jV) (l0 l1 l2 : Option jV) (w : jH) : jblk jT0 216 cl bk (n + 1) 10 [l0, l1, l2] st w = jblk jT0 216 cl bk n 19 [l0, l1, l2] st w := rfl
theorem E216_13 (a : Nat) (st : List jV) (l1 l2 : Option jV) (w : jH) : jblk jT0 216 cl bk (n + 1) 13 [some (jr a), l1, l2] st w = jblk jT0 216 cl bk n 14 [some (jr a), l1, l2] (jr a :: st) w := rfl
theorem E216_14 (x : Int) (st : List jV) (l0 l2 : Option jV) (w : jH) : jblk jT0 216 cl bk (n + 1) 14 [l0, some (.inl x), l2] st w = jblk jT0 216 cl bk n 15 [l0, some (.inl x), l2] (.inl x :: st) w := rfl
theorem E216_15 (x : Int) (st : List jV) (l0 l1 : Option jV) (w : jH) : jblk jT0 216 cl bk (n + 1) 15 [l0, l1, some (.inl x)] st w = jblk jT0 216 cl bk n 16 [l0, l1, some (.inl x)] (.inl x :: st) w := rfl
theorem E216_16 (a : Nat) (v0 : jV) (v1 : jV) (st : List jV) (l0 l1 l2 : Option jV) (w : jH) : jblk jT0 216 cl bk (n + 1) 16 [l0, l1, l2] (v1 :: v0 :: jr a :: st) w = jsh st (jgo w a 9 fun _ => jcl (cl 213 [jr a, v0, v1] w) (fun v w' => jblk jT0 216 cl bk n 19 [l0, l1, l2] (jpush v st) w') (fun E w' => some (.inr E, w'))) := rfl
theorem E216_19 (x : Int) (l0 l1 l2 : Option jV) (w : jH) : jblk jT0 216 cl bk (n + 1) 19 [l0, l1, l2] [.inl x] w = if jfits .int x = true then some (.inl (some (.inl x)), w) else none := rfl
end
theorem M207 (d : Nat) (r0 : Nat) (a1 : Int) (w : jH) : jme jT0 jMx (d + 1) 207 [jr r0, .inl a1] w = jblk jT0 207 (jme jT0 jMx d) (jlp jT0 207 (jme jT0 jMx d) 99999) 4000 0 [some (jr r0), some (.inl a1)] [] w := (show _ = jlp jT0 207 (jme jT0 jMx d) 100000 0 [some (jr r0), some (.inl a1)] [] w from rfl).trans jlp_s
theorem M208 (d : Nat) (r0 : Nat) (a1 : Int) (a2 : Int) (w : jH) : jme jT0 jMx (d + 1) 208 [jr r0, .inl a1, .inl a2] w = jblk jT0 208 (jme jT0 jMx d) (jlp jT0 208 (jme jT0 jMx d) 99999) 4000 0 [some (jr r0), some (.inl a1), some (.inl a2), none] [] w := (show _ = jlp jT0 208 (jme jT0 jMx d) 100000 0 [some (jr r0), some (.inl a1), some (.inl a2), none] [] w from rfl).trans jlp_s
theorem M209 (d : Nat) (r0 : Nat) (a1 : Int) (w : jH) : jme jT0 jMx (d + 1) 209 [jr r0, .inl a1] w = jblk jT0 209 (jme jT0 jMx d) (jlp jT0 209 (jme jT0 jMx d) 99999) 4000 0 [some (jr r0), some (.inl a1), none, none] [] w := (show _ = jlp jT0 209 (jme jT0 jMx d) 100000 0 [some (jr r0), some (.inl a1), none, none] [] w from rfl).trans jlp_s
theorem M210 (d : Nat) (r0 : Nat) (a1 : Int) (a2 : Int) (w : jH) : jme jT0 jMx (d + 1) 210 [jr r0, .inl a1, .inl a2] w = jblk jT0 210 (jme jT0 jMx d) (jlp jT0 210 (jme jT0 jMx d) 99999) 4000 0 [some (jr r0), some (.inl a1), some (.inl a2)] [] w := (show _ = jlp jT0 210 (jme jT0 jMx d) 100000 0 [some (jr r0), some (.inl a1), some (.inl a2)] [] w from rfl).trans jlp_s
theorem M211 (d : Nat) (r0 : Nat) (a1 : Int) (a2 : Int) (w : jH) : jme jT0 jMx (d + 1) 211 [jr r0, .inl a1, .inl a2] w = jblk jT0 211 (jme jT0 jMx d) (jlp jT0 211 (jme jT0 jMx d) 99999) 4000 0 [some (jr r0), some (.inl a1), some (.inl a2), none] [] w := (show _ = jlp jT0 211 (jme jT0 jMx d) 100000 0 [some (jr r0), some (.inl a1), some (.inl a2), none] [] w from rfl).trans jlp_s
theorem M212 (d : Nat) (r0 : Nat) (a1 : Int) (a2 : Int) (w : jH) : jme jT0 jMx (d + 1) 212 [jr r0, .inl a1, .inl a2] w = jblk jT0 212 (jme jT0 jMx d) (jlp jT0 212 (jme jT0 jMx d) 99999) 4000 0 [some (jr r0), some (.inl a1), some (.inl a2)] [] w := (show _ = jlp jT0 212 (jme jT0 jMx d) 100000 0 [some (jr r0), some (.inl a1), some (.inl a2)] [] w from rfl).trans jlp_s
theorem M213 (d : Nat) (r0 : Nat) (a1 : Int) (a2 : Int) (w : jH) : jme jT0 jMx (d + 1) 213 [jr r0, .inl a1, .inl a2] w = jblk jT0 213 (jme jT0 jMx d) (jlp jT0 213 (jme jT0 jMx d) 99999) 4000 0 [some (jr r0), some (.inl a1), some (.inl a2)] [] w := (show _ = jlp jT0 213 (jme jT0 jMx d) 100000 0 [some (jr r0), some (.inl a1), some (.inl a2)] [] w from rfl).trans jlp_s
theorem M214 (d : Nat) (r0 : Nat) (a1 : Int) (a2 : Int) (w : jH) : jme jT0 jMx (d + 1) 214 [jr r0, .inl a1, .inl a2] w = jblk jT0 214 (jme jT0 jMx d) (jlp jT0 214 (jme jT0 jMx d) 99999) 4000 0 [some (jr r0), some (.inl a1), some (.inl a2)] [] w := (show _ = jlp jT0 214 (jme jT0 jMx d) 100000 0 [some (jr r0), some (.inl a1), some (.inl a2)] [] w from rfl).trans jlp_s
theorem M215 (d : Nat) (r0 : Nat) (a1 : Int) (a2 : Int) (w : jH) : jme jT0 jMx (d + 1) 215 [jr r0, .inl a1, .inl a2] w = jblk jT0 215 (jme jT0 jMx d) (jlp jT0 215 (jme jT0 jMx d) 99999) 4000 0 [some (jr r0), some (.inl a1), some (.inl a2)] [] w := (show _ = jlp jT0 215 (jme jT0 jMx d) 100000 0 [some (jr r0), some (.inl a1), some (.inl a2)] [] w from rfl).trans jlp_s
theorem M216 (d : Nat) (r0 : Nat) (a1 : Int) (a2 : Int) (w : jH) : jme jT0 jMx (d + 1) 216 [jr r0, .inl a1, .inl a2] w = jblk jT0 216 (jme jT0 jMx d) (jlp jT0 216 (jme jT0 jMx d) 99999) 4000 0 [some (jr r0), some (.inl a1), some (.inl a2)] [] w := (show _ = jlp jT0 216 (jme jT0 jMx d) 100000 0 [some (jr r0), some (.inl a1), some (.inl a2)] [] w from rfl).trans jlp_s
def f_Mod_generation (m : jMem) (a1 : Int) : Option (Int × jMem) := (f_Mod_isNobody m a1).bind fun qx1 => if qx1.1 = 0 then (f_Mod_depth qx1.2 a1).bind fun x2 => some (x2, qx1.2) else some (0, qx1.2)
section
variable {cf : jCf} {dv : UInt64}
set_option maxRecDepth 20000 in
set_option maxHeartbeats 4000000 in
theorem X207 (d : Nat) (a1 : Int) (m : jMem) (k : jM) : jme jT0 jMx (d + 4) 207 [jr (jn cf + 147), .inl a1] (hp cf dv m, k) = lW cf dv k ijI (f_Mod_generation m a1) := by
  simp only [M207, E207_0, E207_1, E207_2, E207_5, E207_8, E207_9, E207_12, E207_13, E207_14, E207_17, X200, X206, go_147, jsh_n, jsh_I, jsh_R, jsh_II, jsh_IR, jsh_RI, jsh_RR, jsh_III, jsh_IIR, jsh_IRI, jsh_IRR, jsh_RII, jsh_RIR, jsh_RRI, jsh_RRR, jsh_IIII, jsh_IIIR, jsh_IIRI, jsh_IIRR, jsh_IRII, jsh_IRIR, jsh_IRRI, jsh_IRRR, jsh_RIII, jsh_RIIR, jsh_RIRI, jsh_RIRR, jsh_RRII, jsh_RRIR, jsh_RRRI, jsh_RRRR, jthr_hp, jc_l0, jc_lW, jc_lX, jc_lXW, jc_lVW, jc_lVX, jpush_n, jpush_s, obt_0, obt_1, och_0, och_32, och_100, och_115, och_104, och_33, och_43, och_60, jint, jbit, jchr, ijI, ijR, ijD, ijF, ↓reduceIte, Int.reduceEq, Int.reduceLT, reduceCtorEq, lW_bind, lW_ite, lW_none, lW_oix, lW_obt, lW_och, lW_sel, lW_oel, lW_some, f_Mod_generation]
end
def f_Mod_isAboveL : Nat → jMem → Int → Int → Option Int
  | 0, _, _, _ => none
  | N + 1, m, a1, a3 => if a3 < 0 then if a3 < 0 then some 0 else some 1 else if a3 = a1 then if a3 < 0 then some 0 else some 1 else (f_Mod_parent m a3).bind fun x2 => f_Mod_isAboveL N m a1 x2
def f_Mod_isAbove (m : jMem) (a1 : Int) (a2 : Int) : Option Int := (f_Mod_parent m a2).bind fun x1 => f_Mod_isAboveL 99999 m a1 x1
section
variable {cf : jCf} {dv : UInt64}
set_option maxRecDepth 20000 in
set_option maxHeartbeats 4000000 in
theorem X208L (d : Nat) : ∀ (N : Nat) (m : jMem) (k : jM), (∀ (a1 a3 : Int) (z2 : Option jV), jlp jT0 208 (jme jT0 jMx (d + 1)) N 6 [some (jr (jn cf + 147)), some (.inl a1), z2, some (.inl a3)] [] (hp cf dv m, k) = l0 cf dv m k ijI (f_Mod_isAboveL N m a1 a3)) := by
  intro N
  induction N with
  | zero => intro m k; exact by intros; rfl
  | succ N ih =>
    intro m k
    intros
    rw [jlp_s]
    simp only [E208_0, E208_1, E208_2, E208_5, E208_6, E208_7, E208_10, E208_11, E208_12, E208_15, E208_16, E208_17, E208_20, E208_21, E208_24, E208_25, E208_28, E208_29, E208_32, E208_33, X186, go_147, jsh_n, jsh_I, jsh_R, jsh_II, jsh_IR, jsh_RI, jsh_RR, jsh_III, jsh_IIR, jsh_IRI, jsh_IRR, jsh_RII, jsh_RIR, jsh_RRI, jsh_RRR, jsh_IIII, jsh_IIIR, jsh_IIRI, jsh_IIRR, jsh_IRII, jsh_IRIR, jsh_IRRI, jsh_IRRR, jsh_RIII, jsh_RIIR, jsh_RIRI, jsh_RIRR, jsh_RRII, jsh_RRIR, jsh_RRRI, jsh_RRRR, jthr_hp, jc_l0, jc_lW, jc_lX, jc_lXW, jc_lVW, jc_lVX, jpush_n, jpush_s, obt_0, obt_1, och_0, och_32, och_100, och_115, och_104, och_33, och_43, och_60, jint, jbit, jchr, ijI, ijR, ijD, ijF, ↓reduceIte, Int.reduceEq, Int.reduceLT, reduceCtorEq, l0_bind, l0_ite, l0_none, l0_oix, l0_obt, l0_och, l0_sel, l0_oel, l0_some, f_Mod_isAboveL, ih]
set_option maxRecDepth 20000 in
set_option maxHeartbeats 4000000 in
theorem X208 (d : Nat) (a1 : Int) (a2 : Int) (m : jMem) (k : jM) : jme jT0 jMx (d + 2) 208 [jr (jn cf + 147), .inl a1, .inl a2] (hp cf dv m, k) = l0 cf dv m k ijI (f_Mod_isAbove m a1 a2) := by
  simp only [M208, E208_0, E208_1, E208_2, E208_5, E208_6, E208_7, E208_10, E208_11, E208_12, E208_15, E208_16, E208_17, E208_20, E208_21, E208_24, E208_25, E208_28, E208_29, E208_32, E208_33, X186, go_147, jsh_n, jsh_I, jsh_R, jsh_II, jsh_IR, jsh_RI, jsh_RR, jsh_III, jsh_IIR, jsh_IRI, jsh_IRR, jsh_RII, jsh_RIR, jsh_RRI, jsh_RRR, jsh_IIII, jsh_IIIR, jsh_IIRI, jsh_IIRR, jsh_IRII, jsh_IRIR, jsh_IRRI, jsh_IRRR, jsh_RIII, jsh_RIIR, jsh_RIRI, jsh_RIRR, jsh_RRII, jsh_RRIR, jsh_RRRI, jsh_RRRR, jthr_hp, jc_l0, jc_lW, jc_lX, jc_lXW, jc_lVW, jc_lVX, jpush_n, jpush_s, obt_0, obt_1, och_0, och_32, och_100, och_115, och_104, och_33, och_43, och_60, jint, jbit, jchr, ijI, ijR, ijD, ijF, ↓reduceIte, Int.reduceEq, Int.reduceLT, reduceCtorEq, l0_bind, l0_ite, l0_none, l0_oix, l0_obt, l0_och, l0_sel, l0_oel, l0_some, f_Mod_isAbove, X208L]
end
def f_Mod_livingDescendantsL : Nat → jMem → Int → Int → Int → Option (Int × jMem)
  | 0, _, _, _, _ => none
  | N + 1, m, a1, a2, a3 => oix (0 : Int) 138 (if a3 < (m 148 (0 : Int).toNat) then (f_Mod_lives m a3).bind fun x2 => if x2 = 0 then f_Mod_livingDescendantsL N m a1 (jw (a2 + 0)) (jw (a3 + 1)) else (f_Mod_isAbove m a1 a3).bind fun x3 => if x3 = 0 then f_Mod_livingDescendantsL N m a1 (jw (a2 + 0)) (jw (a3 + 1)) else f_Mod_livingDescendantsL N m a1 (jw (a2 + 1)) (jw (a3 + 1)) else some (a2, m))
def f_Mod_livingDescendants (m : jMem) (a1 : Int) : Option (Int × jMem) := (f_Mod_isNobody m a1).bind fun qx1 => if qx1.1 = 0 then f_Mod_livingDescendantsL 99999 qx1.2 a1 0 0 else some (0, qx1.2)
section
variable {cf : jCf} {dv : UInt64}
set_option maxRecDepth 20000 in
set_option maxHeartbeats 4000000 in
theorem X209L (d : Nat) : ∀ (N : Nat) (m : jMem) (k : jM), (∀ (a1 a2 a3 : Int), jlp jT0 209 (jme jT0 jMx (d + 3)) N 14 [some (jr (jn cf + 147)), some (.inl a1), some (.inl a2), some (.inl a3)] [] (hp cf dv m, k) = lW cf dv k ijI (f_Mod_livingDescendantsL N m a1 a2 a3)) := by
  intro N
  induction N with
  | zero => intro m k; exact by intros; rfl
  | succ N ih =>
    intro m k
    intros
    rw [jlp_s]
    simp only [E209_0, E209_1, E209_2, E209_5, E209_8, E209_9, E209_10, E209_11, E209_12, E209_13, E209_14, E209_15, E209_16, E209_19, E209_20, E209_21, E209_24, E209_25, E209_26, E209_27, E209_30, E209_33, E209_34, E209_35, E209_36, E209_39, E209_42, E209_43, E209_46, E209_47, E209_48, E209_49, E209_52, E209_55, E209_56, ai_148, gf_147_0, X187, X200, X208, go_147, jsh_n, jsh_I, jsh_R, jsh_II, jsh_IR, jsh_RI, jsh_RR, jsh_III, jsh_IIR, jsh_IRI, jsh_IRR, jsh_RII, jsh_RIR, jsh_RRI, jsh_RRR, jsh_IIII, jsh_IIIR, jsh_IIRI, jsh_IIRR, jsh_IRII, jsh_IRIR, jsh_IRRI, jsh_IRRR, jsh_RIII, jsh_RIIR, jsh_RIRI, jsh_RIRR, jsh_RRII, jsh_RRIR, jsh_RRRI, jsh_RRRR, jthr_hp, jc_l0, jc_lW, jc_lX, jc_lXW, jc_lVW, jc_lVX, jpush_n, jpush_s, obt_0, obt_1, och_0, och_32, och_100, och_115, och_104, och_33, och_43, och_60, jint, jbit, jchr, ijI, ijR, ijD, ijF, ↓reduceIte, Int.reduceEq, Int.reduceLT, reduceCtorEq, lW_bind, lW_ite, lW_none, lW_oix, lW_obt, lW_och, lW_sel, lW_oel, lW_some, f_Mod_livingDescendantsL, ih]
set_option maxRecDepth 20000 in
set_option maxHeartbeats 4000000 in
theorem X209 (d : Nat) (a1 : Int) (m : jMem) (k : jM) : jme jT0 jMx (d + 4) 209 [jr (jn cf + 147), .inl a1] (hp cf dv m, k) = lW cf dv k ijI (f_Mod_livingDescendants m a1) := by
  simp only [M209, E209_0, E209_1, E209_2, E209_5, E209_8, E209_9, E209_10, E209_11, E209_12, E209_13, E209_14, E209_15, E209_16, E209_19, E209_20, E209_21, E209_24, E209_25, E209_26, E209_27, E209_30, E209_33, E209_34, E209_35, E209_36, E209_39, E209_42, E209_43, E209_46, E209_47, E209_48, E209_49, E209_52, E209_55, E209_56, ai_148, gf_147_0, X187, X200, X208, go_147, jsh_n, jsh_I, jsh_R, jsh_II, jsh_IR, jsh_RI, jsh_RR, jsh_III, jsh_IIR, jsh_IRI, jsh_IRR, jsh_RII, jsh_RIR, jsh_RRI, jsh_RRR, jsh_IIII, jsh_IIIR, jsh_IIRI, jsh_IIRR, jsh_IRII, jsh_IRIR, jsh_IRRI, jsh_IRRR, jsh_RIII, jsh_RIIR, jsh_RIRI, jsh_RIRR, jsh_RRII, jsh_RRIR, jsh_RRRI, jsh_RRRR, jthr_hp, jc_l0, jc_lW, jc_lX, jc_lXW, jc_lVW, jc_lVX, jpush_n, jpush_s, obt_0, obt_1, och_0, och_32, och_100, och_115, och_104, och_33, och_43, och_60, jint, jbit, jchr, ijI, ijR, ijD, ijF, ↓reduceIte, Int.reduceEq, Int.reduceLT, reduceCtorEq, lW_bind, lW_ite, lW_none, lW_oix, lW_obt, lW_och, lW_sel, lW_oel, lW_some, f_Mod_livingDescendants, X209L]
end
def f_Mod_isAncestor (m : jMem) (a1 : Int) (a2 : Int) : Option (Int × jMem) := (f_Mod_arePeople m a1 a2).bind fun x1 => if x1 = 0 then (f_Mod_fails m 1).bind fun qx2 => if qx2.1 = 0 then (f_Mod_isAbove qx2.2 a1 a2).bind fun x3 => if x3 = 0 then some (0, qx2.2) else some (1, qx2.2) else some (0, qx2.2) else (f_Mod_fails m 0).bind fun qx4 => if qx4.1 = 0 then (f_Mod_isAbove qx4.2 a1 a2).bind fun x5 => if x5 = 0 then some (0, qx4.2) else some (1, qx4.2) else some (0, qx4.2)
section
variable {cf : jCf} {dv : UInt64}
set_option maxRecDepth 20000 in
set_option maxHeartbeats 4000000 in
theorem X210 (d : Nat) (a1 : Int) (a2 : Int) (m : jMem) (k : jM) : jme jT0 jMx (d + 4) 210 [jr (jn cf + 147), .inl a1, .inl a2] (hp cf dv m, k) = lW cf dv k ijI (f_Mod_isAncestor m a1 a2) := by
  simp only [M210, E210_0, E210_1, E210_2, E210_3, E210_4, E210_7, E210_10, E210_11, E210_14, E210_15, E210_18, E210_21, E210_22, E210_23, E210_24, E210_27, E210_30, E210_31, E210_34, E210_35, X178, X185, X208, go_147, jsh_n, jsh_I, jsh_R, jsh_II, jsh_IR, jsh_RI, jsh_RR, jsh_III, jsh_IIR, jsh_IRI, jsh_IRR, jsh_RII, jsh_RIR, jsh_RRI, jsh_RRR, jsh_IIII, jsh_IIIR, jsh_IIRI, jsh_IIRR, jsh_IRII, jsh_IRIR, jsh_IRRI, jsh_IRRR, jsh_RIII, jsh_RIIR, jsh_RIRI, jsh_RIRR, jsh_RRII, jsh_RRIR, jsh_RRRI, jsh_RRRR, jthr_hp, jc_l0, jc_lW, jc_lX, jc_lXW, jc_lVW, jc_lVX, jpush_n, jpush_s, obt_0, obt_1, och_0, och_32, och_100, och_115, och_104, och_33, och_43, och_60, jint, jbit, jchr, ijI, ijR, ijD, ijF, ↓reduceIte, Int.reduceEq, Int.reduceLT, reduceCtorEq, lW_bind, lW_ite, lW_none, lW_oix, lW_obt, lW_och, lW_sel, lW_oel, lW_some, f_Mod_isAncestor]
end
def f_Mod_commonL : Nat → jMem → Int → Int → Option Int
  | 0, _, _, _ => none
  | N + 1, m, a2, a3 => if a3 < 0 then some a3 else if a3 = a2 then some a3 else (f_Mod_isAbove m a3 a2).bind fun x1 => if x1 = 0 then (f_Mod_parent m a3).bind fun x2 => f_Mod_commonL N m a2 x2 else some a3
def f_Mod_common (m : jMem) (a1 : Int) (a2 : Int) : Option Int := f_Mod_commonL 99999 m a2 a1
section
variable {cf : jCf} {dv : UInt64}
set_option maxRecDepth 20000 in
set_option maxHeartbeats 4000000 in
theorem X211L (d : Nat) : ∀ (N : Nat) (m : jMem) (k : jM), (∀ (a2 a3 : Int) (z1 : Option jV), jlp jT0 211 (jme jT0 jMx (d + 2)) N 2 [some (jr (jn cf + 147)), z1, some (.inl a2), some (.inl a3)] [] (hp cf dv m, k) = l0 cf dv m k ijI (f_Mod_commonL N m a2 a3)) := by
  intro N
  induction N with
  | zero => intro m k; exact by intros; rfl
  | succ N ih =>
    intro m k
    intros
    rw [jlp_s]
    simp only [E211_0, E211_1, E211_2, E211_3, E211_6, E211_7, E211_8, E211_11, E211_12, E211_13, E211_14, E211_17, E211_20, E211_21, E211_22, E211_25, E211_26, E211_29, E211_30, X186, X208, go_147, jsh_n, jsh_I, jsh_R, jsh_II, jsh_IR, jsh_RI, jsh_RR, jsh_III, jsh_IIR, jsh_IRI, jsh_IRR, jsh_RII, jsh_RIR, jsh_RRI, jsh_RRR, jsh_IIII, jsh_IIIR, jsh_IIRI, jsh_IIRR, jsh_IRII, jsh_IRIR, jsh_IRRI, jsh_IRRR, jsh_RIII, jsh_RIIR, jsh_RIRI, jsh_RIRR, jsh_RRII, jsh_RRIR, jsh_RRRI, jsh_RRRR, jthr_hp, jc_l0, jc_lW, jc_lX, jc_lXW, jc_lVW, jc_lVX, jpush_n, jpush_s, obt_0, obt_1, och_0, och_32, och_100, och_115, och_104, och_33, och_43, och_60, jint, jbit, jchr, ijI, ijR, ijD, ijF, ↓reduceIte, Int.reduceEq, Int.reduceLT, reduceCtorEq, l0_bind, l0_ite, l0_none, l0_oix, l0_obt, l0_och, l0_sel, l0_oel, l0_some, f_Mod_commonL, ih]
set_option maxRecDepth 20000 in
set_option maxHeartbeats 4000000 in
theorem X211 (d : Nat) (a1 : Int) (a2 : Int) (m : jMem) (k : jM) : jme jT0 jMx (d + 3) 211 [jr (jn cf + 147), .inl a1, .inl a2] (hp cf dv m, k) = l0 cf dv m k ijI (f_Mod_common m a1 a2) := by
  simp only [M211, E211_0, E211_1, E211_2, E211_3, E211_6, E211_7, E211_8, E211_11, E211_12, E211_13, E211_14, E211_17, E211_20, E211_21, E211_22, E211_25, E211_26, E211_29, E211_30, X186, X208, go_147, jsh_n, jsh_I, jsh_R, jsh_II, jsh_IR, jsh_RI, jsh_RR, jsh_III, jsh_IIR, jsh_IRI, jsh_IRR, jsh_RII, jsh_RIR, jsh_RRI, jsh_RRR, jsh_IIII, jsh_IIIR, jsh_IIRI, jsh_IIRR, jsh_IRII, jsh_IRIR, jsh_IRRI, jsh_IRRR, jsh_RIII, jsh_RIIR, jsh_RIRI, jsh_RIRR, jsh_RRII, jsh_RRIR, jsh_RRRI, jsh_RRRR, jthr_hp, jc_l0, jc_lW, jc_lX, jc_lXW, jc_lVW, jc_lVX, jpush_n, jpush_s, obt_0, obt_1, och_0, och_32, och_100, och_115, och_104, och_33, och_43, och_60, jint, jbit, jchr, ijI, ijR, ijD, ijF, ↓reduceIte, Int.reduceEq, Int.reduceLT, reduceCtorEq, l0_bind, l0_ite, l0_none, l0_oix, l0_obt, l0_och, l0_sel, l0_oel, l0_some, f_Mod_common, X211L]
end
def f_Mod_areStrangers (m : jMem) (a1 : Int) (a2 : Int) : Option (Int × jMem) := (f_Mod_arePeople m a1 a2).bind fun x1 => if x1 = 0 then (f_Mod_fails m 1).bind fun qx5 => obt qx5.1 (some (qx5.1, qx5.2)) else (f_Mod_common m a1 a2).bind fun x2 => if x2 < 0 then (f_Mod_fails m 2).bind fun qx4 => obt qx4.1 (some (qx4.1, qx4.2)) else (f_Mod_fails m 0).bind fun qx3 => obt qx3.1 (some (qx3.1, qx3.2))
section
variable {cf : jCf} {dv : UInt64}
set_option maxRecDepth 20000 in
set_option maxHeartbeats 4000000 in
theorem X212 (d : Nat) (a1 : Int) (a2 : Int) (m : jMem) (k : jM) : jme jT0 jMx (d + 4) 212 [jr (jn cf + 147), .inl a1, .inl a2] (hp cf dv m, k) = lW cf dv k ijI (f_Mod_areStrangers m a1 a2) := by
  simp only [M212, E212_0, E212_1, E212_2, E212_3, E212_4, E212_7, E212_10, E212_11, E212_14, E212_15, E212_16, E212_17, E212_20, E212_23, E212_24, E212_27, E212_28, E212_31, X178, X185, X211, go_147, jsh_n, jsh_I, jsh_R, jsh_II, jsh_IR, jsh_RI, jsh_RR, jsh_III, jsh_IIR, jsh_IRI, jsh_IRR, jsh_RII, jsh_RIR, jsh_RRI, jsh_RRR, jsh_IIII, jsh_IIIR, jsh_IIRI, jsh_IIRR, jsh_IRII, jsh_IRIR, jsh_IRRI, jsh_IRRR, jsh_RIII, jsh_RIIR, jsh_RIRI, jsh_RIRR, jsh_RRII, jsh_RRIR, jsh_RRRI, jsh_RRRR, jthr_hp, jc_l0, jc_lW, jc_lX, jc_lXW, jc_lVW, jc_lVX, jpush_n, jpush_s, obt_0, obt_1, och_0, och_32, och_100, och_115, och_104, och_33, och_43, och_60, jint, jbit, jchr, ijI, ijR, ijD, ijF, ↓reduceIte, Int.reduceEq, Int.reduceLT, reduceCtorEq, lW_bind, lW_ite, lW_none, lW_oix, lW_obt, lW_och, lW_sel, lW_oel, lW_some, f_Mod_areStrangers]
end
def f_Mod_apart (m : jMem) (a1 : Int) (a2 : Int) : Option Int := (f_Mod_common m a1 a2).bind fun x1 => if x1 < 0 then some (-1) else (f_Mod_depth m a1).bind fun x2 => (f_Mod_depth m a2).bind fun x3 => (f_Mod_common m a1 a2).bind fun x4 => (f_Mod_depth m x4).bind fun x5 => some (jw ((jw (x2 + x3)) - (jw (2 * x5))))
section
variable {cf : jCf} {dv : UInt64}
set_option maxRecDepth 20000 in
set_option maxHeartbeats 4000000 in
theorem X213 (d : Nat) (a1 : Int) (a2 : Int) (m : jMem) (k : jM) : jme jT0 jMx (d + 4) 213 [jr (jn cf + 147), .inl a1, .inl a2] (hp cf dv m, k) = l0 cf dv m k ijI (f_Mod_apart m a1 a2) := by
  simp only [M213, E213_0, E213_1, E213_2, E213_3, E213_6, E213_9, E213_10, E213_13, E213_14, E213_15, E213_18, E213_19, E213_20, E213_23, E213_24, E213_25, E213_26, E213_27, E213_28, E213_29, E213_32, E213_35, E213_36, E213_37, X206, X211, go_147, jsh_n, jsh_I, jsh_R, jsh_II, jsh_IR, jsh_RI, jsh_RR, jsh_III, jsh_IIR, jsh_IRI, jsh_IRR, jsh_RII, jsh_RIR, jsh_RRI, jsh_RRR, jsh_IIII, jsh_IIIR, jsh_IIRI, jsh_IIRR, jsh_IRII, jsh_IRIR, jsh_IRRI, jsh_IRRR, jsh_RIII, jsh_RIIR, jsh_RIRI, jsh_RIRR, jsh_RRII, jsh_RRIR, jsh_RRRI, jsh_RRRR, jthr_hp, jc_l0, jc_lW, jc_lX, jc_lXW, jc_lVW, jc_lVX, jpush_n, jpush_s, obt_0, obt_1, och_0, och_32, och_100, och_115, och_104, och_33, och_43, och_60, jint, jbit, jchr, ijI, ijR, ijD, ijF, ↓reduceIte, Int.reduceEq, Int.reduceLT, reduceCtorEq, l0_bind, l0_ite, l0_none, l0_oix, l0_obt, l0_och, l0_sel, l0_oel, l0_some, f_Mod_apart]
end
def f_Mod_commonAncestor (m : jMem) (a1 : Int) (a2 : Int) : Option (Int × jMem) := (f_Mod_areStrangers m a1 a2).bind fun qx1 => if qx1.1 = 0 then (f_Mod_common qx1.2 a1 a2).bind fun x2 => some (x2, qx1.2) else some (0, qx1.2)
section
variable {cf : jCf} {dv : UInt64}
set_option maxRecDepth 20000 in
set_option maxHeartbeats 4000000 in
theorem X214 (d : Nat) (a1 : Int) (a2 : Int) (m : jMem) (k : jM) : jme jT0 jMx (d + 5) 214 [jr (jn cf + 147), .inl a1, .inl a2] (hp cf dv m, k) = lW cf dv k ijI (f_Mod_commonAncestor m a1 a2) := by
  simp only [M214, E214_0, E214_1, E214_2, E214_3, E214_6, E214_9, E214_10, E214_13, E214_14, E214_15, E214_16, E214_19, X211, X212, go_147, jsh_n, jsh_I, jsh_R, jsh_II, jsh_IR, jsh_RI, jsh_RR, jsh_III, jsh_IIR, jsh_IRI, jsh_IRR, jsh_RII, jsh_RIR, jsh_RRI, jsh_RRR, jsh_IIII, jsh_IIIR, jsh_IIRI, jsh_IIRR, jsh_IRII, jsh_IRIR, jsh_IRRI, jsh_IRRR, jsh_RIII, jsh_RIIR, jsh_RIRI, jsh_RIRR, jsh_RRII, jsh_RRIR, jsh_RRRI, jsh_RRRR, jthr_hp, jc_l0, jc_lW, jc_lX, jc_lXW, jc_lVW, jc_lVX, jpush_n, jpush_s, obt_0, obt_1, och_0, och_32, och_100, och_115, och_104, och_33, och_43, och_60, jint, jbit, jchr, ijI, ijR, ijD, ijF, ↓reduceIte, Int.reduceEq, Int.reduceLT, reduceCtorEq, lW_bind, lW_ite, lW_none, lW_oix, lW_obt, lW_och, lW_sel, lW_oel, lW_some, f_Mod_commonAncestor]
end
def f_Mod_distance (m : jMem) (a1 : Int) (a2 : Int) : Option (Int × jMem) := (f_Mod_areStrangers m a1 a2).bind fun qx1 => if qx1.1 = 0 then (f_Mod_apart qx1.2 a1 a2).bind fun x2 => some (x2, qx1.2) else some (0, qx1.2)
section
variable {cf : jCf} {dv : UInt64}
set_option maxRecDepth 20000 in
set_option maxHeartbeats 4000000 in
theorem X215 (d : Nat) (a1 : Int) (a2 : Int) (m : jMem) (k : jM) : jme jT0 jMx (d + 5) 215 [jr (jn cf + 147), .inl a1, .inl a2] (hp cf dv m, k) = lW cf dv k ijI (f_Mod_distance m a1 a2) := by
  simp only [M215, E215_0, E215_1, E215_2, E215_3, E215_6, E215_9, E215_10, E215_13, E215_14, E215_15, E215_16, E215_19, X212, X213, go_147, jsh_n, jsh_I, jsh_R, jsh_II, jsh_IR, jsh_RI, jsh_RR, jsh_III, jsh_IIR, jsh_IRI, jsh_IRR, jsh_RII, jsh_RIR, jsh_RRI, jsh_RRR, jsh_IIII, jsh_IIIR, jsh_IIRI, jsh_IIRR, jsh_IRII, jsh_IRIR, jsh_IRRI, jsh_IRRR, jsh_RIII, jsh_RIIR, jsh_RIRI, jsh_RIRR, jsh_RRII, jsh_RRIR, jsh_RRRI, jsh_RRRR, jthr_hp, jc_l0, jc_lW, jc_lX, jc_lXW, jc_lVW, jc_lVX, jpush_n, jpush_s, obt_0, obt_1, och_0, och_32, och_100, och_115, och_104, och_33, och_43, och_60, jint, jbit, jchr, ijI, ijR, ijD, ijF, ↓reduceIte, Int.reduceEq, Int.reduceLT, reduceCtorEq, lW_bind, lW_ite, lW_none, lW_oix, lW_obt, lW_och, lW_sel, lW_oel, lW_some, f_Mod_distance]
end
def f_Mod_distanceBySearch (m : jMem) (a1 : Int) (a2 : Int) : Option (Int × jMem) := (f_Mod_areStrangers m a1 a2).bind fun qx1 => if qx1.1 = 0 then (f_Mod_apart qx1.2 a1 a2).bind fun x2 => some (x2, qx1.2) else some (0, qx1.2)
section
variable {cf : jCf} {dv : UInt64}
set_option maxRecDepth 20000 in
set_option maxHeartbeats 4000000 in
theorem X216 (d : Nat) (a1 : Int) (a2 : Int) (m : jMem) (k : jM) : jme jT0 jMx (d + 5) 216 [jr (jn cf + 147), .inl a1, .inl a2] (hp cf dv m, k) = lW cf dv k ijI (f_Mod_distanceBySearch m a1 a2) := by
  simp only [M216, E216_0, E216_1, E216_2, E216_3, E216_6, E216_9, E216_10, E216_13, E216_14, E216_15, E216_16, E216_19, X212, X213, go_147, jsh_n, jsh_I, jsh_R, jsh_II, jsh_IR, jsh_RI, jsh_RR, jsh_III, jsh_IIR, jsh_IRI, jsh_IRR, jsh_RII, jsh_RIR, jsh_RRI, jsh_RRR, jsh_IIII, jsh_IIIR, jsh_IIRI, jsh_IIRR, jsh_IRII, jsh_IRIR, jsh_IRRI, jsh_IRRR, jsh_RIII, jsh_RIIR, jsh_RIRI, jsh_RIRR, jsh_RRII, jsh_RRIR, jsh_RRRI, jsh_RRRR, jthr_hp, jc_l0, jc_lW, jc_lX, jc_lXW, jc_lVW, jc_lVX, jpush_n, jpush_s, obt_0, obt_1, och_0, och_32, och_100, och_115, och_104, och_33, och_43, och_60, jint, jbit, jchr, ijI, ijR, ijD, ijF, ↓reduceIte, Int.reduceEq, Int.reduceLT, reduceCtorEq, lW_bind, lW_ite, lW_none, lW_oix, lW_obt, lW_och, lW_sel, lW_oel, lW_some, f_Mod_distanceBySearch]
end

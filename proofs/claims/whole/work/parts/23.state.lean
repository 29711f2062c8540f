/-! ===== state ===== -/
section
variable (cl : Nat → List jV → jH → jR) (bk : Nat → jL → List jV → jH → jR) (n : Nat)
theorem E55_0 (st : List jV) (l0 l1 l2 : Option jV) (w : jH) : jblk jT0 55 cl bk (n + 1) 0 [l0, l1, l2] st w = jblk jT0 55 cl bk n 1 [l0, l1, l2] (.inl 0 :: st) w := rfl
theorem E55_1 (x : Int) (st : List jV) (l0 l1 l2 : Option jV) (w : jH) : jblk jT0 55 cl bk (n + 1) 1 [l0, l1, l2] (.inl x :: st) w = jblk jT0 55 cl bk n 2 [l0, some (.inl x), l2] st w := rfl
theorem E55_2 (st : List jV) (l0 l1 l2 : Option jV) (w : jH) : jblk jT0 55 cl bk (n + 1) 2 [l0, l1, l2] st w = jblk jT0 55 cl bk n 3 [l0, l1, l2] (.inl 0 :: st) w := rfl
theorem E55_3 (x : Int) (st : List jV) (l0 l1 l2 : Option jV) (w : jH) : jblk jT0 55 cl bk (n + 1) 3 [l0, l1, l2] (.inl x :: st) w = bk 4 [l0, l1, some (.inl x)] st w := rfl
theorem E55_4 (x : Int) (st : List jV) (l0 l1 : Option jV) (w : jH) : jblk jT0 55 cl bk (n + 1) 4 [l0, l1, some (.inl x)] st w = jblk jT0 55 cl bk n 5 [l0, l1, some (.inl x)] (.inl x :: st) w := rfl
theorem E55_5 (a : Nat) (st : List jV) (l1 l2 : Option jV) (w : jH) : jblk jT0 55 cl bk (n + 1) 5 [some (jr a), l1, l2] st w = jblk jT0 55 cl bk n 6 [some (jr a), l1, l2] (jr a :: st) w := rfl
theorem E55_6 (a : Nat) (st : List jV) (l0 l1 l2 : Option jV) (w : jH) : jblk jT0 55 cl bk (n + 1) 6 [l0, l1, l2] (jr a :: st) w = jgf w a 7 0 fun v => jblk jT0 55 cl bk n 9 [l0, l1, l2] (v :: st) w := rfl
theorem E55_9 (a : Nat) (st : List jV) (l0 l1 l2 : Option jV) (w : jH) : jblk jT0 55 cl bk (n + 1) 9 [l0, l1, l2] (jr a :: st) w = jgf w a 0 4 fun v => jblk jT0 55 cl bk n 12 [l0, l1, l2] (v :: st) w := rfl
theorem E55_12 (x : Int) (y : Int) (st : List jV) (l0 l1 l2 : Option jV) (w : jH) : jblk jT0 55 cl bk (n + 1) 12 [l0, l1, l2] (.inl y :: .inl x :: st) w = if x < y then jblk jT0 55 cl bk n 15 [l0, l1, l2] st w else jblk jT0 55 cl bk n 32 [l0, l1, l2] st w := rfl
theorem E55_15 (x : Int) (st : List jV) (l0 l2 : Option jV) (w : jH) : jblk jT0 55 cl bk (n + 1) 15 [l0, some (.inl x), l2] st w = jblk jT0 55 cl bk n 16 [l0, some (.inl x), l2] (.inl x :: st) w := rfl
theorem E55_16 (a : Nat) (st : List jV) (l1 l2 : Option jV) (w : jH) : jblk jT0 55 cl bk (n + 1) 16 [some (jr a), l1, l2] st w = jblk jT0 55 cl bk n 17 [some (jr a), l1, l2] (jr a :: st) w := rfl
theorem E55_17 (a : Nat) (st : List jV) (l0 l1 l2 : Option jV) (w : jH) : jblk jT0 55 cl bk (n + 1) 17 [l0, l1, l2] (jr a :: st) w = jgf w a 7 1 fun v => jblk jT0 55 cl bk n 20 [l0, l1, l2] (v :: st) w := rfl
theorem E55_20 (x : Int) (st : List jV) (l0 l1 : Option jV) (w : jH) : jblk jT0 55 cl bk (n + 1) 20 [l0, l1, some (.inl x)] st w = jblk jT0 55 cl bk n 21 [l0, l1, some (.inl x)] (.inl x :: st) w := rfl
theorem E55_21 (a : Nat) (v0 : jV) (st : List jV) (l0 l1 l2 : Option jV) (w : jH) : jblk jT0 55 cl bk (n + 1) 21 [l0, l1, l2] (v0 :: jr a :: st) w = jsh st (jgo w a 1 fun _ => jcl (cl 43 [jr a, v0] w) (fun v w' => jblk jT0 55 cl bk n 24 [l0, l1, l2] (jpush v st) w') (fun E w' => some (.inr E, w'))) := rfl
theorem E55_24 (x : Int) (y : Int) (st : List jV) (l0 l1 l2 : Option jV) (w : jH) : jblk jT0 55 cl bk (n + 1) 24 [l0, l1, l2] (.inl y :: .inl x :: st) w = jblk jT0 55 cl bk n 25 [l0, l1, l2] (.inl (jw (x + y)) :: st) w := rfl
theorem E55_25 (x : Int) (st : List jV) (l0 l1 l2 : Option jV) (w : jH) : jblk jT0 55 cl bk (n + 1) 25 [l0, l1, l2] (.inl x :: st) w = jblk jT0 55 cl bk n 26 [l0, some (.inl x), l2] st w := rfl
theorem E55_26 (x : Int) (st : List jV) (l0 l1 : Option jV) (w : jH) : jblk jT0 55 cl bk (n + 1) 26 [l0, l1, some (.inl x)] st w = jblk jT0 55 cl bk n 29 [l0, l1, some (.inl (jw (x + 1)))] st w := rfl
theorem E55_29 (st : List jV) (l0 l1 l2 : Option jV) (w : jH) : jblk jT0 55 cl bk (n + 1) 29 [l0, l1, l2] st w = bk 4 [l0, l1, l2] st w := rfl
theorem E55_32 (x : Int) (st : List jV) (l0 l2 : Option jV) (w : jH) : jblk jT0 55 cl bk (n + 1) 32 [l0, some (.inl x), l2] st w = jblk jT0 55 cl bk n 33 [l0, some (.inl x), l2] (.inl x :: st) w := rfl
theorem E55_33 (x : Int) (l0 l1 l2 : Option jV) (w : jH) : jblk jT0 55 cl bk (n + 1) 33 [l0, l1, l2] [.inl x] w = if jfits .int x = true then some (.inl (some (.inl x)), w) else none := rfl
theorem E56_0 (st : List jV) (l0 l1 l2 : Option jV) (w : jH) : jblk jT0 56 cl bk (n + 1) 0 [l0, l1, l2] st w = jblk jT0 56 cl bk n 1 [l0, l1, l2] (.inl 0 :: st) w := rfl
theorem E56_1 (x : Int) (st : List jV) (l0 l1 l2 : Option jV) (w : jH) : jblk jT0 56 cl bk (n + 1) 1 [l0, l1, l2] (.inl x :: st) w = bk 2 [l0, l1, some (.inl x)] st w := rfl
theorem E56_2 (x : Int) (st : List jV) (l0 l1 : Option jV) (w : jH) : jblk jT0 56 cl bk (n + 1) 2 [l0, l1, some (.inl x)] st w = jblk jT0 56 cl bk n 3 [l0, l1, some (.inl x)] (.inl x :: st) w := rfl
theorem E56_3 (a : Nat) (st : List jV) (l1 l2 : Option jV) (w : jH) : jblk jT0 56 cl bk (n + 1) 3 [some (jr a), l1, l2] st w = jblk jT0 56 cl bk n 4 [some (jr a), l1, l2] (jr a :: st) w := rfl
theorem E56_4 (a : Nat) (st : List jV) (l0 l1 l2 : Option jV) (w : jH) : jblk jT0 56 cl bk (n + 1) 4 [l0, l1, l2] (jr a :: st) w = jgf w a 7 0 fun v => jblk jT0 56 cl bk n 7 [l0, l1, l2] (v :: st) w := rfl
theorem E56_7 (a : Nat) (st : List jV) (l0 l1 l2 : Option jV) (w : jH) : jblk jT0 56 cl bk (n + 1) 7 [l0, l1, l2] (jr a :: st) w = jgf w a 0 4 fun v => jblk jT0 56 cl bk n 10 [l0, l1, l2] (v :: st) w := rfl
theorem E56_10 (x : Int) (y : Int) (st : List jV) (l0 l1 l2 : Option jV) (w : jH) : jblk jT0 56 cl bk (n + 1) 10 [l0, l1, l2] (.inl y :: .inl x :: st) w = if x < y then jblk jT0 56 cl bk n 13 [l0, l1, l2] st w else jblk jT0 56 cl bk n 41 [l0, l1, l2] st w := rfl
theorem E56_13 (a : Nat) (st : List jV) (l1 l2 : Option jV) (w : jH) : jblk jT0 56 cl bk (n + 1) 13 [some (jr a), l1, l2] st w = jblk jT0 56 cl bk n 14 [some (jr a), l1, l2] (jr a :: st) w := rfl
theorem E56_14 (a : Nat) (st : List jV) (l0 l1 l2 : Option jV) (w : jH) : jblk jT0 56 cl bk (n + 1) 14 [l0, l1, l2] (jr a :: st) w = jgf w a 7 0 fun v => jblk jT0 56 cl bk n 17 [l0, l1, l2] (v :: st) w := rfl
theorem E56_17 (x : Int) (st : List jV) (l0 l1 : Option jV) (w : jH) : jblk jT0 56 cl bk (n + 1) 17 [l0, l1, some (.inl x)] st w = jblk jT0 56 cl bk n 18 [l0, l1, some (.inl x)] (.inl x :: st) w := rfl
theorem E56_18 (a : Nat) (v0 : jV) (st : List jV) (l0 l1 l2 : Option jV) (w : jH) : jblk jT0 56 cl bk (n + 1) 18 [l0, l1, l2] (v0 :: jr a :: st) w = jsh st (jgo w a 0 fun _ => jcl (cl 2 [jr a, v0] w) (fun v w' => jblk jT0 56 cl bk n 21 [l0, l1, l2] (jpush v st) w') (fun E w' => some (.inr E, w'))) := rfl
theorem E56_21 (x : Int) (st : List jV) (l0 l1 l2 : Option jV) (w : jH) : jblk jT0 56 cl bk (n + 1) 21 [l0, l1, l2] (.inl x :: st) w = if x = 0 then jblk jT0 56 cl bk n 35 [l0, l1, l2] st w else jblk jT0 56 cl bk n 24 [l0, l1, l2] st w := rfl
theorem E56_24 (a : Nat) (st : List jV) (l1 l2 : Option jV) (w : jH) : jblk jT0 56 cl bk (n + 1) 24 [some (jr a), l1, l2] st w = jblk jT0 56 cl bk n 25 [some (jr a), l1, l2] (jr a :: st) w := rfl
theorem E56_25 (x : Int) (st : List jV) (l0 l1 : Option jV) (w : jH) : jblk jT0 56 cl bk (n + 1) 25 [l0, l1, some (.inl x)] st w = jblk jT0 56 cl bk n 26 [l0, l1, some (.inl x)] (.inl x :: st) w := rfl
theorem E56_26 (a : Nat) (v0 : jV) (st : List jV) (l0 l1 l2 : Option jV) (w : jH) : jblk jT0 56 cl bk (n + 1) 26 [l0, l1, l2] (v0 :: jr a :: st) w = jsh st (jgo w a 7 fun _ => jcl (cl 57 [jr a, v0] w) (fun v w' => jblk jT0 56 cl bk n 29 [l0, l1, l2] (jpush v st) w') (fun E w' => some (.inr E, w'))) := rfl
theorem E56_29 (x : Int) (st : List jV) (l0 l2 : Option jV) (w : jH) : jblk jT0 56 cl bk (n + 1) 29 [l0, some (.inl x), l2] st w = jblk jT0 56 cl bk n 30 [l0, some (.inl x), l2] (.inl x :: st) w := rfl
theorem E56_30 (x : Int) (y : Int) (st : List jV) (l0 l1 l2 : Option jV) (w : jH) : jblk jT0 56 cl bk (n + 1) 30 [l0, l1, l2] (.inl y :: .inl x :: st) w = if x = y then jblk jT0 56 cl bk n 33 [l0, l1, l2] st w else jblk jT0 56 cl bk n 35 [l0, l1, l2] st w := rfl
theorem E56_33 (x : Int) (st : List jV) (l0 l1 : Option jV) (w : jH) : jblk jT0 56 cl bk (n + 1) 33 [l0, l1, some (.inl x)] st w = jblk jT0 56 cl bk n 34 [l0, l1, some (.inl x)] (.inl x :: st) w := rfl
theorem E56_34 (x : Int) (l0 l1 l2 : Option jV) (w : jH) : jblk jT0 56 cl bk (n + 1) 34 [l0, l1, l2] [.inl x] w = if jfits .int x = true then some (.inl (some (.inl x)), w) else none := rfl
theorem E56_35 (x : Int) (st : List jV) (l0 l1 : Option jV) (w : jH) : jblk jT0 56 cl bk (n + 1) 35 [l0, l1, some (.inl x)] st w = jblk jT0 56 cl bk n 38 [l0, l1, some (.inl (jw (x + 1)))] st w := rfl
theorem E56_38 (st : List jV) (l0 l1 l2 : Option jV) (w : jH) : jblk jT0 56 cl bk (n + 1) 38 [l0, l1, l2] st w = bk 2 [l0, l1, l2] st w := rfl
theorem E56_41 (st : List jV) (l0 l1 l2 : Option jV) (w : jH) : jblk jT0 56 cl bk (n + 1) 41 [l0, l1, l2] st w = jblk jT0 56 cl bk n 42 [l0, l1, l2] (.inl (-1) :: st) w := rfl
theorem E56_42 (x : Int) (l0 l1 l2 : Option jV) (w : jH) : jblk jT0 56 cl bk (n + 1) 42 [l0, l1, l2] [.inl x] w = if jfits .int x = true then some (.inl (some (.inl x)), w) else none := rfl
theorem E57_0 (st : List jV) (l0 l1 l2 l3 : Option jV) (w : jH) : jblk jT0 57 cl bk (n + 1) 0 [l0, l1, l2, l3] st w = jblk jT0 57 cl bk n 1 [l0, l1, l2, l3] (.inl 0 :: st) w := rfl
theorem E57_1 (x : Int) (st : List jV) (l0 l1 l2 l3 : Option jV) (w : jH) : jblk jT0 57 cl bk (n + 1) 1 [l0, l1, l2, l3] (.inl x :: st) w = jblk jT0 57 cl bk n 2 [l0, l1, some (.inl x), l3] st w := rfl
theorem E57_2 (st : List jV) (l0 l1 l2 l3 : Option jV) (w : jH) : jblk jT0 57 cl bk (n + 1) 2 [l0, l1, l2, l3] st w = jblk jT0 57 cl bk n 3 [l0, l1, l2, l3] (.inl 0 :: st) w := rfl
theorem E57_3 (x : Int) (st : List jV) (l0 l1 l2 l3 : Option jV) (w : jH) : jblk jT0 57 cl bk (n + 1) 3 [l0, l1, l2, l3] (.inl x :: st) w = bk 4 [l0, l1, l2, some (.inl x)] st w := rfl
theorem E57_4 (x : Int) (st : List jV) (l0 l1 l2 : Option jV) (w : jH) : jblk jT0 57 cl bk (n + 1) 4 [l0, l1, l2, some (.inl x)] st w = jblk jT0 57 cl bk n 5 [l0, l1, l2, some (.inl x)] (.inl x :: st) w := rfl
theorem E57_5 (a : Nat) (st : List jV) (l1 l2 l3 : Option jV) (w : jH) : jblk jT0 57 cl bk (n + 1) 5 [some (jr a), l1, l2, l3] st w = jblk jT0 57 cl bk n 6 [some (jr a), l1, l2, l3] (jr a :: st) w := rfl
theorem E57_6 (a : Nat) (st : List jV) (l0 l1 l2 l3 : Option jV) (w : jH) : jblk jT0 57 cl bk (n + 1) 6 [l0, l1, l2, l3] (jr a :: st) w = jgf w a 7 0 fun v => jblk jT0 57 cl bk n 9 [l0, l1, l2, l3] (v :: st) w := rfl
theorem E57_9 (a : Nat) (st : List jV) (l0 l1 l2 l3 : Option jV) (w : jH) : jblk jT0 57 cl bk (n + 1) 9 [l0, l1, l2, l3] (jr a :: st) w = jgf w a 0 4 fun v => jblk jT0 57 cl bk n 12 [l0, l1, l2, l3] (v :: st) w := rfl
theorem E57_12 (x : Int) (y : Int) (st : List jV) (l0 l1 l2 l3 : Option jV) (w : jH) : jblk jT0 57 cl bk (n + 1) 12 [l0, l1, l2, l3] (.inl y :: .inl x :: st) w = if x < y then jblk jT0 57 cl bk n 15 [l0, l1, l2, l3] st w else jblk jT0 57 cl bk n 44 [l0, l1, l2, l3] st w := rfl
theorem E57_15 (a : Nat) (st : List jV) (l1 l2 l3 : Option jV) (w : jH) : jblk jT0 57 cl bk (n + 1) 15 [some (jr a), l1, l2, l3] st w = jblk jT0 57 cl bk n 16 [some (jr a), l1, l2, l3] (jr a :: st) w := rfl
theorem E57_16 (a : Nat) (st : List jV) (l0 l1 l2 l3 : Option jV) (w : jH) : jblk jT0 57 cl bk (n + 1) 16 [l0, l1, l2, l3] (jr a :: st) w = jgf w a 7 0 fun v => jblk jT0 57 cl bk n 19 [l0, l1, l2, l3] (v :: st) w := rfl
theorem E57_19 (x : Int) (st : List jV) (l0 l1 l2 : Option jV) (w : jH) : jblk jT0 57 cl bk (n + 1) 19 [l0, l1, l2, some (.inl x)] st w = jblk jT0 57 cl bk n 20 [l0, l1, l2, some (.inl x)] (.inl x :: st) w := rfl
theorem E57_20 (a : Nat) (v0 : jV) (st : List jV) (l0 l1 l2 l3 : Option jV) (w : jH) : jblk jT0 57 cl bk (n + 1) 20 [l0, l1, l2, l3] (v0 :: jr a :: st) w = jsh st (jgo w a 0 fun _ => jcl (cl 2 [jr a, v0] w) (fun v w' => jblk jT0 57 cl bk n 23 [l0, l1, l2, l3] (jpush v st) w') (fun E w' => some (.inr E, w'))) := rfl
theorem E57_23 (x : Int) (st : List jV) (l0 l1 l2 l3 : Option jV) (w : jH) : jblk jT0 57 cl bk (n + 1) 23 [l0, l1, l2, l3] (.inl x :: st) w = if x = 0 then jblk jT0 57 cl bk n 38 [l0, l1, l2, l3] st w else jblk jT0 57 cl bk n 26 [l0, l1, l2, l3] st w := rfl
theorem E57_26 (a : Nat) (st : List jV) (l1 l2 l3 : Option jV) (w : jH) : jblk jT0 57 cl bk (n + 1) 26 [some (jr a), l1, l2, l3] st w = jblk jT0 57 cl bk n 27 [some (jr a), l1, l2, l3] (jr a :: st) w := rfl
theorem E57_27 (x : Int) (st : List jV) (l0 l1 l2 : Option jV) (w : jH) : jblk jT0 57 cl bk (n + 1) 27 [l0, l1, l2, some (.inl x)] st w = jblk jT0 57 cl bk n 28 [l0, l1, l2, some (.inl x)] (.inl x :: st) w := rfl
theorem E57_28 (x : Int) (st : List jV) (l0 l2 l3 : Option jV) (w : jH) : jblk jT0 57 cl bk (n + 1) 28 [l0, some (.inl x), l2, l3] st w = jblk jT0 57 cl bk n 29 [l0, some (.inl x), l2, l3] (.inl x :: st) w := rfl
theorem E57_29 (a : Nat) (v0 : jV) (v1 : jV) (st : List jV) (l0 l1 l2 l3 : Option jV) (w : jH) : jblk jT0 57 cl bk (n + 1) 29 [l0, l1, l2, l3] (v1 :: v0 :: jr a :: st) w = jsh st (jgo w a 7 fun _ => jcl (cl 58 [jr a, v0, v1] w) (fun v w' => jblk jT0 57 cl bk n 32 [l0, l1, l2, l3] (jpush v st) w') (fun E w' => some (.inr E, w'))) := rfl
theorem E57_32 (x : Int) (st : List jV) (l0 l1 l2 l3 : Option jV) (w : jH) : jblk jT0 57 cl bk (n + 1) 32 [l0, l1, l2, l3] (.inl x :: st) w = if x = 0 then jblk jT0 57 cl bk n 38 [l0, l1, l2, l3] st w else jblk jT0 57 cl bk n 35 [l0, l1, l2, l3] st w := rfl
theorem E57_35 (x : Int) (st : List jV) (l0 l1 l3 : Option jV) (w : jH) : jblk jT0 57 cl bk (n + 1) 35 [l0, l1, some (.inl x), l3] st w = jblk jT0 57 cl bk n 38 [l0, l1, some (.inl (jw (x + 1))), l3] st w := rfl
theorem E57_38 (x : Int) (st : List jV) (l0 l1 l2 : Option jV) (w : jH) : jblk jT0 57 cl bk (n + 1) 38 [l0, l1, l2, some (.inl x)] st w = jblk jT0 57 cl bk n 41 [l0, l1, l2, some (.inl (jw (x + 1)))] st w := rfl
theorem E57_41 (st : List jV) (l0 l1 l2 l3 : Option jV) (w : jH) : jblk jT0 57 cl bk (n + 1) 41 [l0, l1, l2, l3] st w = bk 4 [l0, l1, l2, l3] st w := rfl
theorem E57_44 (x : Int) (st : List jV) (l0 l1 l3 : Option jV) (w : jH) : jblk jT0 57 cl bk (n + 1) 44 [l0, l1, some (.inl x), l3] st w = jblk jT0 57 cl bk n 45 [l0, l1, some (.inl x), l3] (.inl x :: st) w := rfl
theorem E57_45 (x : Int) (l0 l1 l2 l3 : Option jV) (w : jH) : jblk jT0 57 cl bk (n + 1) 45 [l0, l1, l2, l3] [.inl x] w = if jfits .int x = true then some (.inl (some (.inl x)), w) else none := rfl
theorem E58_0 (a : Nat) (st : List jV) (l1 l2 l3 l4 : Option jV) (w : jH) : jblk jT0 58 cl bk (n + 1) 0 [some (jr a), l1, l2, l3, l4] st w = jblk jT0 58 cl bk n 1 [some (jr a), l1, l2, l3, l4] (jr a :: st) w := rfl
theorem E58_1 (a : Nat) (st : List jV) (l0 l1 l2 l3 l4 : Option jV) (w : jH) : jblk jT0 58 cl bk (n + 1) 1 [l0, l1, l2, l3, l4] (jr a :: st) w = jgf w a 7 1 fun v => jblk jT0 58 cl bk n 4 [l0, l1, l2, l3, l4] (v :: st) w := rfl
theorem E58_4 (x : Int) (st : List jV) (l0 l2 l3 l4 : Option jV) (w : jH) : jblk jT0 58 cl bk (n + 1) 4 [l0, some (.inl x), l2, l3, l4] st w = jblk jT0 58 cl bk n 5 [l0, some (.inl x), l2, l3, l4] (.inl x :: st) w := rfl
theorem E58_5 (a : Nat) (v0 : jV) (st : List jV) (l0 l1 l2 l3 l4 : Option jV) (w : jH) : jblk jT0 58 cl bk (n + 1) 5 [l0, l1, l2, l3, l4] (v0 :: jr a :: st) w = jsh st (jgo w a 1 fun _ => jcl (cl 43 [jr a, v0] w) (fun v w' => jblk jT0 58 cl bk n 8 [l0, l1, l2, l3, l4] (jpush v st) w') (fun E w' => some (.inr E, w'))) := rfl
theorem E58_8 (a : Nat) (st : List jV) (l1 l2 l3 l4 : Option jV) (w : jH) : jblk jT0 58 cl bk (n + 1) 8 [some (jr a), l1, l2, l3, l4] st w = jblk jT0 58 cl bk n 9 [some (jr a), l1, l2, l3, l4] (jr a :: st) w := rfl
theorem E58_9 (a : Nat) (st : List jV) (l0 l1 l2 l3 l4 : Option jV) (w : jH) : jblk jT0 58 cl bk (n + 1) 9 [l0, l1, l2, l3, l4] (jr a :: st) w = jgf w a 7 1 fun v => jblk jT0 58 cl bk n 12 [l0, l1, l2, l3, l4] (v :: st) w := rfl
theorem E58_12 (x : Int) (st : List jV) (l0 l1 l3 l4 : Option jV) (w : jH) : jblk jT0 58 cl bk (n + 1) 12 [l0, l1, some (.inl x), l3, l4] st w = jblk jT0 58 cl bk n 13 [l0, l1, some (.inl x), l3, l4] (.inl x :: st) w := rfl
theorem E58_13 (a : Nat) (v0 : jV) (st : List jV) (l0 l1 l2 l3 l4 : Option jV) (w : jH) : jblk jT0 58 cl bk (n + 1) 13 [l0, l1, l2, l3, l4] (v0 :: jr a :: st) w = jsh st (jgo w a 1 fun _ => jcl (cl 43 [jr a, v0] w) (fun v w' => jblk jT0 58 cl bk n 16 [l0, l1, l2, l3, l4] (jpush v st) w') (fun E w' => some (.inr E, w'))) := rfl
theorem E58_16 (x : Int) (y : Int) (st : List jV) (l0 l1 l2 l3 l4 : Option jV) (w : jH) : jblk jT0 58 cl bk (n + 1) 16 [l0, l1, l2, l3, l4] (.inl y :: .inl x :: st) w = jblk jT0 58 cl bk n 17 [l0, l1, l2, l3, l4] (.inl (jw (x - y)) :: st) w := rfl
theorem E58_17 (x : Int) (st : List jV) (l0 l1 l2 l3 l4 : Option jV) (w : jH) : jblk jT0 58 cl bk (n + 1) 17 [l0, l1, l2, l3, l4] (.inl x :: st) w = jblk jT0 58 cl bk n 18 [l0, l1, l2, some (.inl x), l4] st w := rfl
theorem E58_18 (x : Int) (st : List jV) (l0 l1 l2 l4 : Option jV) (w : jH) : jblk jT0 58 cl bk (n + 1) 18 [l0, l1, l2, some (.inl x), l4] st w = jblk jT0 58 cl bk n 19 [l0, l1, l2, some (.inl x), l4] (.inl x :: st) w := rfl
theorem E58_19 (x : Int) (st : List jV) (l0 l1 l2 l3 l4 : Option jV) (w : jH) : jblk jT0 58 cl bk (n + 1) 19 [l0, l1, l2, l3, l4] (.inl x :: st) w = if x = 0 then jblk jT0 58 cl bk n 32 [l0, l1, l2, l3, l4] st w else jblk jT0 58 cl bk n 22 [l0, l1, l2, l3, l4] st w := rfl
theorem E58_22 (x : Int) (st : List jV) (l0 l1 l2 l4 : Option jV) (w : jH) : jblk jT0 58 cl bk (n + 1) 22 [l0, l1, l2, some (.inl x), l4] st w = jblk jT0 58 cl bk n 23 [l0, l1, l2, some (.inl x), l4] (.inl x :: st) w := rfl
theorem E58_23 (x : Int) (st : List jV) (l0 l1 l2 l3 l4 : Option jV) (w : jH) : jblk jT0 58 cl bk (n + 1) 23 [l0, l1, l2, l3, l4] (.inl x :: st) w = if 0 < x then jblk jT0 58 cl bk n 26 [l0, l1, l2, l3, l4] st w else jblk jT0 58 cl bk n 30 [l0, l1, l2, l3, l4] st w := rfl
theorem E58_26 (st : List jV) (l0 l1 l2 l3 l4 : Option jV) (w : jH) : jblk jT0 58 cl bk (n + 1) 26 [l0, l1, l2, l3, l4] st w = jblk jT0 58 cl bk n 27 [l0, l1, l2, l3, l4] (.inl 1 :: st) w := rfl
theorem E58_27 (st : List jV) (l0 l1 l2 l3 l4 : Option jV) (w : jH) : jblk jT0 58 cl bk (n + 1) 27 [l0, l1, l2, l3, l4] st w = jblk jT0 58 cl bk n 31 [l0, l1, l2, l3, l4] st w := rfl
theorem E58_30 (st : List jV) (l0 l1 l2 l3 l4 : Option jV) (w : jH) : jblk jT0 58 cl bk (n + 1) 30 [l0, l1, l2, l3, l4] st w = jblk jT0 58 cl bk n 31 [l0, l1, l2, l3, l4] (.inl 0 :: st) w := rfl
theorem E58_31 (x : Int) (l0 l1 l2 l3 l4 : Option jV) (w : jH) : jblk jT0 58 cl bk (n + 1) 31 [l0, l1, l2, l3, l4] [.inl x] w = if jfits .boolean x = true then some (.inl (some (.inl x)), w) else none := rfl
theorem E58_32 (a : Nat) (st : List jV) (l1 l2 l3 l4 : Option jV) (w : jH) : jblk jT0 58 cl bk (n + 1) 32 [some (jr a), l1, l2, l3, l4] st w = jblk jT0 58 cl bk n 33 [some (jr a), l1, l2, l3, l4] (jr a :: st) w := rfl
theorem E58_33 (a : Nat) (st : List jV) (l0 l1 l2 l3 l4 : Option jV) (w : jH) : jblk jT0 58 cl bk (n + 1) 33 [l0, l1, l2, l3, l4] (jr a :: st) w = jgf w a 7 0 fun v => jblk jT0 58 cl bk n 36 [l0, l1, l2, l3, l4] (v :: st) w := rfl
theorem E58_36 (x : Int) (st : List jV) (l0 l2 l3 l4 : Option jV) (w : jH) : jblk jT0 58 cl bk (n + 1) 36 [l0, some (.inl x), l2, l3, l4] st w = jblk jT0 58 cl bk n 37 [l0, some (.inl x), l2, l3, l4] (.inl x :: st) w := rfl
theorem E58_37 (a : Nat) (v0 : jV) (st : List jV) (l0 l1 l2 l3 l4 : Option jV) (w : jH) : jblk jT0 58 cl bk (n + 1) 37 [l0, l1, l2, l3, l4] (v0 :: jr a :: st) w = jsh st (jgo w a 0 fun _ => jcl (cl 4 [jr a, v0] w) (fun v w' => jblk jT0 58 cl bk n 40 [l0, l1, l2, l3, l4] (jpush v st) w') (fun E w' => some (.inr E, w'))) := rfl
theorem E58_40 (a : Nat) (st : List jV) (l1 l2 l3 l4 : Option jV) (w : jH) : jblk jT0 58 cl bk (n + 1) 40 [some (jr a), l1, l2, l3, l4] st w = jblk jT0 58 cl bk n 41 [some (jr a), l1, l2, l3, l4] (jr a :: st) w := rfl
theorem E58_41 (a : Nat) (st : List jV) (l0 l1 l2 l3 l4 : Option jV) (w : jH) : jblk jT0 58 cl bk (n + 1) 41 [l0, l1, l2, l3, l4] (jr a :: st) w = jgf w a 7 0 fun v => jblk jT0 58 cl bk n 44 [l0, l1, l2, l3, l4] (v :: st) w := rfl
theorem E58_44 (x : Int) (st : List jV) (l0 l1 l3 l4 : Option jV) (w : jH) : jblk jT0 58 cl bk (n + 1) 44 [l0, l1, some (.inl x), l3, l4] st w = jblk jT0 58 cl bk n 45 [l0, l1, some (.inl x), l3, l4] (.inl x :: st) w := rfl
theorem E58_45 (a : Nat) (v0 : jV) (st : List jV) (l0 l1 l2 l3 l4 : Option jV) (w : jH) : jblk jT0 58 cl bk (n + 1) 45 [l0, l1, l2, l3, l4] (v0 :: jr a :: st) w = jsh st (jgo w a 0 fun _ => jcl (cl 4 [jr a, v0] w) (fun v w' => jblk jT0 58 cl bk n 48 [l0, l1, l2, l3, l4] (jpush v st) w') (fun E w' => some (.inr E, w'))) := rfl
theorem E58_48 (x : Int) (y : Int) (st : List jV) (l0 l1 l2 l3 l4 : Option jV) (w : jH) : jblk jT0 58 cl bk (n + 1) 48 [l0, l1, l2, l3, l4] (.inl y :: .inl x :: st) w = jblk jT0 58 cl bk n 49 [l0, l1, l2, l3, l4] (.inl (jw (x - y)) :: st) w := rfl
theorem E58_49 (x : Int) (st : List jV) (l0 l1 l2 l3 l4 : Option jV) (w : jH) : jblk jT0 58 cl bk (n + 1) 49 [l0, l1, l2, l3, l4] (.inl x :: st) w = jblk jT0 58 cl bk n 51 [l0, l1, l2, l3, some (.inl x)] st w := rfl
theorem E58_51 (x : Int) (st : List jV) (l0 l1 l2 l3 : Option jV) (w : jH) : jblk jT0 58 cl bk (n + 1) 51 [l0, l1, l2, l3, some (.inl x)] st w = jblk jT0 58 cl bk n 53 [l0, l1, l2, l3, some (.inl x)] (.inl x :: st) w := rfl
theorem E58_53 (x : Int) (st : List jV) (l0 l1 l2 l3 l4 : Option jV) (w : jH) : jblk jT0 58 cl bk (n + 1) 53 [l0, l1, l2, l3, l4] (.inl x :: st) w = if x < 0 then jblk jT0 58 cl bk n 66 [l0, l1, l2, l3, l4] st w else jblk jT0 58 cl bk n 56 [l0, l1, l2, l3, l4] st w := rfl
theorem E58_56 (x : Int) (st : List jV) (l0 l1 l2 l3 : Option jV) (w : jH) : jblk jT0 58 cl bk (n + 1) 56 [l0, l1, l2, l3, some (.inl x)] st w = jblk jT0 58 cl bk n 58 [l0, l1, l2, l3, some (.inl x)] (.inl x :: st) w := rfl
theorem E58_58 (x : Int) (st : List jV) (l0 l1 l2 l3 l4 : Option jV) (w : jH) : jblk jT0 58 cl bk (n + 1) 58 [l0, l1, l2, l3, l4] (.inl x :: st) w = if x = 0 then jblk jT0 58 cl bk n 61 [l0, l1, l2, l3, l4] st w else jblk jT0 58 cl bk n 70 [l0, l1, l2, l3, l4] st w := rfl
theorem E58_61 (x : Int) (st : List jV) (l0 l2 l3 l4 : Option jV) (w : jH) : jblk jT0 58 cl bk (n + 1) 61 [l0, some (.inl x), l2, l3, l4] st w = jblk jT0 58 cl bk n 62 [l0, some (.inl x), l2, l3, l4] (.inl x :: st) w := rfl
theorem E58_62 (x : Int) (st : List jV) (l0 l1 l3 l4 : Option jV) (w : jH) : jblk jT0 58 cl bk (n + 1) 62 [l0, l1, some (.inl x), l3, l4] st w = jblk jT0 58 cl bk n 63 [l0, l1, some (.inl x), l3, l4] (.inl x :: st) w := rfl
theorem E58_63 (x : Int) (y : Int) (st : List jV) (l0 l1 l2 l3 l4 : Option jV) (w : jH) : jblk jT0 58 cl bk (n + 1) 63 [l0, l1, l2, l3, l4] (.inl y :: .inl x :: st) w = if x < y then jblk jT0 58 cl bk n 66 [l0, l1, l2, l3, l4] st w else jblk jT0 58 cl bk n 70 [l0, l1, l2, l3, l4] st w := rfl
theorem E58_66 (st : List jV) (l0 l1 l2 l3 l4 : Option jV) (w : jH) : jblk jT0 58 cl bk (n + 1) 66 [l0, l1, l2, l3, l4] st w = jblk jT0 58 cl bk n 67 [l0, l1, l2, l3, l4] (.inl 1 :: st) w := rfl
theorem E58_67 (st : List jV) (l0 l1 l2 l3 l4 : Option jV) (w : jH) : jblk jT0 58 cl bk (n + 1) 67 [l0, l1, l2, l3, l4] st w = jblk jT0 58 cl bk n 71 [l0, l1, l2, l3, l4] st w := rfl
theorem E58_70 (st : List jV) (l0 l1 l2 l3 l4 : Option jV) (w : jH) : jblk jT0 58 cl bk (n + 1) 70 [l0, l1, l2, l3, l4] st w = jblk jT0 58 cl bk n 71 [l0, l1, l2, l3, l4] (.inl 0 :: st) w := rfl
theorem E58_71 (x : Int) (l0 l1 l2 l3 l4 : Option jV) (w : jH) : jblk jT0 58 cl bk (n + 1) 71 [l0, l1, l2, l3, l4] [.inl x] w = if jfits .boolean x = true then some (.inl (some (.inl x)), w) else none := rfl
theorem E59_0 (st : List jV) (l0 l1 : Option jV) (w : jH) : jblk jT0 59 cl bk (n + 1) 0 [l0, l1] st w = jblk jT0 59 cl bk n 1 [l0, l1] (.inl 0 :: st) w := rfl
theorem E59_1 (x : Int) (st : List jV) (l0 l1 : Option jV) (w : jH) : jblk jT0 59 cl bk (n + 1) 1 [l0, l1] (.inl x :: st) w = bk 2 [l0, some (.inl x)] st w := rfl
theorem E59_2 (x : Int) (st : List jV) (l0 : Option jV) (w : jH) : jblk jT0 59 cl bk (n + 1) 2 [l0, some (.inl x)] st w = jblk jT0 59 cl bk n 3 [l0, some (.inl x)] (.inl x :: st) w := rfl
theorem E59_3 (a : Nat) (st : List jV) (l1 : Option jV) (w : jH) : jblk jT0 59 cl bk (n + 1) 3 [some (jr a), l1] st w = jblk jT0 59 cl bk n 4 [some (jr a), l1] (jr a :: st) w := rfl
theorem E59_4 (a : Nat) (st : List jV) (l0 l1 : Option jV) (w : jH) : jblk jT0 59 cl bk (n + 1) 4 [l0, l1] (jr a :: st) w = jgf w a 7 0 fun v => jblk jT0 59 cl bk n 7 [l0, l1] (v :: st) w := rfl
theorem E59_7 (a : Nat) (st : List jV) (l0 l1 : Option jV) (w : jH) : jblk jT0 59 cl bk (n + 1) 7 [l0, l1] (jr a :: st) w = jgf w a 0 4 fun v => jblk jT0 59 cl bk n 10 [l0, l1] (v :: st) w := rfl
theorem E59_10 (x : Int) (y : Int) (st : List jV) (l0 l1 : Option jV) (w : jH) : jblk jT0 59 cl bk (n + 1) 10 [l0, l1] (.inl y :: .inl x :: st) w = if x < y then jblk jT0 59 cl bk n 13 [l0, l1] st w else jblk jT0 59 cl bk n 40 [l0, l1] st w := rfl
theorem E59_13 (a : Nat) (st : List jV) (l1 : Option jV) (w : jH) : jblk jT0 59 cl bk (n + 1) 13 [some (jr a), l1] st w = jblk jT0 59 cl bk n 14 [some (jr a), l1] (jr a :: st) w := rfl
theorem E59_14 (a : Nat) (st : List jV) (l0 l1 : Option jV) (w : jH) : jblk jT0 59 cl bk (n + 1) 14 [l0, l1] (jr a :: st) w = jgf w a 7 0 fun v => jblk jT0 59 cl bk n 17 [l0, l1] (v :: st) w := rfl
theorem E59_17 (x : Int) (st : List jV) (l0 : Option jV) (w : jH) : jblk jT0 59 cl bk (n + 1) 17 [l0, some (.inl x)] st w = jblk jT0 59 cl bk n 18 [l0, some (.inl x)] (.inl x :: st) w := rfl
theorem E59_18 (a : Nat) (v0 : jV) (st : List jV) (l0 l1 : Option jV) (w : jH) : jblk jT0 59 cl bk (n + 1) 18 [l0, l1] (v0 :: jr a :: st) w = jsh st (jgo w a 0 fun _ => jcl (cl 20 [jr a, v0] w) (fun v w' => jblk jT0 59 cl bk n 21 [l0, l1] (jpush v st) w') (fun E w' => some (.inr E, w'))) := rfl
theorem E59_21 (a : Nat) (st : List jV) (l1 : Option jV) (w : jH) : jblk jT0 59 cl bk (n + 1) 21 [some (jr a), l1] st w = jblk jT0 59 cl bk n 22 [some (jr a), l1] (jr a :: st) w := rfl
theorem E59_22 (a : Nat) (st : List jV) (l0 l1 : Option jV) (w : jH) : jblk jT0 59 cl bk (n + 1) 22 [l0, l1] (jr a :: st) w = jgf w a 7 0 fun v => jblk jT0 59 cl bk n 25 [l0, l1] (v :: st) w := rfl
theorem E59_25 (x : Int) (st : List jV) (l0 : Option jV) (w : jH) : jblk jT0 59 cl bk (n + 1) 25 [l0, some (.inl x)] st w = jblk jT0 59 cl bk n 26 [l0, some (.inl x)] (.inl x :: st) w := rfl
theorem E59_26 (a : Nat) (v0 : jV) (st : List jV) (l0 l1 : Option jV) (w : jH) : jblk jT0 59 cl bk (n + 1) 26 [l0, l1] (v0 :: jr a :: st) w = jsh st (jgo w a 0 fun _ => jcl (cl 21 [jr a, v0] w) (fun v w' => jblk jT0 59 cl bk n 29 [l0, l1] (jpush v st) w') (fun E w' => some (.inr E, w'))) := rfl
theorem E59_29 (x : Int) (y : Int) (st : List jV) (l0 l1 : Option jV) (w : jH) : jblk jT0 59 cl bk (n + 1) 29 [l0, l1] (.inl y :: .inl x :: st) w = if x = y then jblk jT0 59 cl bk n 34 [l0, l1] st w else jblk jT0 59 cl bk n 32 [l0, l1] st w := rfl
theorem E59_32 (st : List jV) (l0 l1 : Option jV) (w : jH) : jblk jT0 59 cl bk (n + 1) 32 [l0, l1] st w = jblk jT0 59 cl bk n 33 [l0, l1] (.inl 0 :: st) w := rfl
theorem E59_33 (x : Int) (l0 l1 : Option jV) (w : jH) : jblk jT0 59 cl bk (n + 1) 33 [l0, l1] [.inl x] w = if jfits .boolean x = true then some (.inl (some (.inl x)), w) else none := rfl
theorem E59_34 (x : Int) (st : List jV) (l0 : Option jV) (w : jH) : jblk jT0 59 cl bk (n + 1) 34 [l0, some (.inl x)] st w = jblk jT0 59 cl bk n 37 [l0, some (.inl (jw (x + 1)))] st w := rfl
theorem E59_37 (st : List jV) (l0 l1 : Option jV) (w : jH) : jblk jT0 59 cl bk (n + 1) 37 [l0, l1] st w = bk 2 [l0, l1] st w := rfl
theorem E59_40 (st : List jV) (l0 l1 : Option jV) (w : jH) : jblk jT0 59 cl bk (n + 1) 40 [l0, l1] st w = jblk jT0 59 cl bk n 41 [l0, l1] (.inl 1 :: st) w := rfl
theorem E59_41 (x : Int) (l0 l1 : Option jV) (w : jH) : jblk jT0 59 cl bk (n + 1) 41 [l0, l1] [.inl x] w = if jfits .boolean x = true then some (.inl (some (.inl x)), w) else none := rfl
theorem E60_0 (st : List jV) (l0 l1 : Option jV) (w : jH) : jblk jT0 60 cl bk (n + 1) 0 [l0, l1] st w = jblk jT0 60 cl bk n 1 [l0, l1] (.inl 0 :: st) w := rfl
theorem E60_1 (x : Int) (st : List jV) (l0 l1 : Option jV) (w : jH) : jblk jT0 60 cl bk (n + 1) 1 [l0, l1] (.inl x :: st) w = bk 2 [l0, some (.inl x)] st w := rfl
theorem E60_2 (x : Int) (st : List jV) (l0 : Option jV) (w : jH) : jblk jT0 60 cl bk (n + 1) 2 [l0, some (.inl x)] st w = jblk jT0 60 cl bk n 3 [l0, some (.inl x)] (.inl x :: st) w := rfl
theorem E60_3 (a : Nat) (st : List jV) (l1 : Option jV) (w : jH) : jblk jT0 60 cl bk (n + 1) 3 [some (jr a), l1] st w = jblk jT0 60 cl bk n 4 [some (jr a), l1] (jr a :: st) w := rfl
theorem E60_4 (a : Nat) (st : List jV) (l0 l1 : Option jV) (w : jH) : jblk jT0 60 cl bk (n + 1) 4 [l0, l1] (jr a :: st) w = jgf w a 7 1 fun v => jblk jT0 60 cl bk n 7 [l0, l1] (v :: st) w := rfl
theorem E60_7 (a : Nat) (st : List jV) (l0 l1 : Option jV) (w : jH) : jblk jT0 60 cl bk (n + 1) 7 [l0, l1] (jr a :: st) w = jgf w a 1 5 fun v => jblk jT0 60 cl bk n 10 [l0, l1] (v :: st) w := rfl
theorem E60_10 (x : Int) (y : Int) (st : List jV) (l0 l1 : Option jV) (w : jH) : jblk jT0 60 cl bk (n + 1) 10 [l0, l1] (.inl y :: .inl x :: st) w = if x < y then jblk jT0 60 cl bk n 13 [l0, l1] st w else jblk jT0 60 cl bk n 50 [l0, l1] st w := rfl
theorem E60_13 (a : Nat) (st : List jV) (l1 : Option jV) (w : jH) : jblk jT0 60 cl bk (n + 1) 13 [some (jr a), l1] st w = jblk jT0 60 cl bk n 14 [some (jr a), l1] (jr a :: st) w := rfl
theorem E60_14 (a : Nat) (st : List jV) (l0 l1 : Option jV) (w : jH) : jblk jT0 60 cl bk (n + 1) 14 [l0, l1] (jr a :: st) w = jgf w a 7 1 fun v => jblk jT0 60 cl bk n 17 [l0, l1] (v :: st) w := rfl
theorem E60_17 (x : Int) (st : List jV) (l0 : Option jV) (w : jH) : jblk jT0 60 cl bk (n + 1) 17 [l0, some (.inl x)] st w = jblk jT0 60 cl bk n 18 [l0, some (.inl x)] (.inl x :: st) w := rfl
theorem E60_18 (a : Nat) (v0 : jV) (st : List jV) (l0 l1 : Option jV) (w : jH) : jblk jT0 60 cl bk (n + 1) 18 [l0, l1] (v0 :: jr a :: st) w = jsh st (jgo w a 1 fun _ => jcl (cl 29 [jr a, v0] w) (fun v w' => jblk jT0 60 cl bk n 21 [l0, l1] (jpush v st) w') (fun E w' => some (.inr E, w'))) := rfl
theorem E60_21 (x : Int) (st : List jV) (l0 l1 : Option jV) (w : jH) : jblk jT0 60 cl bk (n + 1) 21 [l0, l1] (.inl x :: st) w = if x = 0 then jblk jT0 60 cl bk n 44 [l0, l1] st w else jblk jT0 60 cl bk n 24 [l0, l1] st w := rfl
theorem E60_24 (a : Nat) (st : List jV) (l1 : Option jV) (w : jH) : jblk jT0 60 cl bk (n + 1) 24 [some (jr a), l1] st w = jblk jT0 60 cl bk n 25 [some (jr a), l1] (jr a :: st) w := rfl
theorem E60_25 (a : Nat) (st : List jV) (l0 l1 : Option jV) (w : jH) : jblk jT0 60 cl bk (n + 1) 25 [l0, l1] (jr a :: st) w = jgf w a 7 0 fun v => jblk jT0 60 cl bk n 28 [l0, l1] (v :: st) w := rfl
theorem E60_28 (a : Nat) (st : List jV) (l1 : Option jV) (w : jH) : jblk jT0 60 cl bk (n + 1) 28 [some (jr a), l1] st w = jblk jT0 60 cl bk n 29 [some (jr a), l1] (jr a :: st) w := rfl
theorem E60_29 (a : Nat) (st : List jV) (l0 l1 : Option jV) (w : jH) : jblk jT0 60 cl bk (n + 1) 29 [l0, l1] (jr a :: st) w = jgf w a 7 1 fun v => jblk jT0 60 cl bk n 32 [l0, l1] (v :: st) w := rfl
theorem E60_32 (x : Int) (st : List jV) (l0 : Option jV) (w : jH) : jblk jT0 60 cl bk (n + 1) 32 [l0, some (.inl x)] st w = jblk jT0 60 cl bk n 33 [l0, some (.inl x)] (.inl x :: st) w := rfl
theorem E60_33 (a : Nat) (v0 : jV) (st : List jV) (l0 l1 : Option jV) (w : jH) : jblk jT0 60 cl bk (n + 1) 33 [l0, l1] (v0 :: jr a :: st) w = jsh st (jgo w a 1 fun _ => jcl (cl 28 [jr a, v0] w) (fun v w' => jblk jT0 60 cl bk n 36 [l0, l1] (jpush v st) w') (fun E w' => some (.inr E, w'))) := rfl
theorem E60_36 (a : Nat) (v0 : jV) (st : List jV) (l0 l1 : Option jV) (w : jH) : jblk jT0 60 cl bk (n + 1) 36 [l0, l1] (v0 :: jr a :: st) w = jsh st (jgo w a 0 fun _ => jcl (cl 2 [jr a, v0] w) (fun v w' => jblk jT0 60 cl bk n 39 [l0, l1] (jpush v st) w') (fun E w' => some (.inr E, w'))) := rfl
theorem E60_39 (x : Int) (st : List jV) (l0 l1 : Option jV) (w : jH) : jblk jT0 60 cl bk (n + 1) 39 [l0, l1] (.inl x :: st) w = if x = 0 then jblk jT0 60 cl bk n 42 [l0, l1] st w else jblk jT0 60 cl bk n 44 [l0, l1] st w := rfl
theorem E60_42 (st : List jV) (l0 l1 : Option jV) (w : jH) : jblk jT0 60 cl bk (n + 1) 42 [l0, l1] st w = jblk jT0 60 cl bk n 43 [l0, l1] (.inl 0 :: st) w := rfl
theorem E60_43 (x : Int) (l0 l1 : Option jV) (w : jH) : jblk jT0 60 cl bk (n + 1) 43 [l0, l1] [.inl x] w = if jfits .boolean x = true then some (.inl (some (.inl x)), w) else none := rfl
theorem E60_44 (x : Int) (st : List jV) (l0 : Option jV) (w : jH) : jblk jT0 60 cl bk (n + 1) 44 [l0, some (.inl x)] st w = jblk jT0 60 cl bk n 47 [l0, some (.inl (jw (x + 1)))] st w := rfl
theorem E60_47 (st : List jV) (l0 l1 : Option jV) (w : jH) : jblk jT0 60 cl bk (n + 1) 47 [l0, l1] st w = bk 2 [l0, l1] st w := rfl
theorem E60_50 (st : List jV) (l0 l1 : Option jV) (w : jH) : jblk jT0 60 cl bk (n + 1) 50 [l0, l1] st w = jblk jT0 60 cl bk n 51 [l0, l1] (.inl 1 :: st) w := rfl
theorem E60_51 (x : Int) (l0 l1 : Option jV) (w : jH) : jblk jT0 60 cl bk (n + 1) 51 [l0, l1] [.inl x] w = if jfits .boolean x = true then some (.inl (some (.inl x)), w) else none := rfl
theorem E61_0 (st : List jV) (l0 l1 l2 : Option jV) (w : jH) : jblk jT0 61 cl bk (n + 1) 0 [l0, l1, l2] st w = jblk jT0 61 cl bk n 1 [l0, l1, l2] (.inl 0 :: st) w := rfl
theorem E61_1 (x : Int) (st : List jV) (l0 l1 l2 : Option jV) (w : jH) : jblk jT0 61 cl bk (n + 1) 1 [l0, l1, l2] (.inl x :: st) w = bk 2 [l0, some (.inl x), l2] st w := rfl
theorem E61_2 (x : Int) (st : List jV) (l0 l2 : Option jV) (w : jH) : jblk jT0 61 cl bk (n + 1) 2 [l0, some (.inl x), l2] st w = jblk jT0 61 cl bk n 3 [l0, some (.inl x), l2] (.inl x :: st) w := rfl
theorem E61_3 (a : Nat) (st : List jV) (l1 l2 : Option jV) (w : jH) : jblk jT0 61 cl bk (n + 1) 3 [some (jr a), l1, l2] st w = jblk jT0 61 cl bk n 4 [some (jr a), l1, l2] (jr a :: st) w := rfl
theorem E61_4 (a : Nat) (st : List jV) (l0 l1 l2 : Option jV) (w : jH) : jblk jT0 61 cl bk (n + 1) 4 [l0, l1, l2] (jr a :: st) w = jgf w a 7 1 fun v => jblk jT0 61 cl bk n 7 [l0, l1, l2] (v :: st) w := rfl
theorem E61_7 (a : Nat) (st : List jV) (l0 l1 l2 : Option jV) (w : jH) : jblk jT0 61 cl bk (n + 1) 7 [l0, l1, l2] (jr a :: st) w = jgf w a 1 5 fun v => jblk jT0 61 cl bk n 10 [l0, l1, l2] (v :: st) w := rfl
theorem E61_10 (x : Int) (y : Int) (st : List jV) (l0 l1 l2 : Option jV) (w : jH) : jblk jT0 61 cl bk (n + 1) 10 [l0, l1, l2] (.inl y :: .inl x :: st) w = if x < y then jblk jT0 61 cl bk n 13 [l0, l1, l2] st w else jblk jT0 61 cl bk n 61 [l0, l1, l2] st w := rfl
theorem E61_13 (a : Nat) (st : List jV) (l1 l2 : Option jV) (w : jH) : jblk jT0 61 cl bk (n + 1) 13 [some (jr a), l1, l2] st w = jblk jT0 61 cl bk n 14 [some (jr a), l1, l2] (jr a :: st) w := rfl
theorem E61_14 (a : Nat) (st : List jV) (l0 l1 l2 : Option jV) (w : jH) : jblk jT0 61 cl bk (n + 1) 14 [l0, l1, l2] (jr a :: st) w = jgf w a 7 1 fun v => jblk jT0 61 cl bk n 17 [l0, l1, l2] (v :: st) w := rfl
theorem E61_17 (x : Int) (st : List jV) (l0 l2 : Option jV) (w : jH) : jblk jT0 61 cl bk (n + 1) 17 [l0, some (.inl x), l2] st w = jblk jT0 61 cl bk n 18 [l0, some (.inl x), l2] (.inl x :: st) w := rfl
theorem E61_18 (a : Nat) (v0 : jV) (st : List jV) (l0 l1 l2 : Option jV) (w : jH) : jblk jT0 61 cl bk (n + 1) 18 [l0, l1, l2] (v0 :: jr a :: st) w = jsh st (jgo w a 1 fun _ => jcl (cl 29 [jr a, v0] w) (fun v w' => jblk jT0 61 cl bk n 21 [l0, l1, l2] (jpush v st) w') (fun E w' => some (.inr E, w'))) := rfl
theorem E61_21 (x : Int) (st : List jV) (l0 l1 l2 : Option jV) (w : jH) : jblk jT0 61 cl bk (n + 1) 21 [l0, l1, l2] (.inl x :: st) w = jblk jT0 61 cl bk n 22 [l0, l1, some (.inl x)] st w := rfl
theorem E61_22 (x : Int) (st : List jV) (l0 l1 : Option jV) (w : jH) : jblk jT0 61 cl bk (n + 1) 22 [l0, l1, some (.inl x)] st w = jblk jT0 61 cl bk n 23 [l0, l1, some (.inl x)] (.inl x :: st) w := rfl
theorem E61_23 (x : Int) (st : List jV) (l0 l1 l2 : Option jV) (w : jH) : jblk jT0 61 cl bk (n + 1) 23 [l0, l1, l2] (.inl x :: st) w = if x = 0 then jblk jT0 61 cl bk n 55 [l0, l1, l2] st w else jblk jT0 61 cl bk n 26 [l0, l1, l2] st w := rfl
theorem E61_26 (a : Nat) (st : List jV) (l1 l2 : Option jV) (w : jH) : jblk jT0 61 cl bk (n + 1) 26 [some (jr a), l1, l2] st w = jblk jT0 61 cl bk n 27 [some (jr a), l1, l2] (jr a :: st) w := rfl
theorem E61_27 (a : Nat) (st : List jV) (l0 l1 l2 : Option jV) (w : jH) : jblk jT0 61 cl bk (n + 1) 27 [l0, l1, l2] (jr a :: st) w = jgf w a 7 1 fun v => jblk jT0 61 cl bk n 30 [l0, l1, l2] (v :: st) w := rfl
theorem E61_30 (a : Nat) (st : List jV) (l1 l2 : Option jV) (w : jH) : jblk jT0 61 cl bk (n + 1) 30 [some (jr a), l1, l2] st w = jblk jT0 61 cl bk n 31 [some (jr a), l1, l2] (jr a :: st) w := rfl
theorem E61_31 (a : Nat) (st : List jV) (l0 l1 l2 : Option jV) (w : jH) : jblk jT0 61 cl bk (n + 1) 31 [l0, l1, l2] (jr a :: st) w = jgf w a 7 1 fun v => jblk jT0 61 cl bk n 34 [l0, l1, l2] (v :: st) w := rfl
theorem E61_34 (x : Int) (st : List jV) (l0 l2 : Option jV) (w : jH) : jblk jT0 61 cl bk (n + 1) 34 [l0, some (.inl x), l2] st w = jblk jT0 61 cl bk n 35 [l0, some (.inl x), l2] (.inl x :: st) w := rfl
theorem E61_35 (a : Nat) (v0 : jV) (st : List jV) (l0 l1 l2 : Option jV) (w : jH) : jblk jT0 61 cl bk (n + 1) 35 [l0, l1, l2] (v0 :: jr a :: st) w = jsh st (jgo w a 1 fun _ => jcl (cl 28 [jr a, v0] w) (fun v w' => jblk jT0 61 cl bk n 38 [l0, l1, l2] (jpush v st) w') (fun E w' => some (.inr E, w'))) := rfl
theorem E61_38 (a : Nat) (st : List jV) (l1 l2 : Option jV) (w : jH) : jblk jT0 61 cl bk (n + 1) 38 [some (jr a), l1, l2] st w = jblk jT0 61 cl bk n 39 [some (jr a), l1, l2] (jr a :: st) w := rfl
theorem E61_39 (a : Nat) (st : List jV) (l0 l1 l2 : Option jV) (w : jH) : jblk jT0 61 cl bk (n + 1) 39 [l0, l1, l2] (jr a :: st) w = jgf w a 7 1 fun v => jblk jT0 61 cl bk n 42 [l0, l1, l2] (v :: st) w := rfl
theorem E61_42 (x : Int) (st : List jV) (l0 l2 : Option jV) (w : jH) : jblk jT0 61 cl bk (n + 1) 42 [l0, some (.inl x), l2] st w = jblk jT0 61 cl bk n 43 [l0, some (.inl x), l2] (.inl x :: st) w := rfl
theorem E61_43 (a : Nat) (v0 : jV) (st : List jV) (l0 l1 l2 : Option jV) (w : jH) : jblk jT0 61 cl bk (n + 1) 43 [l0, l1, l2] (v0 :: jr a :: st) w = jsh st (jgo w a 1 fun _ => jcl (cl 26 [jr a, v0] w) (fun v w' => jblk jT0 61 cl bk n 46 [l0, l1, l2] (jpush v st) w') (fun E w' => some (.inr E, w'))) := rfl
theorem E61_46 (a : Nat) (v0 : jV) (v1 : jV) (st : List jV) (l0 l1 l2 : Option jV) (w : jH) : jblk jT0 61 cl bk (n + 1) 46 [l0, l1, l2] (v1 :: v0 :: jr a :: st) w = jsh st (jgo w a 1 fun _ => jcl (cl 33 [jr a, v0, v1] w) (fun v w' => jblk jT0 61 cl bk n 49 [l0, l1, l2] (jpush v st) w') (fun E w' => some (.inr E, w'))) := rfl
theorem E61_49 (x : Int) (st : List jV) (l0 l2 : Option jV) (w : jH) : jblk jT0 61 cl bk (n + 1) 49 [l0, some (.inl x), l2] st w = jblk jT0 61 cl bk n 50 [l0, some (.inl x), l2] (.inl x :: st) w := rfl
theorem E61_50 (x : Int) (y : Int) (st : List jV) (l0 l1 l2 : Option jV) (w : jH) : jblk jT0 61 cl bk (n + 1) 50 [l0, l1, l2] (.inl y :: .inl x :: st) w = if x = y then jblk jT0 61 cl bk n 55 [l0, l1, l2] st w else jblk jT0 61 cl bk n 53 [l0, l1, l2] st w := rfl
theorem E61_53 (st : List jV) (l0 l1 l2 : Option jV) (w : jH) : jblk jT0 61 cl bk (n + 1) 53 [l0, l1, l2] st w = jblk jT0 61 cl bk n 54 [l0, l1, l2] (.inl 0 :: st) w := rfl
theorem E61_54 (x : Int) (l0 l1 l2 : Option jV) (w : jH) : jblk jT0 61 cl bk (n + 1) 54 [l0, l1, l2] [.inl x] w = if jfits .boolean x = true then some (.inl (some (.inl x)), w) else none := rfl
theorem E61_55 (x : Int) (st : List jV) (l0 l2 : Option jV) (w : jH) : jblk jT0 61 cl bk (n + 1) 55 [l0, some (.inl x), l2] st w = jblk jT0 61 cl bk n 58 [l0, some (.inl (jw (x + 1))), l2] st w := rfl
theorem E61_58 (st : List jV) (l0 l1 l2 : Option jV) (w : jH) : jblk jT0 61 cl bk (n + 1) 58 [l0, l1, l2] st w = bk 2 [l0, l1, l2] st w := rfl
theorem E61_61 (st : List jV) (l0 l1 l2 : Option jV) (w : jH) : jblk jT0 61 cl bk (n + 1) 61 [l0, l1, l2] st w = jblk jT0 61 cl bk n 62 [l0, l1, l2] (.inl 1 :: st) w := rfl
theorem E61_62 (x : Int) (l0 l1 l2 : Option jV) (w : jH) : jblk jT0 61 cl bk (n + 1) 62 [l0, l1, l2] [.inl x] w = if jfits .boolean x = true then some (.inl (some (.inl x)), w) else none := rfl
end
theorem M55 (d : Nat) (r0 : Nat) (w : jH) : jme jT0 jMx (d + 1) 55 [jr r0] w = jblk jT0 55 (jme jT0 jMx d) (jlp jT0 55 (jme jT0 jMx d) 99999) 4000 0 [some (jr r0), none, none] [] w := (show _ = jlp jT0 55 (jme jT0 jMx d) 100000 0 [some (jr r0), none, none] [] w from rfl).trans jlp_s
theorem M56 (d : Nat) (r0 : Nat) (a1 : Int) (w : jH) : jme jT0 jMx (d + 1) 56 [jr r0, .inl a1] w = jblk jT0 56 (jme jT0 jMx d) (jlp jT0 56 (jme jT0 jMx d) 99999) 4000 0 [some (jr r0), some (.inl a1), none] [] w := (show _ = jlp jT0 56 (jme jT0 jMx d) 100000 0 [some (jr r0), some (.inl a1), none] [] w from rfl).trans jlp_s
theorem M57 (d : Nat) (r0 : Nat) (a1 : Int) (w : jH) : jme jT0 jMx (d + 1) 57 [jr r0, .inl a1] w = jblk jT0 57 (jme jT0 jMx d) (jlp jT0 57 (jme jT0 jMx d) 99999) 4000 0 [some (jr r0), some (.inl a1), none, none] [] w := (show _ = jlp jT0 57 (jme jT0 jMx d) 100000 0 [some (jr r0), some (.inl a1), none, none] [] w from rfl).trans jlp_s
theorem M58 (d : Nat) (r0 : Nat) (a1 : Int) (a2 : Int) (w : jH) : jme jT0 jMx (d + 1) 58 [jr r0, .inl a1, .inl a2] w = jblk jT0 58 (jme jT0 jMx d) (jlp jT0 58 (jme jT0 jMx d) 99999) 4000 0 [some (jr r0), some (.inl a1), some (.inl a2), none, none] [] w := (show _ = jlp jT0 58 (jme jT0 jMx d) 100000 0 [some (jr r0), some (.inl a1), some (.inl a2), none, none] [] w from rfl).trans jlp_s
theorem M59 (d : Nat) (r0 : Nat) (w : jH) : jme jT0 jMx (d + 1) 59 [jr r0] w = jblk jT0 59 (jme jT0 jMx d) (jlp jT0 59 (jme jT0 jMx d) 99999) 4000 0 [some (jr r0), none] [] w := (show _ = jlp jT0 59 (jme jT0 jMx d) 100000 0 [some (jr r0), none] [] w from rfl).trans jlp_s
theorem M60 (d : Nat) (r0 : Nat) (w : jH) : jme jT0 jMx (d + 1) 60 [jr r0] w = jblk jT0 60 (jme jT0 jMx d) (jlp jT0 60 (jme jT0 jMx d) 99999) 4000 0 [some (jr r0), none] [] w := (show _ = jlp jT0 60 (jme jT0 jMx d) 100000 0 [some (jr r0), none] [] w from rfl).trans jlp_s
theorem M61 (d : Nat) (r0 : Nat) (w : jH) : jme jT0 jMx (d + 1) 61 [jr r0] w = jblk jT0 61 (jme jT0 jMx d) (jlp jT0 61 (jme jT0 jMx d) 99999) 4000 0 [some (jr r0), none, none] [] w := (show _ = jlp jT0 61 (jme jT0 jMx d) 100000 0 [some (jr r0), none, none] [] w from rfl).trans jlp_s
def f_State_sumByPeopleL : Nat → jMem → Int → Int → Option Int
  | 0, _, _, _ => none
  | N + 1, m, a1, a2 => if a2 < (m 2 4) then (f_Habits_sumOf m a2).bind fun x1 => f_State_sumByPeopleL N m (jw (a1 + x1)) (jw (a2 + 1)) else some a1
def f_State_sumByPeople (m : jMem) : Option Int := f_State_sumByPeopleL 99999 m 0 0
section
variable {cf : jCf} {dv : UInt64}
set_option maxRecDepth 20000 in
set_option maxHeartbeats 4000000 in
theorem X55L (d : Nat) : ∀ (N : Nat) (m : jMem) (k : jM), (∀ (a1 a2 : Int), jlp jT0 55 (jme jT0 jMx (d + 1)) N 4 [some (jr (jn cf + 1)), some (.inl a1), some (.inl a2)] [] (hp cf dv m, k) = l0 cf dv m k ijI (f_State_sumByPeopleL N m a1 a2)) := by
  intro N
  induction N with
  | zero => intro m k; exact by intros; rfl
  | succ N ih =>
    intro m k
    intros
    rw [jlp_s]
    simp only [E55_0, E55_1, E55_2, E55_3, E55_4, E55_5, E55_6, E55_9, E55_12, E55_15, E55_16, E55_17, E55_20, E55_21, E55_24, E55_25, E55_26, E55_29, E55_32, E55_33, gf_1_0, gf_1_1, gf_2_4, X43, go_7, jsh_n, jsh_I, jsh_R, jsh_II, jsh_IR, jsh_RI, jsh_RR, jsh_III, jsh_IIR, jsh_IRI, jsh_IRR, jsh_RII, jsh_RIR, jsh_RRI, jsh_RRR, jsh_IIII, jsh_IIIR, jsh_IIRI, jsh_IIRR, jsh_IRII, jsh_IRIR, jsh_IRRI, jsh_IRRR, jsh_RIII, jsh_RIIR, jsh_RIRI, jsh_RIRR, jsh_RRII, jsh_RRIR, jsh_RRRI, jsh_RRRR, jthr_hp, jc_l0, jc_lW, jc_lX, jc_lXW, jc_lVW, jc_lVX, jpush_n, jpush_s, obt_0, obt_1, och_0, och_32, och_100, och_115, och_104, och_33, och_43, och_60, jint, jbit, jchr, ijI, ijR, ijD, ijF, ↓reduceIte, Int.reduceEq, Int.reduceLT, reduceCtorEq, l0_bind, l0_ite, l0_none, l0_oix, l0_obt, l0_och, l0_sel, l0_oel, l0_some, f_State_sumByPeopleL, ih]
set_option maxRecDepth 20000 in
set_option maxHeartbeats 4000000 in
theorem X55 (d : Nat) (m : jMem) (k : jM) : jme jT0 jMx (d + 2) 55 [jr (jn cf + 1)] (hp cf dv m, k) = l0 cf dv m k ijI (f_State_sumByPeople m) := by
  simp only [M55, E55_0, E55_1, E55_2, E55_3, E55_4, E55_5, E55_6, E55_9, E55_12, E55_15, E55_16, E55_17, E55_20, E55_21, E55_24, E55_25, E55_26, E55_29, E55_32, E55_33, gf_1_0, gf_1_1, gf_2_4, X43, go_7, jsh_n, jsh_I, jsh_R, jsh_II, jsh_IR, jsh_RI, jsh_RR, jsh_III, jsh_IIR, jsh_IRI, jsh_IRR, jsh_RII, jsh_RIR, jsh_RRI, jsh_RRR, jsh_IIII, jsh_IIIR, jsh_IIRI, jsh_IIRR, jsh_IRII, jsh_IRIR, jsh_IRRI, jsh_IRRR, jsh_RIII, jsh_RIIR, jsh_RIRI, jsh_RIRR, jsh_RRII, jsh_RRIR, jsh_RRRI, jsh_RRRR, jthr_hp, jc_l0, jc_lW, jc_lX, jc_lXW, jc_lVW, jc_lVX, jpush_n, jpush_s, obt_0, obt_1, och_0, och_32, och_100, och_115, och_104, och_33, och_43, och_60, jint, jbit, jchr, ijI, ijR, ijD, ijF, ↓reduceIte, Int.reduceEq, Int.reduceLT, reduceCtorEq, l0_bind, l0_ite, l0_none, l0_oix, l0_obt, l0_och, l0_sel, l0_oel, l0_some, f_State_sumByPeople, X55L]
end
def f_State_isAhead (m : jMem) (a1 : Int) (a2 : Int) : Option Int := (f_Habits_sumOf m a1).bind fun x1 => (f_Habits_sumOf m a2).bind fun x2 => if (jw (x1 - x2)) = 0 then (f_People_depth m a1).bind fun x3 => (f_People_depth m a2).bind fun x4 => if (jw (x3 - x4)) < 0 then some 1 else if (jw (x3 - x4)) = 0 then if a1 < a2 then some 1 else some 0 else some 0 else if 0 < (jw (x1 - x2)) then some 1 else some 0
section
variable {cf : jCf} {dv : UInt64}
set_option maxRecDepth 20000 in
set_option maxHeartbeats 4000000 in
theorem X58 (d : Nat) (a1 : Int) (a2 : Int) (m : jMem) (k : jM) : jme jT0 jMx (d + 2) 58 [jr (jn cf + 1), .inl a1, .inl a2] (hp cf dv m, k) = l0 cf dv m k ijI (f_State_isAhead m a1 a2) := by
  simp only [M58, E58_0, E58_1, E58_4, E58_5, E58_8, E58_9, E58_12, E58_13, E58_16, E58_17, E58_18, E58_19, E58_22, E58_23, E58_26, E58_27, E58_30, E58_31, E58_32, E58_33, E58_36, E58_37, E58_40, E58_41, E58_44, E58_45, E58_48, E58_49, E58_51, E58_53, E58_56, E58_58, E58_61, E58_62, E58_63, E58_66, E58_67, E58_70, E58_71, gf_1_0, gf_1_1, X4, X43, go_2, go_7, jsh_n, jsh_I, jsh_R, jsh_II, jsh_IR, jsh_RI, jsh_RR, jsh_III, jsh_IIR, jsh_IRI, jsh_IRR, jsh_RII, jsh_RIR, jsh_RRI, jsh_RRR, jsh_IIII, jsh_IIIR, jsh_IIRI, jsh_IIRR, jsh_IRII, jsh_IRIR, jsh_IRRI, jsh_IRRR, jsh_RIII, jsh_RIIR, jsh_RIRI, jsh_RIRR, jsh_RRII, jsh_RRIR, jsh_RRRI, jsh_RRRR, jthr_hp, jc_l0, jc_lW, jc_lX, jc_lXW, jc_lVW, jc_lVX, jpush_n, jpush_s, obt_0, obt_1, och_0, och_32, och_100, och_115, och_104, och_33, och_43, och_60, jint, jbit, jchr, ijI, ijR, ijD, ijF, ↓reduceIte, Int.reduceEq, Int.reduceLT, reduceCtorEq, l0_bind, l0_ite, l0_none, l0_oix, l0_obt, l0_och, l0_sel, l0_oel, l0_some, f_State_isAhead]
end
def f_State_rankL : Nat → jMem → Int → Int → Int → Option Int
  | 0, _, _, _, _ => none
  | N + 1, m, a1, a2, a3 => if a3 < (m 2 4) then (f_People_isLiving m a3).bind fun x1 => if x1 = 0 then f_State_rankL N m a1 a2 (jw (a3 + 1)) else (f_State_isAhead m a3 a1).bind fun x2 => if x2 = 0 then f_State_rankL N m a1 a2 (jw (a3 + 1)) else f_State_rankL N m a1 (jw (a2 + 1)) (jw (a3 + 1)) else some a2
def f_State_rank (m : jMem) (a1 : Int) : Option Int := f_State_rankL 99999 m a1 0 0
section
variable {cf : jCf} {dv : UInt64}
set_option maxRecDepth 20000 in
set_option maxHeartbeats 4000000 in
theorem X57L (d : Nat) : ∀ (N : Nat) (m : jMem) (k : jM), (∀ (a1 a2 a3 : Int), jlp jT0 57 (jme jT0 jMx (d + 2)) N 4 [some (jr (jn cf + 1)), some (.inl a1), some (.inl a2), some (.inl a3)] [] (hp cf dv m, k) = l0 cf dv m k ijI (f_State_rankL N m a1 a2 a3)) := by
  intro N
  induction N with
  | zero => intro m k; exact by intros; rfl
  | succ N ih =>
    intro m k
    intros
    rw [jlp_s]
    simp only [E57_0, E57_1, E57_2, E57_3, E57_4, E57_5, E57_6, E57_9, E57_12, E57_15, E57_16, E57_19, E57_20, E57_23, E57_26, E57_27, E57_28, E57_29, E57_32, E57_35, E57_38, E57_41, E57_44, E57_45, gf_1_0, gf_2_4, X2, X58, go_1, go_2, jsh_n, jsh_I, jsh_R, jsh_II, jsh_IR, jsh_RI, jsh_RR, jsh_III, jsh_IIR, jsh_IRI, jsh_IRR, jsh_RII, jsh_RIR, jsh_RRI, jsh_RRR, jsh_IIII, jsh_IIIR, jsh_IIRI, jsh_IIRR, jsh_IRII, jsh_IRIR, jsh_IRRI, jsh_IRRR, jsh_RIII, jsh_RIIR, jsh_RIRI, jsh_RIRR, jsh_RRII, jsh_RRIR, jsh_RRRI, jsh_RRRR, jthr_hp, jc_l0, jc_lW, jc_lX, jc_lXW, jc_lVW, jc_lVX, jpush_n, jpush_s, obt_0, obt_1, och_0, och_32, och_100, och_115, och_104, och_33, och_43, och_60, jint, jbit, jchr, ijI, ijR, ijD, ijF, ↓reduceIte, Int.reduceEq, Int.reduceLT, reduceCtorEq, l0_bind, l0_ite, l0_none, l0_oix, l0_obt, l0_och, l0_sel, l0_oel, l0_some, f_State_rankL, ih]
set_option maxRecDepth 20000 in
set_option maxHeartbeats 4000000 in
theorem X57 (d : Nat) (a1 : Int) (m : jMem) (k : jM) : jme jT0 jMx (d + 3) 57 [jr (jn cf + 1), .inl a1] (hp cf dv m, k) = l0 cf dv m k ijI (f_State_rank m a1) := by
  simp only [M57, E57_0, E57_1, E57_2, E57_3, E57_4, E57_5, E57_6, E57_9, E57_12, E57_15, E57_16, E57_19, E57_20, E57_23, E57_26, E57_27, E57_28, E57_29, E57_32, E57_35, E57_38, E57_41, E57_44, E57_45, gf_1_0, gf_2_4, X2, X58, go_1, go_2, jsh_n, jsh_I, jsh_R, jsh_II, jsh_IR, jsh_RI, jsh_RR, jsh_III, jsh_IIR, jsh_IRI, jsh_IRR, jsh_RII, jsh_RIR, jsh_RRI, jsh_RRR, jsh_IIII, jsh_IIIR, jsh_IIRI, jsh_IIRR, jsh_IRII, jsh_IRIR, jsh_IRRI, jsh_IRRR, jsh_RIII, jsh_RIIR, jsh_RIRI, jsh_RIRR, jsh_RRII, jsh_RRIR, jsh_RRRI, jsh_RRRR, jthr_hp, jc_l0, jc_lW, jc_lX, jc_lXW, jc_lVW, jc_lVX, jpush_n, jpush_s, obt_0, obt_1, och_0, och_32, och_100, och_115, och_104, och_33, och_43, och_60, jint, jbit, jchr, ijI, ijR, ijD, ijF, ↓reduceIte, Int.reduceEq, Int.reduceLT, reduceCtorEq, l0_bind, l0_ite, l0_none, l0_oix, l0_obt, l0_och, l0_sel, l0_oel, l0_some, f_State_rank, X57L]
end
def f_State_rankedPersonL : Nat → jMem → Int → Int → Option Int
  | 0, _, _, _ => none
  | N + 1, m, a1, a2 => if a2 < (m 2 4) then (f_People_isLiving m a2).bind fun x1 => if x1 = 0 then f_State_rankedPersonL N m a1 (jw (a2 + 1)) else (f_State_rank m a2).bind fun x2 => if x2 = a1 then some a2 else f_State_rankedPersonL N m a1 (jw (a2 + 1)) else some (-1)
def f_State_rankedPerson (m : jMem) (a1 : Int) : Option Int := f_State_rankedPersonL 99999 m a1 0
section
variable {cf : jCf} {dv : UInt64}
set_option maxRecDepth 20000 in
set_option maxHeartbeats 4000000 in
theorem X56L (d : Nat) : ∀ (N : Nat) (m : jMem) (k : jM), (∀ (a1 a2 : Int), jlp jT0 56 (jme jT0 jMx (d + 3)) N 2 [some (jr (jn cf + 1)), some (.inl a1), some (.inl a2)] [] (hp cf dv m, k) = l0 cf dv m k ijI (f_State_rankedPersonL N m a1 a2)) := by
  intro N
  induction N with
  | zero => intro m k; exact by intros; rfl
  | succ N ih =>
    intro m k
    intros
    rw [jlp_s]
    simp only [E56_0, E56_1, E56_2, E56_3, E56_4, E56_7, E56_10, E56_13, E56_14, E56_17, E56_18, E56_21, E56_24, E56_25, E56_26, E56_29, E56_30, E56_33, E56_34, E56_35, E56_38, E56_41, E56_42, gf_1_0, gf_2_4, X2, X57, go_1, go_2, jsh_n, jsh_I, jsh_R, jsh_II, jsh_IR, jsh_RI, jsh_RR, jsh_III, jsh_IIR, jsh_IRI, jsh_IRR, jsh_RII, jsh_RIR, jsh_RRI, jsh_RRR, jsh_IIII, jsh_IIIR, jsh_IIRI, jsh_IIRR, jsh_IRII, jsh_IRIR, jsh_IRRI, jsh_IRRR, jsh_RIII, jsh_RIIR, jsh_RIRI, jsh_RIRR, jsh_RRII, jsh_RRIR, jsh_RRRI, jsh_RRRR, jthr_hp, jc_l0, jc_lW, jc_lX, jc_lXW, jc_lVW, jc_lVX, jpush_n, jpush_s, obt_0, obt_1, och_0, och_32, och_100, och_115, och_104, och_33, och_43, och_60, jint, jbit, jchr, ijI, ijR, ijD, ijF, ↓reduceIte, Int.reduceEq, Int.reduceLT, reduceCtorEq, l0_bind, l0_ite, l0_none, l0_oix, l0_obt, l0_och, l0_sel, l0_oel, l0_some, f_State_rankedPersonL, ih]
set_option maxRecDepth 20000 in
set_option maxHeartbeats 4000000 in
theorem X56 (d : Nat) (a1 : Int) (m : jMem) (k : jM) : jme jT0 jMx (d + 4) 56 [jr (jn cf + 1), .inl a1] (hp cf dv m, k) = l0 cf dv m k ijI (f_State_rankedPerson m a1) := by
  simp only [M56, E56_0, E56_1, E56_2, E56_3, E56_4, E56_7, E56_10, E56_13, E56_14, E56_17, E56_18, E56_21, E56_24, E56_25, E56_26, E56_29, E56_30, E56_33, E56_34, E56_35, E56_38, E56_41, E56_42, gf_1_0, gf_2_4, X2, X57, go_1, go_2, jsh_n, jsh_I, jsh_R, jsh_II, jsh_IR, jsh_RI, jsh_RR, jsh_III, jsh_IIR, jsh_IRI, jsh_IRR, jsh_RII, jsh_RIR, jsh_RRI, jsh_RRR, jsh_IIII, jsh_IIIR, jsh_IIRI, jsh_IIRR, jsh_IRII, jsh_IRIR, jsh_IRRI, jsh_IRRR, jsh_RIII, jsh_RIIR, jsh_RIRI, jsh_RIRR, jsh_RRII, jsh_RRIR, jsh_RRRI, jsh_RRRR, jthr_hp, jc_l0, jc_lW, jc_lX, jc_lXW, jc_lVW, jc_lVX, jpush_n, jpush_s, obt_0, obt_1, och_0, och_32, och_100, och_115, och_104, och_33, och_43, och_60, jint, jbit, jchr, ijI, ijR, ijD, ijF, ↓reduceIte, Int.reduceEq, Int.reduceLT, reduceCtorEq, l0_bind, l0_ite, l0_none, l0_oix, l0_obt, l0_och, l0_sel, l0_oel, l0_some, f_State_rankedPerson, X56L]
end
def f_State_heirsAgreeL : Nat → jMem → Int → Option Int
  | 0, _, _ => none
  | N + 1, m, a1 => if a1 < (m 2 4) then (f_People_heir m a1).bind fun x1 => (f_People_heirAmongAll m a1).bind fun x2 => if x1 = x2 then f_State_heirsAgreeL N m (jw (a1 + 1)) else some 0 else some 1
def f_State_heirsAgree (m : jMem) : Option Int := f_State_heirsAgreeL 99999 m 0
section
variable {cf : jCf} {dv : UInt64}
set_option maxRecDepth 20000 in
set_option maxHeartbeats 4000000 in
theorem X59L (d : Nat) : ∀ (N : Nat) (m : jMem) (k : jM), (∀ (a1 : Int), jlp jT0 59 (jme jT0 jMx (d + 4)) N 2 [some (jr (jn cf + 1)), some (.inl a1)] [] (hp cf dv m, k) = l0 cf dv m k ijI (f_State_heirsAgreeL N m a1)) := by
  intro N
  induction N with
  | zero => intro m k; exact by intros; rfl
  | succ N ih =>
    intro m k
    intros
    rw [jlp_s]
    simp only [E59_0, E59_1, E59_2, E59_3, E59_4, E59_7, E59_10, E59_13, E59_14, E59_17, E59_18, E59_21, E59_22, E59_25, E59_26, E59_29, E59_32, E59_33, E59_34, E59_37, E59_40, E59_41, gf_1_0, gf_2_4, X20, X21, go_2, jsh_n, jsh_I, jsh_R, jsh_II, jsh_IR, jsh_RI, jsh_RR, jsh_III, jsh_IIR, jsh_IRI, jsh_IRR, jsh_RII, jsh_RIR, jsh_RRI, jsh_RRR, jsh_IIII, jsh_IIIR, jsh_IIRI, jsh_IIRR, jsh_IRII, jsh_IRIR, jsh_IRRI, jsh_IRRR, jsh_RIII, jsh_RIIR, jsh_RIRI, jsh_RIRR, jsh_RRII, jsh_RRIR, jsh_RRRI, jsh_RRRR, jthr_hp, jc_l0, jc_lW, jc_lX, jc_lXW, jc_lVW, jc_lVX, jpush_n, jpush_s, obt_0, obt_1, och_0, och_32, och_100, och_115, och_104, och_33, och_43, och_60, jint, jbit, jchr, ijI, ijR, ijD, ijF, ↓reduceIte, Int.reduceEq, Int.reduceLT, reduceCtorEq, l0_bind, l0_ite, l0_none, l0_oix, l0_obt, l0_och, l0_sel, l0_oel, l0_some, f_State_heirsAgreeL, ih]
set_option maxRecDepth 20000 in
set_option maxHeartbeats 4000000 in
theorem X59 (d : Nat) (m : jMem) (k : jM) : jme jT0 jMx (d + 5) 59 [jr (jn cf + 1)] (hp cf dv m, k) = l0 cf dv m k ijI (f_State_heirsAgree m) := by
  simp only [M59, E59_0, E59_1, E59_2, E59_3, E59_4, E59_7, E59_10, E59_13, E59_14, E59_17, E59_18, E59_21, E59_22, E59_25, E59_26, E59_29, E59_32, E59_33, E59_34, E59_37, E59_40, E59_41, gf_1_0, gf_2_4, X20, X21, go_2, jsh_n, jsh_I, jsh_R, jsh_II, jsh_IR, jsh_RI, jsh_RR, jsh_III, jsh_IIR, jsh_IRI, jsh_IRR, jsh_RII, jsh_RIR, jsh_RRI, jsh_RRR, jsh_IIII, jsh_IIIR, jsh_IIRI, jsh_IIRR, jsh_IRII, jsh_IRIR, jsh_IRRI, jsh_IRRR, jsh_RIII, jsh_RIIR, jsh_RIRI, jsh_RIRR, jsh_RRII, jsh_RRIR, jsh_RRRI, jsh_RRRR, jthr_hp, jc_l0, jc_lW, jc_lX, jc_lXW, jc_lVW, jc_lVX, jpush_n, jpush_s, obt_0, obt_1, och_0, och_32, och_100, och_115, och_104, och_33, och_43, och_60, jint, jbit, jchr, ijI, ijR, ijD, ijF, ↓reduceIte, Int.reduceEq, Int.reduceLT, reduceCtorEq, l0_bind, l0_ite, l0_none, l0_oix, l0_obt, l0_och, l0_sel, l0_oel, l0_some, f_State_heirsAgree, X59L]
end
def f_State_holdersLiveL : Nat → jMem → Int → Option Int
  | 0, _, _ => none
  | N + 1, m, a1 => if a1 < (m 7 5) then (f_Habits_isHeld m a1).bind fun x1 => if x1 = 0 then f_State_holdersLiveL N m (jw (a1 + 1)) else (f_Habits_holder m a1).bind fun x2 => (f_People_isLiving m x2).bind fun x3 => if x3 = 0 then some 0 else f_State_holdersLiveL N m (jw (a1 + 1)) else some 1
def f_State_holdersLive (m : jMem) : Option Int := f_State_holdersLiveL 99999 m 0
section
variable {cf : jCf} {dv : UInt64}
set_option maxRecDepth 20000 in
set_option maxHeartbeats 4000000 in
theorem X60L (d : Nat) : ∀ (N : Nat) (m : jMem) (k : jM), (∀ (a1 : Int), jlp jT0 60 (jme jT0 jMx (d + 2)) N 2 [some (jr (jn cf + 1)), some (.inl a1)] [] (hp cf dv m, k) = l0 cf dv m k ijI (f_State_holdersLiveL N m a1)) := by
  intro N
  induction N with
  | zero => intro m k; exact by intros; rfl
  | succ N ih =>
    intro m k
    intros
    rw [jlp_s]
    simp only [E60_0, E60_1, E60_2, E60_3, E60_4, E60_7, E60_10, E60_13, E60_14, E60_17, E60_18, E60_21, E60_24, E60_25, E60_28, E60_29, E60_32, E60_33, E60_36, E60_39, E60_42, E60_43, E60_44, E60_47, E60_50, E60_51, gf_1_0, gf_1_1, gf_7_5, X2, X28, X29, go_2, go_7, jsh_n, jsh_I, jsh_R, jsh_II, jsh_IR, jsh_RI, jsh_RR, jsh_III, jsh_IIR, jsh_IRI, jsh_IRR, jsh_RII, jsh_RIR, jsh_RRI, jsh_RRR, jsh_IIII, jsh_IIIR, jsh_IIRI, jsh_IIRR, jsh_IRII, jsh_IRIR, jsh_IRRI, jsh_IRRR, jsh_RIII, jsh_RIIR, jsh_RIRI, jsh_RIRR, jsh_RRII, jsh_RRIR, jsh_RRRI, jsh_RRRR, jthr_hp, jc_l0, jc_lW, jc_lX, jc_lXW, jc_lVW, jc_lVX, jpush_n, jpush_s, obt_0, obt_1, och_0, och_32, och_100, och_115, och_104, och_33, och_43, och_60, jint, jbit, jchr, ijI, ijR, ijD, ijF, ↓reduceIte, Int.reduceEq, Int.reduceLT, reduceCtorEq, l0_bind, l0_ite, l0_none, l0_oix, l0_obt, l0_och, l0_sel, l0_oel, l0_some, f_State_holdersLiveL, ih]
set_option maxRecDepth 20000 in
set_option maxHeartbeats 4000000 in
theorem X60 (d : Nat) (m : jMem) (k : jM) : jme jT0 jMx (d + 3) 60 [jr (jn cf + 1)] (hp cf dv m, k) = l0 cf dv m k ijI (f_State_holdersLive m) := by
  simp only [M60, E60_0, E60_1, E60_2, E60_3, E60_4, E60_7, E60_10, E60_13, E60_14, E60_17, E60_18, E60_21, E60_24, E60_25, E60_28, E60_29, E60_32, E60_33, E60_36, E60_39, E60_42, E60_43, E60_44, E60_47, E60_50, E60_51, gf_1_0, gf_1_1, gf_7_5, X2, X28, X29, go_2, go_7, jsh_n, jsh_I, jsh_R, jsh_II, jsh_IR, jsh_RI, jsh_RR, jsh_III, jsh_IIR, jsh_IRI, jsh_IRR, jsh_RII, jsh_RIR, jsh_RRI, jsh_RRR, jsh_IIII, jsh_IIIR, jsh_IIRI, jsh_IIRR, jsh_IRII, jsh_IRIR, jsh_IRRI, jsh_IRRR, jsh_RIII, jsh_RIIR, jsh_RIRI, jsh_RIRR, jsh_RRII, jsh_RRIR, jsh_RRRI, jsh_RRRR, jthr_hp, jc_l0, jc_lW, jc_lX, jc_lXW, jc_lVW, jc_lVX, jpush_n, jpush_s, obt_0, obt_1, och_0, och_32, och_100, och_115, och_104, och_33, och_43, och_60, jint, jbit, jchr, ijI, ijR, ijD, ijF, ↓reduceIte, Int.reduceEq, Int.reduceLT, reduceCtorEq, l0_bind, l0_ite, l0_none, l0_oix, l0_obt, l0_och, l0_sel, l0_oel, l0_some, f_State_holdersLive, X60L]
end
def f_State_kindsAreSingleL : Nat → jMem → Int → Option Int
  | 0, _, _ => none
  | N + 1, m, a1 => if a1 < (m 7 5) then (f_Habits_isHeld m a1).bind fun x1 => if x1 = 0 then f_State_kindsAreSingleL N m (jw (a1 + 1)) else (f_Habits_holder m a1).bind fun x2 => (f_Habits_kind m a1).bind fun x3 => (f_Habits_find m x2 x3).bind fun x4 => if x4 = a1 then f_State_kindsAreSingleL N m (jw (a1 + 1)) else some 0 else some 1
def f_State_kindsAreSingle (m : jMem) : Option Int := f_State_kindsAreSingleL 99999 m 0
section
variable {cf : jCf} {dv : UInt64}
set_option maxRecDepth 20000 in
set_option maxHeartbeats 4000000 in
theorem X61L (d : Nat) : ∀ (N : Nat) (m : jMem) (k : jM), (∀ (a1 : Int) (z2 : Option jV), jlp jT0 61 (jme jT0 jMx (d + 2)) N 2 [some (jr (jn cf + 1)), some (.inl a1), z2] [] (hp cf dv m, k) = l0 cf dv m k ijI (f_State_kindsAreSingleL N m a1)) := by
  intro N
  induction N with
  | zero => intro m k; exact by intros; rfl
  | succ N ih =>
    intro m k
    intros
    rw [jlp_s]
    simp only [E61_0, E61_1, E61_2, E61_3, E61_4, E61_7, E61_10, E61_13, E61_14, E61_17, E61_18, E61_21, E61_22, E61_23, E61_26, E61_27, E61_30, E61_31, E61_34, E61_35, E61_38, E61_39, E61_42, E61_43, E61_46, E61_49, E61_50, E61_53, E61_54, E61_55, E61_58, E61_61, E61_62, gf_1_1, gf_7_5, X26, X28, X29, X33, go_7, jsh_n, jsh_I, jsh_R, jsh_II, jsh_IR, jsh_RI, jsh_RR, jsh_III, jsh_IIR, jsh_IRI, jsh_IRR, jsh_RII, jsh_RIR, jsh_RRI, jsh_RRR, jsh_IIII, jsh_IIIR, jsh_IIRI, jsh_IIRR, jsh_IRII, jsh_IRIR, jsh_IRRI, jsh_IRRR, jsh_RIII, jsh_RIIR, jsh_RIRI, jsh_RIRR, jsh_RRII, jsh_RRIR, jsh_RRRI, jsh_RRRR, jthr_hp, jc_l0, jc_lW, jc_lX, jc_lXW, jc_lVW, jc_lVX, jpush_n, jpush_s, obt_0, obt_1, och_0, och_32, och_100, och_115, och_104, och_33, och_43, och_60, jint, jbit, jchr, ijI, ijR, ijD, ijF, ↓reduceIte, Int.reduceEq, Int.reduceLT, reduceCtorEq, l0_bind, l0_ite, l0_none, l0_oix, l0_obt, l0_och, l0_sel, l0_oel, l0_some, f_State_kindsAreSingleL, ih]
set_option maxRecDepth 20000 in
set_option maxHeartbeats 4000000 in
theorem X61 (d : Nat) (m : jMem) (k : jM) : jme jT0 jMx (d + 3) 61 [jr (jn cf + 1)] (hp cf dv m, k) = l0 cf dv m k ijI (f_State_kindsAreSingle m) := by
  simp only [M61, E61_0, E61_1, E61_2, E61_3, E61_4, E61_7, E61_10, E61_13, E61_14, E61_17, E61_18, E61_21, E61_22, E61_23, E61_26, E61_27, E61_30, E61_31, E61_34, E61_35, E61_38, E61_39, E61_42, E61_43, E61_46, E61_49, E61_50, E61_53, E61_54, E61_55, E61_58, E61_61, E61_62, gf_1_1, gf_7_5, X26, X28, X29, X33, go_7, jsh_n, jsh_I, jsh_R, jsh_II, jsh_IR, jsh_RI, jsh_RR, jsh_III, jsh_IIR, jsh_IRI, jsh_IRR, jsh_RII, jsh_RIR, jsh_RRI, jsh_RRR, jsh_IIII, jsh_IIIR, jsh_IIRI, jsh_IIRR, jsh_IRII, jsh_IRIR, jsh_IRRI, jsh_IRRR, jsh_RIII, jsh_RIIR, jsh_RIRI, jsh_RIRR, jsh_RRII, jsh_RRIR, jsh_RRRI, jsh_RRRR, jthr_hp, jc_l0, jc_lW, jc_lX, jc_lXW, jc_lVW, jc_lVX, jpush_n, jpush_s, obt_0, obt_1, och_0, och_32, och_100, och_115, och_104, och_33, och_43, och_60, jint, jbit, jchr, ijI, ijR, ijD, ijF, ↓reduceIte, Int.reduceEq, Int.reduceLT, reduceCtorEq, l0_bind, l0_ite, l0_none, l0_oix, l0_obt, l0_och, l0_sel, l0_oel, l0_some, f_State_kindsAreSingle, X61L]
end

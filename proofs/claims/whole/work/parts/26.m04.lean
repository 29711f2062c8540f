/-! ===== the model 4 ===== -/
section
variable (cl : Nat → List jV → jH → jR) (bk : Nat → jL → List jV → jH → jR) (n : Nat)
theorem E217_0 (a : Nat) (st : List jV) (l1 : Option jV) (w : jH) : jblk jT0 217 cl bk (n + 1) 0 [some (jr a), l1] st w = jblk jT0 217 cl bk n 1 [some (jr a), l1] (jr a :: st) w := rfl
theorem E217_1 (a : Nat) (st : List jV) (l1 : Option jV) (w : jH) : jblk jT0 217 cl bk (n + 1) 1 [some (jr a), l1] st w = jblk jT0 217 cl bk n 2 [some (jr a), l1] (jr a :: st) w := rfl
theorem E217_2 (x : Int) (st : List jV) (l0 : Option jV) (w : jH) : jblk jT0 217 cl bk (n + 1) 2 [l0, some (.inl x)] st w = jblk jT0 217 cl bk n 3 [l0, some (.inl x)] (.inl x :: st) w := rfl
theorem E217_3 (a : Nat) (v0 : jV) (st : List jV) (l0 l1 : Option jV) (w : jH) : jblk jT0 217 cl bk (n + 1) 3 [l0, l1] (v0 :: jr a :: st) w = jsh st (jgo w a 9 fun _ => jcl (cl 184 [jr a, v0] w) (fun v w' => jblk jT0 217 cl bk n 6 [l0, l1] (jpush v st) w') (fun E w' => some (.inr E, w'))) := rfl
theorem E217_6 (x : Int) (st : List jV) (l0 l1 : Option jV) (w : jH) : jblk jT0 217 cl bk (n + 1) 6 [l0, l1] (.inl x :: st) w = if x = 0 then jblk jT0 217 cl bk n 9 [l0, l1] st w else jblk jT0 217 cl bk n 13 [l0, l1] st w := rfl
theorem E217_9 (st : List jV) (l0 l1 : Option jV) (w : jH) : jblk jT0 217 cl bk (n + 1) 9 [l0, l1] st w = jblk jT0 217 cl bk n 10 [l0, l1] (.inl 1 :: st) w := rfl
theorem E217_10 (st : List jV) (l0 l1 : Option jV) (w : jH) : jblk jT0 217 cl bk (n + 1) 10 [l0, l1] st w = jblk jT0 217 cl bk n 26 [l0, l1] st w := rfl
theorem E217_13 (a : Nat) (st : List jV) (l1 : Option jV) (w : jH) : jblk jT0 217 cl bk (n + 1) 13 [some (jr a), l1] st w = jblk jT0 217 cl bk n 14 [some (jr a), l1] (jr a :: st) w := rfl
theorem E217_14 (x : Int) (st : List jV) (l0 : Option jV) (w : jH) : jblk jT0 217 cl bk (n + 1) 14 [l0, some (.inl x)] st w = jblk jT0 217 cl bk n 15 [l0, some (.inl x)] (.inl x :: st) w := rfl
theorem E217_15 (a : Nat) (v0 : jV) (st : List jV) (l0 l1 : Option jV) (w : jH) : jblk jT0 217 cl bk (n + 1) 15 [l0, l1] (v0 :: jr a :: st) w = jsh st (jgo w a 9 fun _ => jcl (cl 194 [jr a, v0] w) (fun v w' => jblk jT0 217 cl bk n 18 [l0, l1] (jpush v st) w') (fun E w' => some (.inr E, w'))) := rfl
theorem E217_18 (x : Int) (st : List jV) (l0 l1 : Option jV) (w : jH) : jblk jT0 217 cl bk (n + 1) 18 [l0, l1] (.inl x :: st) w = if x < 0 then jblk jT0 217 cl bk n 21 [l0, l1] st w else jblk jT0 217 cl bk n 25 [l0, l1] st w := rfl
theorem E217_21 (st : List jV) (l0 l1 : Option jV) (w : jH) : jblk jT0 217 cl bk (n + 1) 21 [l0, l1] st w = jblk jT0 217 cl bk n 22 [l0, l1] (.inl 2 :: st) w := rfl
theorem E217_22 (st : List jV) (l0 l1 : Option jV) (w : jH) : jblk jT0 217 cl bk (n + 1) 22 [l0, l1] st w = jblk jT0 217 cl bk n 26 [l0, l1] st w := rfl
theorem E217_25 (st : List jV) (l0 l1 : Option jV) (w : jH) : jblk jT0 217 cl bk (n + 1) 25 [l0, l1] st w = jblk jT0 217 cl bk n 26 [l0, l1] (.inl 0 :: st) w := rfl
theorem E217_26 (a : Nat) (v0 : jV) (st : List jV) (l0 l1 : Option jV) (w : jH) : jblk jT0 217 cl bk (n + 1) 26 [l0, l1] (v0 :: jr a :: st) w = jsh st (jgo w a 9 fun _ => jcl (cl 178 [jr a, v0] w) (fun v w' => jblk jT0 217 cl bk n 29 [l0, l1] (jpush v st) w') (fun E w' => some (.inr E, w'))) := rfl
theorem E217_29 (x : Int) (l0 l1 : Option jV) (w : jH) : jblk jT0 217 cl bk (n + 1) 29 [l0, l1] [.inl x] w = if jfits .boolean x = true then some (.inl (some (.inl x)), w) else none := rfl
theorem E218_0 (a : Nat) (st : List jV) (l1 : Option jV) (w : jH) : jblk jT0 218 cl bk (n + 1) 0 [some (jr a), l1] st w = jblk jT0 218 cl bk n 1 [some (jr a), l1] (jr a :: st) w := rfl
theorem E218_1 (x : Int) (st : List jV) (l0 : Option jV) (w : jH) : jblk jT0 218 cl bk (n + 1) 1 [l0, some (.inl x)] st w = jblk jT0 218 cl bk n 2 [l0, some (.inl x)] (.inl x :: st) w := rfl
theorem E218_2 (a : Nat) (v0 : jV) (st : List jV) (l0 l1 : Option jV) (w : jH) : jblk jT0 218 cl bk (n + 1) 2 [l0, l1] (v0 :: jr a :: st) w = jsh st (jgo w a 9 fun _ => jcl (cl 217 [jr a, v0] w) (fun v w' => jblk jT0 218 cl bk n 5 [l0, l1] (jpush v st) w') (fun E w' => some (.inr E, w'))) := rfl
theorem E218_5 (x : Int) (st : List jV) (l0 l1 : Option jV) (w : jH) : jblk jT0 218 cl bk (n + 1) 5 [l0, l1] (.inl x :: st) w = if x = 0 then jblk jT0 218 cl bk n 12 [l0, l1] st w else jblk jT0 218 cl bk n 8 [l0, l1] st w := rfl
theorem E218_8 (st : List jV) (l0 l1 : Option jV) (w : jH) : jblk jT0 218 cl bk (n + 1) 8 [l0, l1] st w = jblk jT0 218 cl bk n 9 [l0, l1] (.inl 0 :: st) w := rfl
theorem E218_9 (st : List jV) (l0 l1 : Option jV) (w : jH) : jblk jT0 218 cl bk (n + 1) 9 [l0, l1] st w = jblk jT0 218 cl bk n 17 [l0, l1] st w := rfl
theorem E218_12 (a : Nat) (st : List jV) (l1 : Option jV) (w : jH) : jblk jT0 218 cl bk (n + 1) 12 [some (jr a), l1] st w = jblk jT0 218 cl bk n 13 [some (jr a), l1] (jr a :: st) w := rfl
theorem E218_13 (x : Int) (st : List jV) (l0 : Option jV) (w : jH) : jblk jT0 218 cl bk (n + 1) 13 [l0, some (.inl x)] st w = jblk jT0 218 cl bk n 14 [l0, some (.inl x)] (.inl x :: st) w := rfl
theorem E218_14 (a : Nat) (v0 : jV) (st : List jV) (l0 l1 : Option jV) (w : jH) : jblk jT0 218 cl bk (n + 1) 14 [l0, l1] (v0 :: jr a :: st) w = jsh st (jgo w a 9 fun _ => jcl (cl 194 [jr a, v0] w) (fun v w' => jblk jT0 218 cl bk n 17 [l0, l1] (jpush v st) w') (fun E w' => some (.inr E, w'))) := rfl
theorem E218_17 (x : Int) (l0 l1 : Option jV) (w : jH) : jblk jT0 218 cl bk (n + 1) 17 [l0, l1] [.inl x] w = if jfits .int x = true then some (.inl (some (.inl x)), w) else none := rfl
theorem E219_0 (a : Nat) (st : List jV) (l1 : Option jV) (w : jH) : jblk jT0 219 cl bk (n + 1) 0 [some (jr a), l1] st w = jblk jT0 219 cl bk n 1 [some (jr a), l1] (jr a :: st) w := rfl
theorem E219_1 (x : Int) (st : List jV) (l0 : Option jV) (w : jH) : jblk jT0 219 cl bk (n + 1) 1 [l0, some (.inl x)] st w = jblk jT0 219 cl bk n 2 [l0, some (.inl x)] (.inl x :: st) w := rfl
theorem E219_2 (a : Nat) (v0 : jV) (st : List jV) (l0 l1 : Option jV) (w : jH) : jblk jT0 219 cl bk (n + 1) 2 [l0, l1] (v0 :: jr a :: st) w = jsh st (jgo w a 9 fun _ => jcl (cl 217 [jr a, v0] w) (fun v w' => jblk jT0 219 cl bk n 5 [l0, l1] (jpush v st) w') (fun E w' => some (.inr E, w'))) := rfl
theorem E219_5 (x : Int) (st : List jV) (l0 l1 : Option jV) (w : jH) : jblk jT0 219 cl bk (n + 1) 5 [l0, l1] (.inl x :: st) w = if x = 0 then jblk jT0 219 cl bk n 12 [l0, l1] st w else jblk jT0 219 cl bk n 8 [l0, l1] st w := rfl
theorem E219_8 (st : List jV) (l0 l1 : Option jV) (w : jH) : jblk jT0 219 cl bk (n + 1) 8 [l0, l1] st w = jblk jT0 219 cl bk n 9 [l0, l1] (.inl 0 :: st) w := rfl
theorem E219_9 (st : List jV) (l0 l1 : Option jV) (w : jH) : jblk jT0 219 cl bk (n + 1) 9 [l0, l1] st w = jblk jT0 219 cl bk n 17 [l0, l1] st w := rfl
theorem E219_12 (a : Nat) (st : List jV) (l1 : Option jV) (w : jH) : jblk jT0 219 cl bk (n + 1) 12 [some (jr a), l1] st w = jblk jT0 219 cl bk n 13 [some (jr a), l1] (jr a :: st) w := rfl
theorem E219_13 (x : Int) (st : List jV) (l0 : Option jV) (w : jH) : jblk jT0 219 cl bk (n + 1) 13 [l0, some (.inl x)] st w = jblk jT0 219 cl bk n 14 [l0, some (.inl x)] (.inl x :: st) w := rfl
theorem E219_14 (a : Nat) (v0 : jV) (st : List jV) (l0 l1 : Option jV) (w : jH) : jblk jT0 219 cl bk (n + 1) 14 [l0, l1] (v0 :: jr a :: st) w = jsh st (jgo w a 9 fun _ => jcl (cl 194 [jr a, v0] w) (fun v w' => jblk jT0 219 cl bk n 17 [l0, l1] (jpush v st) w') (fun E w' => some (.inr E, w'))) := rfl
theorem E219_17 (x : Int) (l0 l1 : Option jV) (w : jH) : jblk jT0 219 cl bk (n + 1) 17 [l0, l1] [.inl x] w = if jfits .int x = true then some (.inl (some (.inl x)), w) else none := rfl
theorem E220_0 (a : Nat) (st : List jV) (l1 : Option jV) (w : jH) : jblk jT0 220 cl bk (n + 1) 0 [some (jr a), l1] st w = jblk jT0 220 cl bk n 1 [some (jr a), l1] (jr a :: st) w := rfl
theorem E220_1 (a : Nat) (st : List jV) (l1 : Option jV) (w : jH) : jblk jT0 220 cl bk (n + 1) 1 [some (jr a), l1] st w = jblk jT0 220 cl bk n 2 [some (jr a), l1] (jr a :: st) w := rfl
theorem E220_2 (x : Int) (st : List jV) (l0 : Option jV) (w : jH) : jblk jT0 220 cl bk (n + 1) 2 [l0, some (.inl x)] st w = jblk jT0 220 cl bk n 3 [l0, some (.inl x)] (.inl x :: st) w := rfl
theorem E220_3 (a : Nat) (v0 : jV) (st : List jV) (l0 l1 : Option jV) (w : jH) : jblk jT0 220 cl bk (n + 1) 3 [l0, l1] (v0 :: jr a :: st) w = jsh st (jgo w a 9 fun _ => jcl (cl 184 [jr a, v0] w) (fun v w' => jblk jT0 220 cl bk n 6 [l0, l1] (jpush v st) w') (fun E w' => some (.inr E, w'))) := rfl
theorem E220_6 (x : Int) (st : List jV) (l0 l1 : Option jV) (w : jH) : jblk jT0 220 cl bk (n + 1) 6 [l0, l1] (.inl x :: st) w = if x = 0 then jblk jT0 220 cl bk n 9 [l0, l1] st w else jblk jT0 220 cl bk n 13 [l0, l1] st w := rfl
theorem E220_9 (st : List jV) (l0 l1 : Option jV) (w : jH) : jblk jT0 220 cl bk (n + 1) 9 [l0, l1] st w = jblk jT0 220 cl bk n 10 [l0, l1] (.inl 1 :: st) w := rfl
theorem E220_10 (st : List jV) (l0 l1 : Option jV) (w : jH) : jblk jT0 220 cl bk (n + 1) 10 [l0, l1] st w = jblk jT0 220 cl bk n 27 [l0, l1] st w := rfl
theorem E220_13 (a : Nat) (st : List jV) (l1 : Option jV) (w : jH) : jblk jT0 220 cl bk (n + 1) 13 [some (jr a), l1] st w = jblk jT0 220 cl bk n 14 [some (jr a), l1] (jr a :: st) w := rfl
theorem E220_14 (x : Int) (st : List jV) (l0 : Option jV) (w : jH) : jblk jT0 220 cl bk (n + 1) 14 [l0, some (.inl x)] st w = jblk jT0 220 cl bk n 15 [l0, some (.inl x)] (.inl x :: st) w := rfl
theorem E220_15 (x : Int) (st : List jV) (l0 : Option jV) (w : jH) : jblk jT0 220 cl bk (n + 1) 15 [l0, some (.inl x)] st w = jblk jT0 220 cl bk n 16 [l0, some (.inl x)] (.inl x :: st) w := rfl
theorem E220_16 (a : Nat) (v0 : jV) (v1 : jV) (st : List jV) (l0 l1 : Option jV) (w : jH) : jblk jT0 220 cl bk (n + 1) 16 [l0, l1] (v1 :: v0 :: jr a :: st) w = jsh st (jgo w a 9 fun _ => jcl (cl 193 [jr a, v0, v1] w) (fun v w' => jblk jT0 220 cl bk n 19 [l0, l1] (jpush v st) w') (fun E w' => some (.inr E, w'))) := rfl
theorem E220_19 (x : Int) (st : List jV) (l0 l1 : Option jV) (w : jH) : jblk jT0 220 cl bk (n + 1) 19 [l0, l1] (.inl x :: st) w = if x < 0 then jblk jT0 220 cl bk n 22 [l0, l1] st w else jblk jT0 220 cl bk n 26 [l0, l1] st w := rfl
theorem E220_22 (st : List jV) (l0 l1 : Option jV) (w : jH) : jblk jT0 220 cl bk (n + 1) 22 [l0, l1] st w = jblk jT0 220 cl bk n 23 [l0, l1] (.inl 2 :: st) w := rfl
theorem E220_23 (st : List jV) (l0 l1 : Option jV) (w : jH) : jblk jT0 220 cl bk (n + 1) 23 [l0, l1] st w = jblk jT0 220 cl bk n 27 [l0, l1] st w := rfl
theorem E220_26 (st : List jV) (l0 l1 : Option jV) (w : jH) : jblk jT0 220 cl bk (n + 1) 26 [l0, l1] st w = jblk jT0 220 cl bk n 27 [l0, l1] (.inl 0 :: st) w := rfl
theorem E220_27 (a : Nat) (v0 : jV) (st : List jV) (l0 l1 : Option jV) (w : jH) : jblk jT0 220 cl bk (n + 1) 27 [l0, l1] (v0 :: jr a :: st) w = jsh st (jgo w a 9 fun _ => jcl (cl 178 [jr a, v0] w) (fun v w' => jblk jT0 220 cl bk n 30 [l0, l1] (jpush v st) w') (fun E w' => some (.inr E, w'))) := rfl
theorem E220_30 (x : Int) (st : List jV) (l0 l1 : Option jV) (w : jH) : jblk jT0 220 cl bk (n + 1) 30 [l0, l1] (.inl x :: st) w = if x = 0 then jblk jT0 220 cl bk n 37 [l0, l1] st w else jblk jT0 220 cl bk n 33 [l0, l1] st w := rfl
theorem E220_33 (st : List jV) (l0 l1 : Option jV) (w : jH) : jblk jT0 220 cl bk (n + 1) 33 [l0, l1] st w = jblk jT0 220 cl bk n 34 [l0, l1] (.inl 0 :: st) w := rfl
theorem E220_34 (st : List jV) (l0 l1 : Option jV) (w : jH) : jblk jT0 220 cl bk (n + 1) 34 [l0, l1] st w = jblk jT0 220 cl bk n 43 [l0, l1] st w := rfl
theorem E220_37 (a : Nat) (st : List jV) (l1 : Option jV) (w : jH) : jblk jT0 220 cl bk (n + 1) 37 [some (jr a), l1] st w = jblk jT0 220 cl bk n 38 [some (jr a), l1] (jr a :: st) w := rfl
theorem E220_38 (x : Int) (st : List jV) (l0 : Option jV) (w : jH) : jblk jT0 220 cl bk (n + 1) 38 [l0, some (.inl x)] st w = jblk jT0 220 cl bk n 39 [l0, some (.inl x)] (.inl x :: st) w := rfl
theorem E220_39 (x : Int) (st : List jV) (l0 : Option jV) (w : jH) : jblk jT0 220 cl bk (n + 1) 39 [l0, some (.inl x)] st w = jblk jT0 220 cl bk n 40 [l0, some (.inl x)] (.inl x :: st) w := rfl
theorem E220_40 (a : Nat) (v0 : jV) (v1 : jV) (st : List jV) (l0 l1 : Option jV) (w : jH) : jblk jT0 220 cl bk (n + 1) 40 [l0, l1] (v1 :: v0 :: jr a :: st) w = jsh st (jgo w a 9 fun _ => jcl (cl 193 [jr a, v0, v1] w) (fun v w' => jblk jT0 220 cl bk n 43 [l0, l1] (jpush v st) w') (fun E w' => some (.inr E, w'))) := rfl
theorem E220_43 (x : Int) (l0 l1 : Option jV) (w : jH) : jblk jT0 220 cl bk (n + 1) 43 [l0, l1] [.inl x] w = if jfits .int x = true then some (.inl (some (.inl x)), w) else none := rfl
theorem E221_0 (a : Nat) (st : List jV) (l1 l2 l3 l4 : Option jV) (w : jH) : jblk jT0 221 cl bk (n + 1) 0 [some (jr a), l1, l2, l3, l4] st w = jblk jT0 221 cl bk n 1 [some (jr a), l1, l2, l3, l4] (jr a :: st) w := rfl
theorem E221_1 (x : Int) (st : List jV) (l0 l2 l3 l4 : Option jV) (w : jH) : jblk jT0 221 cl bk (n + 1) 1 [l0, some (.inl x), l2, l3, l4] st w = jblk jT0 221 cl bk n 2 [l0, some (.inl x), l2, l3, l4] (.inl x :: st) w := rfl
theorem E221_2 (a : Nat) (v0 : jV) (st : List jV) (l0 l1 l2 l3 l4 : Option jV) (w : jH) : jblk jT0 221 cl bk (n + 1) 2 [l0, l1, l2, l3, l4] (v0 :: jr a :: st) w = jsh st (jgo w a 9 fun _ => jcl (cl 200 [jr a, v0] w) (fun v w' => jblk jT0 221 cl bk n 5 [l0, l1, l2, l3, l4] (jpush v st) w') (fun E w' => some (.inr E, w'))) := rfl
theorem E221_5 (x : Int) (st : List jV) (l0 l1 l2 l3 l4 : Option jV) (w : jH) : jblk jT0 221 cl bk (n + 1) 5 [l0, l1, l2, l3, l4] (.inl x :: st) w = if x = 0 then jblk jT0 221 cl bk n 10 [l0, l1, l2, l3, l4] st w else jblk jT0 221 cl bk n 8 [l0, l1, l2, l3, l4] st w := rfl
theorem E221_8 (st : List jV) (l0 l1 l2 l3 l4 : Option jV) (w : jH) : jblk jT0 221 cl bk (n + 1) 8 [l0, l1, l2, l3, l4] st w = jblk jT0 221 cl bk n 9 [l0, l1, l2, l3, l4] (.inl 0 :: st) w := rfl
theorem E221_9 (x : Int) (l0 l1 l2 l3 l4 : Option jV) (w : jH) : jblk jT0 221 cl bk (n + 1) 9 [l0, l1, l2, l3, l4] [.inl x] w = if jfits .int x = true then some (.inl (some (.inl x)), w) else none := rfl
theorem E221_10 (x : Int) (st : List jV) (l0 l2 l3 l4 : Option jV) (w : jH) : jblk jT0 221 cl bk (n + 1) 10 [l0, some (.inl x), l2, l3, l4] st w = jblk jT0 221 cl bk n 11 [l0, some (.inl x), l2, l3, l4] (.inl x :: st) w := rfl
theorem E221_11 (x : Int) (st : List jV) (l0 l1 l2 l3 l4 : Option jV) (w : jH) : jblk jT0 221 cl bk (n + 1) 11 [l0, l1, l2, l3, l4] (.inl x :: st) w = bk 12 [l0, l1, some (.inl x), l3, l4] st w := rfl
theorem E221_12 (a : Nat) (st : List jV) (l1 l2 l3 l4 : Option jV) (w : jH) : jblk jT0 221 cl bk (n + 1) 12 [some (jr a), l1, l2, l3, l4] st w = jblk jT0 221 cl bk n 13 [some (jr a), l1, l2, l3, l4] (jr a :: st) w := rfl
theorem E221_13 (x : Int) (st : List jV) (l0 l1 l3 l4 : Option jV) (w : jH) : jblk jT0 221 cl bk (n + 1) 13 [l0, l1, some (.inl x), l3, l4] st w = jblk jT0 221 cl bk n 14 [l0, l1, some (.inl x), l3, l4] (.inl x :: st) w := rfl
theorem E221_14 (a : Nat) (v0 : jV) (st : List jV) (l0 l1 l2 l3 l4 : Option jV) (w : jH) : jblk jT0 221 cl bk (n + 1) 14 [l0, l1, l2, l3, l4] (v0 :: jr a :: st) w = jsh st (jgo w a 9 fun _ => jcl (cl 186 [jr a, v0] w) (fun v w' => jblk jT0 221 cl bk n 17 [l0, l1, l2, l3, l4] (jpush v st) w') (fun E w' => some (.inr E, w'))) := rfl
theorem E221_17 (x : Int) (st : List jV) (l0 l1 l2 l3 l4 : Option jV) (w : jH) : jblk jT0 221 cl bk (n + 1) 17 [l0, l1, l2, l3, l4] (.inl x :: st) w = if x < 0 then jblk jT0 221 cl bk n 29 [l0, l1, l2, l3, l4] st w else jblk jT0 221 cl bk n 20 [l0, l1, l2, l3, l4] st w := rfl
theorem E221_20 (a : Nat) (st : List jV) (l1 l2 l3 l4 : Option jV) (w : jH) : jblk jT0 221 cl bk (n + 1) 20 [some (jr a), l1, l2, l3, l4] st w = jblk jT0 221 cl bk n 21 [some (jr a), l1, l2, l3, l4] (jr a :: st) w := rfl
theorem E221_21 (x : Int) (st : List jV) (l0 l1 l3 l4 : Option jV) (w : jH) : jblk jT0 221 cl bk (n + 1) 21 [l0, l1, some (.inl x), l3, l4] st w = jblk jT0 221 cl bk n 22 [l0, l1, some (.inl x), l3, l4] (.inl x :: st) w := rfl
theorem E221_22 (a : Nat) (v0 : jV) (st : List jV) (l0 l1 l2 l3 l4 : Option jV) (w : jH) : jblk jT0 221 cl bk (n + 1) 22 [l0, l1, l2, l3, l4] (v0 :: jr a :: st) w = jsh st (jgo w a 9 fun _ => jcl (cl 186 [jr a, v0] w) (fun v w' => jblk jT0 221 cl bk n 25 [l0, l1, l2, l3, l4] (jpush v st) w') (fun E w' => some (.inr E, w'))) := rfl
theorem E221_25 (x : Int) (st : List jV) (l0 l1 l2 l3 l4 : Option jV) (w : jH) : jblk jT0 221 cl bk (n + 1) 25 [l0, l1, l2, l3, l4] (.inl x :: st) w = jblk jT0 221 cl bk n 26 [l0, l1, some (.inl x), l3, l4] st w := rfl
theorem E221_26 (st : List jV) (l0 l1 l2 l3 l4 : Option jV) (w : jH) : jblk jT0 221 cl bk (n + 1) 26 [l0, l1, l2, l3, l4] st w = bk 12 [l0, l1, l2, l3, l4] st w := rfl
theorem E221_29 (st : List jV) (l0 l1 l2 l3 l4 : Option jV) (w : jH) : jblk jT0 221 cl bk (n + 1) 29 [l0, l1, l2, l3, l4] st w = jblk jT0 221 cl bk n 30 [l0, l1, l2, l3, l4] (.inl 0 :: st) w := rfl
theorem E221_30 (x : Int) (st : List jV) (l0 l1 l2 l3 l4 : Option jV) (w : jH) : jblk jT0 221 cl bk (n + 1) 30 [l0, l1, l2, l3, l4] (.inl x :: st) w = jblk jT0 221 cl bk n 31 [l0, l1, l2, some (.inl x), l4] st w := rfl
theorem E221_31 (x : Int) (st : List jV) (l0 l1 l3 l4 : Option jV) (w : jH) : jblk jT0 221 cl bk (n + 1) 31 [l0, l1, some (.inl x), l3, l4] st w = jblk jT0 221 cl bk n 32 [l0, l1, some (.inl x), l3, l4] (.inl x :: st) w := rfl
theorem E221_32 (x : Int) (st : List jV) (l0 l1 l2 l3 l4 : Option jV) (w : jH) : jblk jT0 221 cl bk (n + 1) 32 [l0, l1, l2, l3, l4] (.inl x :: st) w = bk 34 [l0, l1, l2, l3, some (.inl x)] st w := rfl
theorem E221_34 (x : Int) (st : List jV) (l0 l1 l2 l3 : Option jV) (w : jH) : jblk jT0 221 cl bk (n + 1) 34 [l0, l1, l2, l3, some (.inl x)] st w = jblk jT0 221 cl bk n 36 [l0, l1, l2, l3, some (.inl x)] (.inl x :: st) w := rfl
theorem E221_36 (x : Int) (st : List jV) (l0 l2 l3 l4 : Option jV) (w : jH) : jblk jT0 221 cl bk (n + 1) 36 [l0, some (.inl x), l2, l3, l4] st w = jblk jT0 221 cl bk n 37 [l0, some (.inl x), l2, l3, l4] (.inl x :: st) w := rfl
theorem E221_37 (x : Int) (y : Int) (st : List jV) (l0 l1 l2 l3 l4 : Option jV) (w : jH) : jblk jT0 221 cl bk (n + 1) 37 [l0, l1, l2, l3, l4] (.inl y :: .inl x :: st) w = if x = y then jblk jT0 221 cl bk n 55 [l0, l1, l2, l3, l4] st w else jblk jT0 221 cl bk n 40 [l0, l1, l2, l3, l4] st w := rfl
theorem E221_40 (x : Int) (st : List jV) (l0 l1 l2 l4 : Option jV) (w : jH) : jblk jT0 221 cl bk (n + 1) 40 [l0, l1, l2, some (.inl x), l4] st w = jblk jT0 221 cl bk n 43 [l0, l1, l2, some (.inl (jw (x + 1))), l4] st w := rfl
theorem E221_43 (a : Nat) (st : List jV) (l1 l2 l3 l4 : Option jV) (w : jH) : jblk jT0 221 cl bk (n + 1) 43 [some (jr a), l1, l2, l3, l4] st w = jblk jT0 221 cl bk n 44 [some (jr a), l1, l2, l3, l4] (jr a :: st) w := rfl
theorem E221_44 (x : Int) (st : List jV) (l0 l1 l2 l3 : Option jV) (w : jH) : jblk jT0 221 cl bk (n + 1) 44 [l0, l1, l2, l3, some (.inl x)] st w = jblk jT0 221 cl bk n 46 [l0, l1, l2, l3, some (.inl x)] (.inl x :: st) w := rfl
theorem E221_46 (x : Int) (st : List jV) (l0 l1 l3 l4 : Option jV) (w : jH) : jblk jT0 221 cl bk (n + 1) 46 [l0, l1, some (.inl x), l3, l4] st w = jblk jT0 221 cl bk n 47 [l0, l1, some (.inl x), l3, l4] (.inl x :: st) w := rfl
theorem E221_47 (a : Nat) (v0 : jV) (v1 : jV) (st : List jV) (l0 l1 l2 l3 l4 : Option jV) (w : jH) : jblk jT0 221 cl bk (n + 1) 47 [l0, l1, l2, l3, l4] (v1 :: v0 :: jr a :: st) w = jsh st (jgo w a 9 fun _ => jcl (cl 192 [jr a, v0, v1] w) (fun v w' => jblk jT0 221 cl bk n 50 [l0, l1, l2, l3, l4] (jpush v st) w') (fun E w' => some (.inr E, w'))) := rfl
theorem E221_50 (x : Int) (st : List jV) (l0 l1 l2 l3 l4 : Option jV) (w : jH) : jblk jT0 221 cl bk (n + 1) 50 [l0, l1, l2, l3, l4] (.inl x :: st) w = jblk jT0 221 cl bk n 52 [l0, l1, l2, l3, some (.inl x)] st w := rfl
theorem E221_52 (st : List jV) (l0 l1 l2 l3 l4 : Option jV) (w : jH) : jblk jT0 221 cl bk (n + 1) 52 [l0, l1, l2, l3, l4] st w = bk 34 [l0, l1, l2, l3, l4] st w := rfl
theorem E221_55 (x : Int) (st : List jV) (l0 l1 l2 l4 : Option jV) (w : jH) : jblk jT0 221 cl bk (n + 1) 55 [l0, l1, l2, some (.inl x), l4] st w = jblk jT0 221 cl bk n 56 [l0, l1, l2, some (.inl x), l4] (.inl x :: st) w := rfl
theorem E221_56 (x : Int) (l0 l1 l2 l3 l4 : Option jV) (w : jH) : jblk jT0 221 cl bk (n + 1) 56 [l0, l1, l2, l3, l4] [.inl x] w = if jfits .int x = true then some (.inl (some (.inl x)), w) else none := rfl
theorem E224_0 (x : Int) (st : List jV) (l0 : Option jV) (w : jH) : jblk jT0 224 cl bk (n + 1) 0 [l0, some (.inl x)] st w = jblk jT0 224 cl bk n 1 [l0, some (.inl x)] (.inl x :: st) w := rfl
theorem E224_1 (st : List jV) (l0 l1 : Option jV) (w : jH) : jblk jT0 224 cl bk (n + 1) 1 [l0, l1] st w = jblk jT0 224 cl bk n 2 [l0, l1] (.inl 0 :: st) w := rfl
theorem E224_2 (a : Nat) (st : List jV) (l1 : Option jV) (w : jH) : jblk jT0 224 cl bk (n + 1) 2 [some (jr a), l1] st w = jblk jT0 224 cl bk n 3 [some (jr a), l1] (jr a :: st) w := rfl
theorem E224_3 (a : Nat) (st : List jV) (l0 l1 : Option jV) (w : jH) : jblk jT0 224 cl bk (n + 1) 3 [l0, l1] (jr a :: st) w = jgf w a 9 0 fun v => jblk jT0 224 cl bk n 6 [l0, l1] (v :: st) w := rfl
theorem E224_6 (st : List jV) (l0 l1 : Option jV) (w : jH) : jblk jT0 224 cl bk (n + 1) 6 [l0, l1] st w = jblk jT0 224 cl bk n 7 [l0, l1] (.inl 1 :: st) w := rfl
theorem E224_7 (x : Int) (a : Nat) (st : List jV) (l0 l1 : Option jV) (w : jH) : jblk jT0 224 cl bk (n + 1) 7 [l0, l1] (.inl x :: jr a :: st) w = jlda w a x (fun z => jblk jT0 224 cl bk n 8 [l0, l1] (.inl z :: st) w) := rfl
theorem E224_8 (st : List jV) (l0 l1 : Option jV) (w : jH) : jblk jT0 224 cl bk (n + 1) 8 [l0, l1] st w = jblk jT0 224 cl bk n 9 [l0, l1] (.inl 1 :: st) w := rfl
theorem E224_9 (x : Int) (y : Int) (st : List jV) (l0 l1 : Option jV) (w : jH) : jblk jT0 224 cl bk (n + 1) 9 [l0, l1] (.inl y :: .inl x :: st) w = jblk jT0 224 cl bk n 10 [l0, l1] (.inl (jw (x - y)) :: st) w := rfl
theorem E224_10 (v0 : jV) (v1 : jV) (v2 : jV) (st : List jV) (l0 l1 : Option jV) (w : jH) : jblk jT0 224 cl bk (n + 1) 10 [l0, l1] (v2 :: v1 :: v0 :: st) w = jsh st (jcl (cl 180 [v0, v1, v2] w) (fun v w' => jblk jT0 224 cl bk n 13 [l0, l1] (jpush v st) w') (fun E w' => some (.inr E, w'))) := rfl
theorem E224_13 (x : Int) (l0 l1 : Option jV) (w : jH) : jblk jT0 224 cl bk (n + 1) 13 [l0, l1] [.inl x] w = if jfits .boolean x = true then some (.inl (some (.inl x)), w) else none := rfl
theorem E225_0 (a : Nat) (st : List jV) (l1 : Option jV) (w : jH) : jblk jT0 225 cl bk (n + 1) 0 [some (jr a), l1] st w = jblk jT0 225 cl bk n 1 [some (jr a), l1] (jr a :: st) w := rfl
theorem E225_1 (x : Int) (st : List jV) (l0 : Option jV) (w : jH) : jblk jT0 225 cl bk (n + 1) 1 [l0, some (.inl x)] st w = jblk jT0 225 cl bk n 2 [l0, some (.inl x)] (.inl x :: st) w := rfl
theorem E225_2 (st : List jV) (l0 l1 : Option jV) (w : jH) : jblk jT0 225 cl bk (n + 1) 2 [l0, l1] st w = jblk jT0 225 cl bk n 3 [l0, l1] (.inl 0 :: st) w := rfl
theorem E225_3 (a : Nat) (v0 : jV) (v1 : jV) (st : List jV) (l0 l1 : Option jV) (w : jH) : jblk jT0 225 cl bk (n + 1) 3 [l0, l1] (v1 :: v0 :: jr a :: st) w = jsh st (jgo w a 9 fun _ => jcl (cl 222 [jr a, v0, v1] w) (fun v w' => jblk jT0 225 cl bk n 6 [l0, l1] (jpush v st) w') (fun E w' => some (.inr E, w'))) := rfl
theorem E225_6 (x : Int) (st : List jV) (l0 l1 : Option jV) (w : jH) : jblk jT0 225 cl bk (n + 1) 6 [l0, l1] (.inl x :: st) w = if x < 0 then jblk jT0 225 cl bk n 9 [l0, l1] st w else jblk jT0 225 cl bk n 13 [l0, l1] st w := rfl
theorem E225_9 (st : List jV) (l0 l1 : Option jV) (w : jH) : jblk jT0 225 cl bk (n + 1) 9 [l0, l1] st w = jblk jT0 225 cl bk n 10 [l0, l1] (.inl 1 :: st) w := rfl
theorem E225_10 (st : List jV) (l0 l1 : Option jV) (w : jH) : jblk jT0 225 cl bk (n + 1) 10 [l0, l1] st w = jblk jT0 225 cl bk n 14 [l0, l1] st w := rfl
theorem E225_13 (st : List jV) (l0 l1 : Option jV) (w : jH) : jblk jT0 225 cl bk (n + 1) 13 [l0, l1] st w = jblk jT0 225 cl bk n 14 [l0, l1] (.inl 0 :: st) w := rfl
theorem E225_14 (x : Int) (l0 l1 : Option jV) (w : jH) : jblk jT0 225 cl bk (n + 1) 14 [l0, l1] [.inl x] w = if jfits .boolean x = true then some (.inl (some (.inl x)), w) else none := rfl
end
theorem M217 (d : Nat) (r0 : Nat) (a1 : Int) (w : jH) : jme jT0 jMx (d + 1) 217 [jr r0, .inl a1] w = jblk jT0 217 (jme jT0 jMx d) (jlp jT0 217 (jme jT0 jMx d) 99999) 4000 0 [some (jr r0), some (.inl a1)] [] w := (show _ = jlp jT0 217 (jme jT0 jMx d) 100000 0 [some (jr r0), some (.inl a1)] [] w from rfl).trans jlp_s
theorem M218 (d : Nat) (r0 : Nat) (a1 : Int) (w : jH) : jme jT0 jMx (d + 1) 218 [jr r0, .inl a1] w = jblk jT0 218 (jme jT0 jMx d) (jlp jT0 218 (jme jT0 jMx d) 99999) 4000 0 [some (jr r0), some (.inl a1)] [] w := (show _ = jlp jT0 218 (jme jT0 jMx d) 100000 0 [some (jr r0), some (.inl a1)] [] w from rfl).trans jlp_s
theorem M219 (d : Nat) (r0 : Nat) (a1 : Int) (w : jH) : jme jT0 jMx (d + 1) 219 [jr r0, .inl a1] w = jblk jT0 219 (jme jT0 jMx d) (jlp jT0 219 (jme jT0 jMx d) 99999) 4000 0 [some (jr r0), some (.inl a1)] [] w := (show _ = jlp jT0 219 (jme jT0 jMx d) 100000 0 [some (jr r0), some (.inl a1)] [] w from rfl).trans jlp_s
theorem M220 (d : Nat) (r0 : Nat) (a1 : Int) (w : jH) : jme jT0 jMx (d + 1) 220 [jr r0, .inl a1] w = jblk jT0 220 (jme jT0 jMx d) (jlp jT0 220 (jme jT0 jMx d) 99999) 4000 0 [some (jr r0), some (.inl a1)] [] w := (show _ = jlp jT0 220 (jme jT0 jMx d) 100000 0 [some (jr r0), some (.inl a1)] [] w from rfl).trans jlp_s
theorem M221 (d : Nat) (r0 : Nat) (a1 : Int) (w : jH) : jme jT0 jMx (d + 1) 221 [jr r0, .inl a1] w = jblk jT0 221 (jme jT0 jMx d) (jlp jT0 221 (jme jT0 jMx d) 99999) 4000 0 [some (jr r0), some (.inl a1), none, none, none] [] w := (show _ = jlp jT0 221 (jme jT0 jMx d) 100000 0 [some (jr r0), some (.inl a1), none, none, none] [] w from rfl).trans jlp_s
theorem M224 (d : Nat) (r0 : Nat) (a1 : Int) (w : jH) : jme jT0 jMx (d + 1) 224 [jr r0, .inl a1] w = jblk jT0 224 (jme jT0 jMx d) (jlp jT0 224 (jme jT0 jMx d) 99999) 4000 0 [some (jr r0), some (.inl a1)] [] w := (show _ = jlp jT0 224 (jme jT0 jMx d) 100000 0 [some (jr r0), some (.inl a1)] [] w from rfl).trans jlp_s
theorem M225 (d : Nat) (r0 : Nat) (a1 : Int) (w : jH) : jme jT0 jMx (d + 1) 225 [jr r0, .inl a1] w = jblk jT0 225 (jme jT0 jMx d) (jlp jT0 225 (jme jT0 jMx d) 99999) 4000 0 [some (jr r0), some (.inl a1)] [] w := (show _ = jlp jT0 225 (jme jT0 jMx d) 100000 0 [some (jr r0), some (.inl a1)] [] w from rfl).trans jlp_s
def f_Mod_isHeirless (m : jMem) (a1 : Int) : Option (Int × jMem) := (f_Mod_isPerson m a1).bind fun x1 => if x1 = 0 then (f_Mod_fails m 1).bind fun qx5 => obt qx5.1 (some (qx5.1, qx5.2)) else (f_Mod_heir m a1).bind fun x2 => if x2 < 0 then (f_Mod_fails m 2).bind fun qx4 => obt qx4.1 (some (qx4.1, qx4.2)) else (f_Mod_fails m 0).bind fun qx3 => obt qx3.1 (some (qx3.1, qx3.2))
section
variable {cf : jCf} {dv : UInt64}
set_option maxRecDepth 20000 in
set_option maxHeartbeats 4000000 in
theorem X217 (d : Nat) (a1 : Int) (m : jMem) (k : jM) : jme jT0 jMx (d + 6) 217 [jr (jn cf + 147), .inl a1] (hp cf dv m, k) = lW cf dv k ijI (f_Mod_isHeirless m a1) := by
  simp only [M217, E217_0, E217_1, E217_2, E217_3, E217_6, E217_9, E217_10, E217_13, E217_14, E217_15, E217_18, E217_21, E217_22, E217_25, E217_26, E217_29, X178, X184, X194, go_147, jsh_n, jsh_I, jsh_R, jsh_II, jsh_IR, jsh_RI, jsh_RR, jsh_III, jsh_IIR, jsh_IRI, jsh_IRR, jsh_RII, jsh_RIR, jsh_RRI, jsh_RRR, jsh_IIII, jsh_IIIR, jsh_IIRI, jsh_IIRR, jsh_IRII, jsh_IRIR, jsh_IRRI, jsh_IRRR, jsh_RIII, jsh_RIIR, jsh_RIRI, jsh_RIRR, jsh_RRII, jsh_RRIR, jsh_RRRI, jsh_RRRR, jthr_hp, jc_l0, jc_lW, jc_lX, jc_lXW, jc_lVW, jc_lVX, jpush_n, jpush_s, obt_0, obt_1, och_0, och_32, och_100, och_115, och_104, och_33, och_43, och_60, jint, jbit, jchr, ijI, ijR, ijD, ijF, ↓reduceIte, Int.reduceEq, Int.reduceLT, reduceCtorEq, lW_bind, lW_ite, lW_none, lW_oix, lW_obt, lW_och, lW_sel, lW_oel, lW_some, f_Mod_isHeirless]
end
def f_Mod_heirOf (m : jMem) (a1 : Int) : Option (Int × jMem) := (f_Mod_isHeirless m a1).bind fun qx1 => if qx1.1 = 0 then (f_Mod_heir qx1.2 a1).bind fun x2 => some (x2, qx1.2) else some (0, qx1.2)
section
variable {cf : jCf} {dv : UInt64}
set_option maxRecDepth 20000 in
set_option maxHeartbeats 4000000 in
theorem X218 (d : Nat) (a1 : Int) (m : jMem) (k : jM) : jme jT0 jMx (d + 7) 218 [jr (jn cf + 147), .inl a1] (hp cf dv m, k) = lW cf dv k ijI (f_Mod_heirOf m a1) := by
  simp only [M218, E218_0, E218_1, E218_2, E218_5, E218_8, E218_9, E218_12, E218_13, E218_14, E218_17, X194, X217, go_147, jsh_n, jsh_I, jsh_R, jsh_II, jsh_IR, jsh_RI, jsh_RR, jsh_III, jsh_IIR, jsh_IRI, jsh_IRR, jsh_RII, jsh_RIR, jsh_RRI, jsh_RRR, jsh_IIII, jsh_IIIR, jsh_IIRI, jsh_IIRR, jsh_IRII, jsh_IRIR, jsh_IRRI, jsh_IRRR, jsh_RIII, jsh_RIIR, jsh_RIRI, jsh_RIRR, jsh_RRII, jsh_RRIR, jsh_RRRI, jsh_RRRR, jthr_hp, jc_l0, jc_lW, jc_lX, jc_lXW, jc_lVW, jc_lVX, jpush_n, jpush_s, obt_0, obt_1, och_0, och_32, och_100, och_115, och_104, och_33, och_43, och_60, jint, jbit, jchr, ijI, ijR, ijD, ijF, ↓reduceIte, Int.reduceEq, Int.reduceLT, reduceCtorEq, lW_bind, lW_ite, lW_none, lW_oix, lW_obt, lW_och, lW_sel, lW_oel, lW_some, f_Mod_heirOf]
end
def f_Mod_heirByComparison (m : jMem) (a1 : Int) : Option (Int × jMem) := (f_Mod_isHeirless m a1).bind fun qx1 => if qx1.1 = 0 then (f_Mod_heir qx1.2 a1).bind fun x2 => some (x2, qx1.2) else some (0, qx1.2)
section
variable {cf : jCf} {dv : UInt64}
set_option maxRecDepth 20000 in
set_option maxHeartbeats 4000000 in
theorem X219 (d : Nat) (a1 : Int) (m : jMem) (k : jM) : jme jT0 jMx (d + 7) 219 [jr (jn cf + 147), .inl a1] (hp cf dv m, k) = lW cf dv k ijI (f_Mod_heirByComparison m a1) := by
  simp only [M219, E219_0, E219_1, E219_2, E219_5, E219_8, E219_9, E219_12, E219_13, E219_14, E219_17, X194, X217, go_147, jsh_n, jsh_I, jsh_R, jsh_II, jsh_IR, jsh_RI, jsh_RR, jsh_III, jsh_IIR, jsh_IRI, jsh_IRR, jsh_RII, jsh_RIR, jsh_RRI, jsh_RRR, jsh_IIII, jsh_IIIR, jsh_IIRI, jsh_IIRR, jsh_IRII, jsh_IRIR, jsh_IRRI, jsh_IRRR, jsh_RIII, jsh_RIIR, jsh_RIRI, jsh_RIRR, jsh_RRII, jsh_RRIR, jsh_RRRI, jsh_RRRR, jthr_hp, jc_l0, jc_lW, jc_lX, jc_lXW, jc_lVW, jc_lVX, jpush_n, jpush_s, obt_0, obt_1, och_0, och_32, och_100, och_115, och_104, och_33, och_43, och_60, jint, jbit, jchr, ijI, ijR, ijD, ijF, ↓reduceIte, Int.reduceEq, Int.reduceLT, reduceCtorEq, lW_bind, lW_ite, lW_none, lW_oix, lW_obt, lW_och, lW_sel, lW_oel, lW_some, f_Mod_heirByComparison]
end
def f_Mod_directHeirOf (m : jMem) (a1 : Int) : Option (Int × jMem) := (f_Mod_isPerson m a1).bind fun x1 => if x1 = 0 then (f_Mod_fails m 1).bind fun qx7 => if qx7.1 = 0 then (f_Mod_firstLiving qx7.2 a1 a1).bind fun x8 => some (x8, qx7.2) else some (0, qx7.2) else (f_Mod_firstLiving m a1 a1).bind fun x2 => if x2 < 0 then (f_Mod_fails m 2).bind fun qx5 => if qx5.1 = 0 then (f_Mod_firstLiving qx5.2 a1 a1).bind fun x6 => some (x6, qx5.2) else some (0, qx5.2) else (f_Mod_fails m 0).bind fun qx3 => if qx3.1 = 0 then (f_Mod_firstLiving qx3.2 a1 a1).bind fun x4 => some (x4, qx3.2) else some (0, qx3.2)
section
variable {cf : jCf} {dv : UInt64}
set_option maxRecDepth 20000 in
set_option maxHeartbeats 4000000 in
theorem X220 (d : Nat) (a1 : Int) (m : jMem) (k : jM) : jme jT0 jMx (d + 5) 220 [jr (jn cf + 147), .inl a1] (hp cf dv m, k) = lW cf dv k ijI (f_Mod_directHeirOf m a1) := by
  simp only [M220, E220_0, E220_1, E220_2, E220_3, E220_6, E220_9, E220_10, E220_13, E220_14, E220_15, E220_16, E220_19, E220_22, E220_23, E220_26, E220_27, E220_30, E220_33, E220_34, E220_37, E220_38, E220_39, E220_40, E220_43, X178, X184, X193, go_147, jsh_n, jsh_I, jsh_R, jsh_II, jsh_IR, jsh_RI, jsh_RR, jsh_III, jsh_IIR, jsh_IRI, jsh_IRR, jsh_RII, jsh_RIR, jsh_RRI, jsh_RRR, jsh_IIII, jsh_IIIR, jsh_IIRI, jsh_IIRR, jsh_IRII, jsh_IRIR, jsh_IRRI, jsh_IRRR, jsh_RIII, jsh_RIIR, jsh_RIRI, jsh_RIRR, jsh_RRII, jsh_RRIR, jsh_RRRI, jsh_RRRR, jthr_hp, jc_l0, jc_lW, jc_lX, jc_lXW, jc_lVW, jc_lVX, jpush_n, jpush_s, obt_0, obt_1, och_0, och_32, och_100, och_115, och_104, och_33, och_43, och_60, jint, jbit, jchr, ijI, ijR, ijD, ijF, ↓reduceIte, Int.reduceEq, Int.reduceLT, reduceCtorEq, lW_bind, lW_ite, lW_none, lW_oix, lW_obt, lW_och, lW_sel, lW_oel, lW_some, f_Mod_directHeirOf]
end
def f_Mod_successionPositionL : Nat → Nat → jMem → Int → Int → Int → Int → Option (Int × jMem)
  | 0, _, _, _, _, _, _ => none
  | N + 1, 0, m, a1, a2, _, _ => (f_Mod_parent m a2).bind fun x2 => if x2 < 0 then f_Mod_successionPositionL N 1 m a1 a2 0 a2 else (f_Mod_parent m a2).bind fun x3 => f_Mod_successionPositionL N 0 m a1 x3 0 0
  | N + 1, 1, m, a1, a2, a3, a4 => if a4 = a1 then some (a3, m) else (f_Mod_follower m a4 a2).bind fun x4 => f_Mod_successionPositionL N 1 m a1 a2 (jw (a3 + 1)) x4
  | _ + 1, _, _, _, _, _, _ => none
def f_Mod_successionPosition (m : jMem) (a1 : Int) : Option (Int × jMem) := (f_Mod_isNobody m a1).bind fun qx1 => if qx1.1 = 0 then f_Mod_successionPositionL 99999 0 qx1.2 a1 a1 0 0 else some (0, qx1.2)
section
variable {cf : jCf} {dv : UInt64}
set_option maxRecDepth 20000 in
set_option maxHeartbeats 4000000 in
theorem X221L (d : Nat) : ∀ (N : Nat) (m : jMem) (k : jM), (∀ (a1 a2 : Int) (z3 z4 : Option jV), jlp jT0 221 (jme jT0 jMx (d + 3)) N 12 [some (jr (jn cf + 147)), some (.inl a1), some (.inl a2), z3, z4] [] (hp cf dv m, k) = lW cf dv k ijI (f_Mod_successionPositionL N 0 m a1 a2 0 0)) ∧ (∀ (a1 a2 a3 a4 : Int), jlp jT0 221 (jme jT0 jMx (d + 3)) N 34 [some (jr (jn cf + 147)), some (.inl a1), some (.inl a2), some (.inl a3), some (.inl a4)] [] (hp cf dv m, k) = lW cf dv k ijI (f_Mod_successionPositionL N 1 m a1 a2 a3 a4)) := by
  intro N
  induction N with
  | zero => intro m k; refine ⟨?_, ?_⟩ <;> intros <;> rfl
  | succ N ih =>
    intro m k
    have ih0 := fun m k => (ih m k).1
    have ih1 := fun m k => (ih m k).2
    refine ⟨?_, ?_⟩
    · intros
      rw [jlp_s]
      simp only [E221_0, E221_1, E221_2, E221_5, E221_8, E221_9, E221_10, E221_11, E221_12, E221_13, E221_14, E221_17, E221_20, E221_21, E221_22, E221_25, E221_26, E221_29, E221_30, E221_31, E221_32, E221_34, E221_36, E221_37, E221_40, E221_43, E221_44, E221_46, E221_47, E221_50, E221_52, E221_55, E221_56, X186, X192, X200, go_147, jsh_n, jsh_I, jsh_R, jsh_II, jsh_IR, jsh_RI, jsh_RR, jsh_III, jsh_IIR, jsh_IRI, jsh_IRR, jsh_RII, jsh_RIR, jsh_RRI, jsh_RRR, jsh_IIII, jsh_IIIR, jsh_IIRI, jsh_IIRR, jsh_IRII, jsh_IRIR, jsh_IRRI, jsh_IRRR, jsh_RIII, jsh_RIIR, jsh_RIRI, jsh_RIRR, jsh_RRII, jsh_RRIR, jsh_RRRI, jsh_RRRR, jthr_hp, jc_l0, jc_lW, jc_lX, jc_lXW, jc_lVW, jc_lVX, jpush_n, jpush_s, obt_0, obt_1, och_0, och_32, och_100, och_115, och_104, och_33, och_43, och_60, jint, jbit, jchr, ijI, ijR, ijD, ijF, ↓reduceIte, Int.reduceEq, Int.reduceLT, reduceCtorEq, lW_bind, lW_ite, lW_none, lW_oix, lW_obt, lW_och, lW_sel, lW_oel, lW_some, f_Mod_successionPositionL, ih0, ih1]
    · intros
      rw [jlp_s]
      simp only [E221_0, E221_1, E221_2, E221_5, E221_8, E221_9, E221_10, E221_11, E221_12, E221_13, E221_14, E221_17, E221_20, E221_21, E221_22, E221_25, E221_26, E221_29, E221_30, E221_31, E221_32, E221_34, E221_36, E221_37, E221_40, E221_43, E221_44, E221_46, E221_47, E221_50, E221_52, E221_55, E221_56, X186, X192, X200, go_147, jsh_n, jsh_I, jsh_R, jsh_II, jsh_IR, jsh_RI, jsh_RR, jsh_III, jsh_IIR, jsh_IRI, jsh_IRR, jsh_RII, jsh_RIR, jsh_RRI, jsh_RRR, jsh_IIII, jsh_IIIR, jsh_IIRI, jsh_IIRR, jsh_IRII, jsh_IRIR, jsh_IRRI, jsh_IRRR, jsh_RIII, jsh_RIIR, jsh_RIRI, jsh_RIRR, jsh_RRII, jsh_RRIR, jsh_RRRI, jsh_RRRR, jthr_hp, jc_l0, jc_lW, jc_lX, jc_lXW, jc_lVW, jc_lVX, jpush_n, jpush_s, obt_0, obt_1, och_0, och_32, och_100, och_115, och_104, och_33, och_43, och_60, jint, jbit, jchr, ijI, ijR, ijD, ijF, ↓reduceIte, Int.reduceEq, Int.reduceLT, reduceCtorEq, lW_bind, lW_ite, lW_none, lW_oix, lW_obt, lW_och, lW_sel, lW_oel, lW_some, f_Mod_successionPositionL, ih0, ih1]
set_option maxRecDepth 20000 in
set_option maxHeartbeats 4000000 in
theorem X221 (d : Nat) (a1 : Int) (m : jMem) (k : jM) : jme jT0 jMx (d + 4) 221 [jr (jn cf + 147), .inl a1] (hp cf dv m, k) = lW cf dv k ijI (f_Mod_successionPosition m a1) := by
  simp only [M221, E221_0, E221_1, E221_2, E221_5, E221_8, E221_9, E221_10, E221_11, E221_12, E221_13, E221_14, E221_17, E221_20, E221_21, E221_22, E221_25, E221_26, E221_29, E221_30, E221_31, E221_32, E221_34, E221_36, E221_37, E221_40, E221_43, E221_44, E221_46, E221_47, E221_50, E221_52, E221_55, E221_56, X186, X192, X200, go_147, jsh_n, jsh_I, jsh_R, jsh_II, jsh_IR, jsh_RI, jsh_RR, jsh_III, jsh_IIR, jsh_IRI, jsh_IRR, jsh_RII, jsh_RIR, jsh_RRI, jsh_RRR, jsh_IIII, jsh_IIIR, jsh_IIRI, jsh_IIRR, jsh_IRII, jsh_IRIR, jsh_IRRI, jsh_IRRR, jsh_RIII, jsh_RIIR, jsh_RIRI, jsh_RIRR, jsh_RRII, jsh_RRIR, jsh_RRRI, jsh_RRRR, jthr_hp, jc_l0, jc_lW, jc_lX, jc_lXW, jc_lVW, jc_lVX, jpush_n, jpush_s, obt_0, obt_1, och_0, och_32, och_100, och_115, och_104, och_33, och_43, och_60, jint, jbit, jchr, ijI, ijR, ijD, ijF, ↓reduceIte, Int.reduceEq, Int.reduceLT, reduceCtorEq, lW_bind, lW_ite, lW_none, lW_oix, lW_obt, lW_och, lW_sel, lW_oel, lW_some, f_Mod_successionPosition, (X221L _ _ _ _).1, (X221L _ _ _ _).2]
end
def f_Mod_isHabit (m : jMem) (a1 : Int) : Option Int := oix (1 : Int) 138 ((f_Mod_in m a1 0 (jw ((m 148 (1 : Int).toNat) - 1))).bind fun x1 => obt x1 (some x1))
section
variable {cf : jCf} {dv : UInt64}
set_option maxRecDepth 20000 in
set_option maxHeartbeats 4000000 in
theorem X224 (d : Nat) (a1 : Int) (m : jMem) (k : jM) : jme jT0 jMx (d + 2) 224 [jr (jn cf + 147), .inl a1] (hp cf dv m, k) = l0 cf dv m k ijI (f_Mod_isHabit m a1) := by
  simp only [M224, E224_0, E224_1, E224_2, E224_3, E224_6, E224_7, E224_8, E224_9, E224_10, E224_13, ai_148, gf_147_0, X180, jsh_n, jsh_I, jsh_R, jsh_II, jsh_IR, jsh_RI, jsh_RR, jsh_III, jsh_IIR, jsh_IRI, jsh_IRR, jsh_RII, jsh_RIR, jsh_RRI, jsh_RRR, jsh_IIII, jsh_IIIR, jsh_IIRI, jsh_IIRR, jsh_IRII, jsh_IRIR, jsh_IRRI, jsh_IRRR, jsh_RIII, jsh_RIIR, jsh_RIRI, jsh_RIRR, jsh_RRII, jsh_RRIR, jsh_RRRI, jsh_RRRR, jthr_hp, jc_l0, jc_lW, jc_lX, jc_lXW, jc_lVW, jc_lVX, jpush_n, jpush_s, obt_0, obt_1, och_0, och_32, och_100, och_115, och_104, och_33, och_43, och_60, jint, jbit, jchr, ijI, ijR, ijD, ijF, ↓reduceIte, Int.reduceEq, Int.reduceLT, reduceCtorEq, l0_bind, l0_ite, l0_none, l0_oix, l0_obt, l0_och, l0_sel, l0_oel, l0_some, f_Mod_isHabit]
end
def f_Mod_isGone (m : jMem) (a1 : Int) : Option Int := (f_Mod_of m a1 0).bind fun x1 => if x1 < 0 then some 1 else some 0
section
variable {cf : jCf} {dv : UInt64}
set_option maxRecDepth 20000 in
set_option maxHeartbeats 4000000 in
theorem X225 (d : Nat) (a1 : Int) (m : jMem) (k : jM) : jme jT0 jMx (d + 2) 225 [jr (jn cf + 147), .inl a1] (hp cf dv m, k) = l0 cf dv m k ijI (f_Mod_isGone m a1) := by
  simp only [M225, E225_0, E225_1, E225_2, E225_3, E225_6, E225_9, E225_10, E225_13, E225_14, X222, go_147, jsh_n, jsh_I, jsh_R, jsh_II, jsh_IR, jsh_RI, jsh_RR, jsh_III, jsh_IIR, jsh_IRI, jsh_IRR, jsh_RII, jsh_RIR, jsh_RRI, jsh_RRR, jsh_IIII, jsh_IIIR, jsh_IIRI, jsh_IIRR, jsh_IRII, jsh_IRIR, jsh_IRRI, jsh_IRRR, jsh_RIII, jsh_RIIR, jsh_RIRI, jsh_RIRR, jsh_RRII, jsh_RRIR, jsh_RRRI, jsh_RRRR, jthr_hp, jc_l0, jc_lW, jc_lX, jc_lXW, jc_lVW, jc_lVX, jpush_n, jpush_s, obt_0, obt_1, och_0, och_32, och_100, och_115, och_104, och_33, och_43, och_60, jint, jbit, jchr, ijI, ijR, ijD, ijF, ↓reduceIte, Int.reduceEq, Int.reduceLT, reduceCtorEq, l0_bind, l0_ite, l0_none, l0_oix, l0_obt, l0_och, l0_sel, l0_oel, l0_some, f_Mod_isGone]
end

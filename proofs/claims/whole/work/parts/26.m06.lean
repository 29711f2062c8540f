/-! ===== the model 6 ===== -/
section
variable (cl : Nat → List jV → jH → jR) (bk : Nat → jL → List jV → jH → jR) (n : Nat)
theorem E237_0 (a : Nat) (st : List jV) (w : jH) : jblk jT0 237 cl bk (n + 1) 0 [some (jr a)] st w = jblk jT0 237 cl bk n 1 [some (jr a)] (jr a :: st) w := rfl
theorem E237_1 (st : List jV) (l0 : Option jV) (w : jH) : jblk jT0 237 cl bk (n + 1) 1 [l0] st w = jblk jT0 237 cl bk n 2 [l0] (.inl 0 :: st) w := rfl
theorem E237_2 (a : Nat) (v : jV) (st : List jV) (l0 : Option jV) (w : jH) : jblk jT0 237 cl bk (n + 1) 2 [l0] (v :: jr a :: st) w = jpf w a 9 8 .int v fun w' => jblk jT0 237 cl bk n 5 [l0] st w' := rfl
theorem E237_5 (a : Nat) (st : List jV) (w : jH) : jblk jT0 237 cl bk (n + 1) 5 [some (jr a)] st w = jblk jT0 237 cl bk n 6 [some (jr a)] (jr a :: st) w := rfl
theorem E237_6 (a : Nat) (st : List jV) (l0 : Option jV) (w : jH) : jblk jT0 237 cl bk (n + 1) 6 [l0] (jr a :: st) w = jgf w a 9 0 fun v => jblk jT0 237 cl bk n 9 [l0] (v :: st) w := rfl
theorem E237_9 (st : List jV) (l0 : Option jV) (w : jH) : jblk jT0 237 cl bk (n + 1) 9 [l0] st w = jblk jT0 237 cl bk n 10 [l0] (.inl 1 :: st) w := rfl
theorem E237_10 (x : Int) (a : Nat) (st : List jV) (l0 : Option jV) (w : jH) : jblk jT0 237 cl bk (n + 1) 10 [l0] (.inl x :: jr a :: st) w = jlda w a x (fun z => jblk jT0 237 cl bk n 11 [l0] (.inl z :: st) w) := rfl
theorem E237_11 (x : Int) (l0 : Option jV) (w : jH) : jblk jT0 237 cl bk (n + 1) 11 [l0] [.inl x] w = if jfits .int x = true then some (.inl (some (.inl x)), w) else none := rfl
theorem E238_0 (a : Nat) (st : List jV) (l1 : Option jV) (w : jH) : jblk jT0 238 cl bk (n + 1) 0 [some (jr a), l1] st w = jblk jT0 238 cl bk n 1 [some (jr a), l1] (jr a :: st) w := rfl
theorem E238_1 (a : Nat) (st : List jV) (l1 : Option jV) (w : jH) : jblk jT0 238 cl bk (n + 1) 1 [some (jr a), l1] st w = jblk jT0 238 cl bk n 2 [some (jr a), l1] (jr a :: st) w := rfl
theorem E238_2 (x : Int) (st : List jV) (l0 : Option jV) (w : jH) : jblk jT0 238 cl bk (n + 1) 2 [l0, some (.inl x)] st w = jblk jT0 238 cl bk n 3 [l0, some (.inl x)] (.inl x :: st) w := rfl
theorem E238_3 (a : Nat) (v0 : jV) (st : List jV) (l0 l1 : Option jV) (w : jH) : jblk jT0 238 cl bk (n + 1) 3 [l0, l1] (v0 :: jr a :: st) w = jsh st (jgo w a 9 fun _ => jcl (cl 224 [jr a, v0] w) (fun v w' => jblk jT0 238 cl bk n 6 [l0, l1] (jpush v st) w') (fun E w' => some (.inr E, w'))) := rfl
theorem E238_6 (x : Int) (st : List jV) (l0 l1 : Option jV) (w : jH) : jblk jT0 238 cl bk (n + 1) 6 [l0, l1] (.inl x :: st) w = if x = 0 then jblk jT0 238 cl bk n 13 [l0, l1] st w else jblk jT0 238 cl bk n 9 [l0, l1] st w := rfl
theorem E238_9 (st : List jV) (l0 l1 : Option jV) (w : jH) : jblk jT0 238 cl bk (n + 1) 9 [l0, l1] st w = jblk jT0 238 cl bk n 10 [l0, l1] (.inl 0 :: st) w := rfl
theorem E238_10 (st : List jV) (l0 l1 : Option jV) (w : jH) : jblk jT0 238 cl bk (n + 1) 10 [l0, l1] st w = jblk jT0 238 cl bk n 14 [l0, l1] st w := rfl
theorem E238_13 (st : List jV) (l0 l1 : Option jV) (w : jH) : jblk jT0 238 cl bk (n + 1) 13 [l0, l1] st w = jblk jT0 238 cl bk n 14 [l0, l1] (.inl 1 :: st) w := rfl
theorem E238_14 (a : Nat) (v0 : jV) (st : List jV) (l0 l1 : Option jV) (w : jH) : jblk jT0 238 cl bk (n + 1) 14 [l0, l1] (v0 :: jr a :: st) w = jsh st (jgo w a 9 fun _ => jcl (cl 178 [jr a, v0] w) (fun v w' => jblk jT0 238 cl bk n 17 [l0, l1] (jpush v st) w') (fun E w' => some (.inr E, w'))) := rfl
theorem E238_17 (x : Int) (l0 l1 : Option jV) (w : jH) : jblk jT0 238 cl bk (n + 1) 17 [l0, l1] [.inl x] w = if jfits .boolean x = true then some (.inl (some (.inl x)), w) else none := rfl
theorem E239_0 (a : Nat) (st : List jV) (l1 : Option jV) (w : jH) : jblk jT0 239 cl bk (n + 1) 0 [some (jr a), l1] st w = jblk jT0 239 cl bk n 1 [some (jr a), l1] (jr a :: st) w := rfl
theorem E239_1 (x : Int) (st : List jV) (l0 : Option jV) (w : jH) : jblk jT0 239 cl bk (n + 1) 1 [l0, some (.inl x)] st w = jblk jT0 239 cl bk n 2 [l0, some (.inl x)] (.inl x :: st) w := rfl
theorem E239_2 (a : Nat) (v0 : jV) (st : List jV) (l0 l1 : Option jV) (w : jH) : jblk jT0 239 cl bk (n + 1) 2 [l0, l1] (v0 :: jr a :: st) w = jsh st (jgo w a 9 fun _ => jcl (cl 238 [jr a, v0] w) (fun v w' => jblk jT0 239 cl bk n 5 [l0, l1] (jpush v st) w') (fun E w' => some (.inr E, w'))) := rfl
theorem E239_5 (x : Int) (st : List jV) (l0 l1 : Option jV) (w : jH) : jblk jT0 239 cl bk (n + 1) 5 [l0, l1] (.inl x :: st) w = if x = 0 then jblk jT0 239 cl bk n 13 [l0, l1] st w else jblk jT0 239 cl bk n 8 [l0, l1] st w := rfl
theorem E239_8 (st : List jV) (l0 l1 : Option jV) (w : jH) : jblk jT0 239 cl bk (n + 1) 8 [l0, l1] st w = jblk jT0 239 cl bk n 10 [l0, l1] (.inl 32 :: st) w := rfl
theorem E239_10 (st : List jV) (l0 l1 : Option jV) (w : jH) : jblk jT0 239 cl bk (n + 1) 10 [l0, l1] st w = jblk jT0 239 cl bk n 22 [l0, l1] st w := rfl
theorem E239_13 (a : Nat) (st : List jV) (l1 : Option jV) (w : jH) : jblk jT0 239 cl bk (n + 1) 13 [some (jr a), l1] st w = jblk jT0 239 cl bk n 14 [some (jr a), l1] (jr a :: st) w := rfl
theorem E239_14 (x : Int) (st : List jV) (l0 : Option jV) (w : jH) : jblk jT0 239 cl bk (n + 1) 14 [l0, some (.inl x)] st w = jblk jT0 239 cl bk n 15 [l0, some (.inl x)] (.inl x :: st) w := rfl
theorem E239_15 (st : List jV) (l0 l1 : Option jV) (w : jH) : jblk jT0 239 cl bk (n + 1) 15 [l0, l1] st w = jblk jT0 239 cl bk n 16 [l0, l1] (.inl 1 :: st) w := rfl
theorem E239_16 (a : Nat) (v0 : jV) (v1 : jV) (st : List jV) (l0 l1 : Option jV) (w : jH) : jblk jT0 239 cl bk (n + 1) 16 [l0, l1] (v1 :: v0 :: jr a :: st) w = jsh st (jgo w a 9 fun _ => jcl (cl 222 [jr a, v0, v1] w) (fun v w' => jblk jT0 239 cl bk n 19 [l0, l1] (jpush v st) w') (fun E w' => some (.inr E, w'))) := rfl
theorem E239_19 (v0 : jV) (st : List jV) (l0 l1 : Option jV) (w : jH) : jblk jT0 239 cl bk (n + 1) 19 [l0, l1] (v0 :: st) w = jsh st (jcl (cl 228 [v0] w) (fun v w' => jblk jT0 239 cl bk n 22 [l0, l1] (jpush v st) w') (fun E w' => some (.inr E, w'))) := rfl
theorem E239_22 (x : Int) (l0 l1 : Option jV) (w : jH) : jblk jT0 239 cl bk (n + 1) 22 [l0, l1] [.inl x] w = if jfits .char x = true then some (.inl (some (.inl x)), w) else none := rfl
theorem E240_0 (a : Nat) (st : List jV) (l1 : Option jV) (w : jH) : jblk jT0 240 cl bk (n + 1) 0 [some (jr a), l1] st w = jblk jT0 240 cl bk n 1 [some (jr a), l1] (jr a :: st) w := rfl
theorem E240_1 (x : Int) (st : List jV) (l0 : Option jV) (w : jH) : jblk jT0 240 cl bk (n + 1) 1 [l0, some (.inl x)] st w = jblk jT0 240 cl bk n 2 [l0, some (.inl x)] (.inl x :: st) w := rfl
theorem E240_2 (a : Nat) (v0 : jV) (st : List jV) (l0 l1 : Option jV) (w : jH) : jblk jT0 240 cl bk (n + 1) 2 [l0, l1] (v0 :: jr a :: st) w = jsh st (jgo w a 9 fun _ => jcl (cl 238 [jr a, v0] w) (fun v w' => jblk jT0 240 cl bk n 5 [l0, l1] (jpush v st) w') (fun E w' => some (.inr E, w'))) := rfl
theorem E240_5 (x : Int) (st : List jV) (l0 l1 : Option jV) (w : jH) : jblk jT0 240 cl bk (n + 1) 5 [l0, l1] (.inl x :: st) w = if x = 0 then jblk jT0 240 cl bk n 12 [l0, l1] st w else jblk jT0 240 cl bk n 8 [l0, l1] st w := rfl
theorem E240_8 (st : List jV) (l0 l1 : Option jV) (w : jH) : jblk jT0 240 cl bk (n + 1) 8 [l0, l1] st w = jblk jT0 240 cl bk n 9 [l0, l1] (.inl 0 :: st) w := rfl
theorem E240_9 (st : List jV) (l0 l1 : Option jV) (w : jH) : jblk jT0 240 cl bk (n + 1) 9 [l0, l1] st w = jblk jT0 240 cl bk n 18 [l0, l1] st w := rfl
theorem E240_12 (a : Nat) (st : List jV) (l1 : Option jV) (w : jH) : jblk jT0 240 cl bk (n + 1) 12 [some (jr a), l1] st w = jblk jT0 240 cl bk n 13 [some (jr a), l1] (jr a :: st) w := rfl
theorem E240_13 (x : Int) (st : List jV) (l0 : Option jV) (w : jH) : jblk jT0 240 cl bk (n + 1) 13 [l0, some (.inl x)] st w = jblk jT0 240 cl bk n 14 [l0, some (.inl x)] (.inl x :: st) w := rfl
theorem E240_14 (st : List jV) (l0 l1 : Option jV) (w : jH) : jblk jT0 240 cl bk (n + 1) 14 [l0, l1] st w = jblk jT0 240 cl bk n 15 [l0, l1] (.inl 2 :: st) w := rfl
theorem E240_15 (a : Nat) (v0 : jV) (v1 : jV) (st : List jV) (l0 l1 : Option jV) (w : jH) : jblk jT0 240 cl bk (n + 1) 15 [l0, l1] (v1 :: v0 :: jr a :: st) w = jsh st (jgo w a 9 fun _ => jcl (cl 222 [jr a, v0, v1] w) (fun v w' => jblk jT0 240 cl bk n 18 [l0, l1] (jpush v st) w') (fun E w' => some (.inr E, w'))) := rfl
theorem E240_18 (x : Int) (l0 l1 : Option jV) (w : jH) : jblk jT0 240 cl bk (n + 1) 18 [l0, l1] [.inl x] w = if jfits .int x = true then some (.inl (some (.inl x)), w) else none := rfl
theorem E241_0 (a : Nat) (st : List jV) (l1 : Option jV) (w : jH) : jblk jT0 241 cl bk (n + 1) 0 [some (jr a), l1] st w = jblk jT0 241 cl bk n 1 [some (jr a), l1] (jr a :: st) w := rfl
theorem E241_1 (a : Nat) (st : List jV) (l1 : Option jV) (w : jH) : jblk jT0 241 cl bk (n + 1) 1 [some (jr a), l1] st w = jblk jT0 241 cl bk n 2 [some (jr a), l1] (jr a :: st) w := rfl
theorem E241_2 (x : Int) (st : List jV) (l0 : Option jV) (w : jH) : jblk jT0 241 cl bk (n + 1) 2 [l0, some (.inl x)] st w = jblk jT0 241 cl bk n 3 [l0, some (.inl x)] (.inl x :: st) w := rfl
theorem E241_3 (a : Nat) (v0 : jV) (st : List jV) (l0 l1 : Option jV) (w : jH) : jblk jT0 241 cl bk (n + 1) 3 [l0, l1] (v0 :: jr a :: st) w = jsh st (jgo w a 9 fun _ => jcl (cl 224 [jr a, v0] w) (fun v w' => jblk jT0 241 cl bk n 6 [l0, l1] (jpush v st) w') (fun E w' => some (.inr E, w'))) := rfl
theorem E241_6 (x : Int) (st : List jV) (l0 l1 : Option jV) (w : jH) : jblk jT0 241 cl bk (n + 1) 6 [l0, l1] (.inl x :: st) w = if x = 0 then jblk jT0 241 cl bk n 9 [l0, l1] st w else jblk jT0 241 cl bk n 13 [l0, l1] st w := rfl
theorem E241_9 (st : List jV) (l0 l1 : Option jV) (w : jH) : jblk jT0 241 cl bk (n + 1) 9 [l0, l1] st w = jblk jT0 241 cl bk n 10 [l0, l1] (.inl 1 :: st) w := rfl
theorem E241_10 (st : List jV) (l0 l1 : Option jV) (w : jH) : jblk jT0 241 cl bk (n + 1) 10 [l0, l1] st w = jblk jT0 241 cl bk n 26 [l0, l1] st w := rfl
theorem E241_13 (a : Nat) (st : List jV) (l1 : Option jV) (w : jH) : jblk jT0 241 cl bk (n + 1) 13 [some (jr a), l1] st w = jblk jT0 241 cl bk n 14 [some (jr a), l1] (jr a :: st) w := rfl
theorem E241_14 (x : Int) (st : List jV) (l0 : Option jV) (w : jH) : jblk jT0 241 cl bk (n + 1) 14 [l0, some (.inl x)] st w = jblk jT0 241 cl bk n 15 [l0, some (.inl x)] (.inl x :: st) w := rfl
theorem E241_15 (a : Nat) (v0 : jV) (st : List jV) (l0 l1 : Option jV) (w : jH) : jblk jT0 241 cl bk (n + 1) 15 [l0, l1] (v0 :: jr a :: st) w = jsh st (jgo w a 9 fun _ => jcl (cl 225 [jr a, v0] w) (fun v w' => jblk jT0 241 cl bk n 18 [l0, l1] (jpush v st) w') (fun E w' => some (.inr E, w'))) := rfl
theorem E241_18 (x : Int) (st : List jV) (l0 l1 : Option jV) (w : jH) : jblk jT0 241 cl bk (n + 1) 18 [l0, l1] (.inl x :: st) w = if x = 0 then jblk jT0 241 cl bk n 25 [l0, l1] st w else jblk jT0 241 cl bk n 21 [l0, l1] st w := rfl
theorem E241_21 (st : List jV) (l0 l1 : Option jV) (w : jH) : jblk jT0 241 cl bk (n + 1) 21 [l0, l1] st w = jblk jT0 241 cl bk n 22 [l0, l1] (.inl 2 :: st) w := rfl
theorem E241_22 (st : List jV) (l0 l1 : Option jV) (w : jH) : jblk jT0 241 cl bk (n + 1) 22 [l0, l1] st w = jblk jT0 241 cl bk n 26 [l0, l1] st w := rfl
theorem E241_25 (st : List jV) (l0 l1 : Option jV) (w : jH) : jblk jT0 241 cl bk (n + 1) 25 [l0, l1] st w = jblk jT0 241 cl bk n 26 [l0, l1] (.inl 0 :: st) w := rfl
theorem E241_26 (a : Nat) (v0 : jV) (st : List jV) (l0 l1 : Option jV) (w : jH) : jblk jT0 241 cl bk (n + 1) 26 [l0, l1] (v0 :: jr a :: st) w = jsh st (jgo w a 9 fun _ => jcl (cl 178 [jr a, v0] w) (fun v w' => jblk jT0 241 cl bk n 29 [l0, l1] (jpush v st) w') (fun E w' => some (.inr E, w'))) := rfl
theorem E241_29 (x : Int) (st : List jV) (l0 l1 : Option jV) (w : jH) : jblk jT0 241 cl bk (n + 1) 29 [l0, l1] (.inl x :: st) w = if x = 0 then jblk jT0 241 cl bk n 36 [l0, l1] st w else jblk jT0 241 cl bk n 32 [l0, l1] st w := rfl
theorem E241_32 (st : List jV) (l0 l1 : Option jV) (w : jH) : jblk jT0 241 cl bk (n + 1) 32 [l0, l1] st w = jblk jT0 241 cl bk n 33 [l0, l1] (.inl 0 :: st) w := rfl
theorem E241_33 (st : List jV) (l0 l1 : Option jV) (w : jH) : jblk jT0 241 cl bk (n + 1) 33 [l0, l1] st w = jblk jT0 241 cl bk n 42 [l0, l1] st w := rfl
theorem E241_36 (a : Nat) (st : List jV) (l1 : Option jV) (w : jH) : jblk jT0 241 cl bk (n + 1) 36 [some (jr a), l1] st w = jblk jT0 241 cl bk n 37 [some (jr a), l1] (jr a :: st) w := rfl
theorem E241_37 (x : Int) (st : List jV) (l0 : Option jV) (w : jH) : jblk jT0 241 cl bk (n + 1) 37 [l0, some (.inl x)] st w = jblk jT0 241 cl bk n 38 [l0, some (.inl x)] (.inl x :: st) w := rfl
theorem E241_38 (st : List jV) (l0 l1 : Option jV) (w : jH) : jblk jT0 241 cl bk (n + 1) 38 [l0, l1] st w = jblk jT0 241 cl bk n 39 [l0, l1] (.inl 0 :: st) w := rfl
theorem E241_39 (a : Nat) (v0 : jV) (v1 : jV) (st : List jV) (l0 l1 : Option jV) (w : jH) : jblk jT0 241 cl bk (n + 1) 39 [l0, l1] (v1 :: v0 :: jr a :: st) w = jsh st (jgo w a 9 fun _ => jcl (cl 222 [jr a, v0, v1] w) (fun v w' => jblk jT0 241 cl bk n 42 [l0, l1] (jpush v st) w') (fun E w' => some (.inr E, w'))) := rfl
theorem E241_42 (x : Int) (l0 l1 : Option jV) (w : jH) : jblk jT0 241 cl bk (n + 1) 42 [l0, l1] [.inl x] w = if jfits .int x = true then some (.inl (some (.inl x)), w) else none := rfl
theorem E242_0 (a : Nat) (st : List jV) (l1 : Option jV) (w : jH) : jblk jT0 242 cl bk (n + 1) 0 [some (jr a), l1] st w = jblk jT0 242 cl bk n 1 [some (jr a), l1] (jr a :: st) w := rfl
theorem E242_1 (x : Int) (st : List jV) (l0 : Option jV) (w : jH) : jblk jT0 242 cl bk (n + 1) 1 [l0, some (.inl x)] st w = jblk jT0 242 cl bk n 2 [l0, some (.inl x)] (.inl x :: st) w := rfl
theorem E242_2 (a : Nat) (v0 : jV) (st : List jV) (l0 l1 : Option jV) (w : jH) : jblk jT0 242 cl bk (n + 1) 2 [l0, l1] (v0 :: jr a :: st) w = jsh st (jgo w a 9 fun _ => jcl (cl 238 [jr a, v0] w) (fun v w' => jblk jT0 242 cl bk n 5 [l0, l1] (jpush v st) w') (fun E w' => some (.inr E, w'))) := rfl
theorem E242_5 (x : Int) (st : List jV) (l0 l1 : Option jV) (w : jH) : jblk jT0 242 cl bk (n + 1) 5 [l0, l1] (.inl x :: st) w = if x = 0 then jblk jT0 242 cl bk n 8 [l0, l1] st w else jblk jT0 242 cl bk n 20 [l0, l1] st w := rfl
theorem E242_8 (a : Nat) (st : List jV) (l1 : Option jV) (w : jH) : jblk jT0 242 cl bk (n + 1) 8 [some (jr a), l1] st w = jblk jT0 242 cl bk n 9 [some (jr a), l1] (jr a :: st) w := rfl
theorem E242_9 (x : Int) (st : List jV) (l0 : Option jV) (w : jH) : jblk jT0 242 cl bk (n + 1) 9 [l0, some (.inl x)] st w = jblk jT0 242 cl bk n 10 [l0, some (.inl x)] (.inl x :: st) w := rfl
theorem E242_10 (a : Nat) (v0 : jV) (st : List jV) (l0 l1 : Option jV) (w : jH) : jblk jT0 242 cl bk (n + 1) 10 [l0, l1] (v0 :: jr a :: st) w = jsh st (jgo w a 9 fun _ => jcl (cl 225 [jr a, v0] w) (fun v w' => jblk jT0 242 cl bk n 13 [l0, l1] (jpush v st) w') (fun E w' => some (.inr E, w'))) := rfl
theorem E242_13 (x : Int) (st : List jV) (l0 l1 : Option jV) (w : jH) : jblk jT0 242 cl bk (n + 1) 13 [l0, l1] (.inl x :: st) w = if x = 0 then jblk jT0 242 cl bk n 20 [l0, l1] st w else jblk jT0 242 cl bk n 16 [l0, l1] st w := rfl
theorem E242_16 (st : List jV) (l0 l1 : Option jV) (w : jH) : jblk jT0 242 cl bk (n + 1) 16 [l0, l1] st w = jblk jT0 242 cl bk n 17 [l0, l1] (.inl 1 :: st) w := rfl
theorem E242_17 (st : List jV) (l0 l1 : Option jV) (w : jH) : jblk jT0 242 cl bk (n + 1) 17 [l0, l1] st w = jblk jT0 242 cl bk n 21 [l0, l1] st w := rfl
theorem E242_20 (st : List jV) (l0 l1 : Option jV) (w : jH) : jblk jT0 242 cl bk (n + 1) 20 [l0, l1] st w = jblk jT0 242 cl bk n 21 [l0, l1] (.inl 0 :: st) w := rfl
theorem E242_21 (x : Int) (l0 l1 : Option jV) (w : jH) : jblk jT0 242 cl bk (n + 1) 21 [l0, l1] [.inl x] w = if jfits .boolean x = true then some (.inl (some (.inl x)), w) else none := rfl
theorem E243_0 (a : Nat) (st : List jV) (l1 : Option jV) (w : jH) : jblk jT0 243 cl bk (n + 1) 0 [some (jr a), l1] st w = jblk jT0 243 cl bk n 1 [some (jr a), l1] (jr a :: st) w := rfl
theorem E243_1 (x : Int) (st : List jV) (l0 : Option jV) (w : jH) : jblk jT0 243 cl bk (n + 1) 1 [l0, some (.inl x)] st w = jblk jT0 243 cl bk n 2 [l0, some (.inl x)] (.inl x :: st) w := rfl
theorem E243_2 (a : Nat) (v0 : jV) (st : List jV) (l0 l1 : Option jV) (w : jH) : jblk jT0 243 cl bk (n + 1) 2 [l0, l1] (v0 :: jr a :: st) w = jsh st (jgo w a 9 fun _ => jcl (cl 238 [jr a, v0] w) (fun v w' => jblk jT0 243 cl bk n 5 [l0, l1] (jpush v st) w') (fun E w' => some (.inr E, w'))) := rfl
theorem E243_5 (x : Int) (st : List jV) (l0 l1 : Option jV) (w : jH) : jblk jT0 243 cl bk (n + 1) 5 [l0, l1] (.inl x :: st) w = if x = 0 then jblk jT0 243 cl bk n 8 [l0, l1] st w else jblk jT0 243 cl bk n 22 [l0, l1] st w := rfl
theorem E243_8 (a : Nat) (st : List jV) (l1 : Option jV) (w : jH) : jblk jT0 243 cl bk (n + 1) 8 [some (jr a), l1] st w = jblk jT0 243 cl bk n 9 [some (jr a), l1] (jr a :: st) w := rfl
theorem E243_9 (x : Int) (st : List jV) (l0 : Option jV) (w : jH) : jblk jT0 243 cl bk (n + 1) 9 [l0, some (.inl x)] st w = jblk jT0 243 cl bk n 10 [l0, some (.inl x)] (.inl x :: st) w := rfl
theorem E243_10 (st : List jV) (l0 l1 : Option jV) (w : jH) : jblk jT0 243 cl bk (n + 1) 10 [l0, l1] st w = jblk jT0 243 cl bk n 11 [l0, l1] (.inl 3 :: st) w := rfl
theorem E243_11 (a : Nat) (v0 : jV) (v1 : jV) (st : List jV) (l0 l1 : Option jV) (w : jH) : jblk jT0 243 cl bk (n + 1) 11 [l0, l1] (v1 :: v0 :: jr a :: st) w = jsh st (jgo w a 9 fun _ => jcl (cl 222 [jr a, v0, v1] w) (fun v w' => jblk jT0 243 cl bk n 14 [l0, l1] (jpush v st) w') (fun E w' => some (.inr E, w'))) := rfl
theorem E243_14 (st : List jV) (l0 l1 : Option jV) (w : jH) : jblk jT0 243 cl bk (n + 1) 14 [l0, l1] st w = jblk jT0 243 cl bk n 15 [l0, l1] (.inl 1 :: st) w := rfl
theorem E243_15 (x : Int) (y : Int) (st : List jV) (l0 l1 : Option jV) (w : jH) : jblk jT0 243 cl bk (n + 1) 15 [l0, l1] (.inl y :: .inl x :: st) w = if x = y then jblk jT0 243 cl bk n 18 [l0, l1] st w else jblk jT0 243 cl bk n 22 [l0, l1] st w := rfl
theorem E243_18 (st : List jV) (l0 l1 : Option jV) (w : jH) : jblk jT0 243 cl bk (n + 1) 18 [l0, l1] st w = jblk jT0 243 cl bk n 19 [l0, l1] (.inl 1 :: st) w := rfl
theorem E243_19 (st : List jV) (l0 l1 : Option jV) (w : jH) : jblk jT0 243 cl bk (n + 1) 19 [l0, l1] st w = jblk jT0 243 cl bk n 23 [l0, l1] st w := rfl
theorem E243_22 (st : List jV) (l0 l1 : Option jV) (w : jH) : jblk jT0 243 cl bk (n + 1) 22 [l0, l1] st w = jblk jT0 243 cl bk n 23 [l0, l1] (.inl 0 :: st) w := rfl
theorem E243_23 (x : Int) (l0 l1 : Option jV) (w : jH) : jblk jT0 243 cl bk (n + 1) 23 [l0, l1] [.inl x] w = if jfits .boolean x = true then some (.inl (some (.inl x)), w) else none := rfl
theorem E244_0 (a : Nat) (st : List jV) (l1 : Option jV) (w : jH) : jblk jT0 244 cl bk (n + 1) 0 [some (jr a), l1] st w = jblk jT0 244 cl bk n 1 [some (jr a), l1] (jr a :: st) w := rfl
theorem E244_1 (x : Int) (st : List jV) (l0 : Option jV) (w : jH) : jblk jT0 244 cl bk (n + 1) 1 [l0, some (.inl x)] st w = jblk jT0 244 cl bk n 2 [l0, some (.inl x)] (.inl x :: st) w := rfl
theorem E244_2 (a : Nat) (v0 : jV) (st : List jV) (l0 l1 : Option jV) (w : jH) : jblk jT0 244 cl bk (n + 1) 2 [l0, l1] (v0 :: jr a :: st) w = jsh st (jgo w a 9 fun _ => jcl (cl 238 [jr a, v0] w) (fun v w' => jblk jT0 244 cl bk n 5 [l0, l1] (jpush v st) w') (fun E w' => some (.inr E, w'))) := rfl
theorem E244_5 (x : Int) (st : List jV) (l0 l1 : Option jV) (w : jH) : jblk jT0 244 cl bk (n + 1) 5 [l0, l1] (.inl x :: st) w = if x = 0 then jblk jT0 244 cl bk n 8 [l0, l1] st w else jblk jT0 244 cl bk n 22 [l0, l1] st w := rfl
theorem E244_8 (a : Nat) (st : List jV) (l1 : Option jV) (w : jH) : jblk jT0 244 cl bk (n + 1) 8 [some (jr a), l1] st w = jblk jT0 244 cl bk n 9 [some (jr a), l1] (jr a :: st) w := rfl
theorem E244_9 (x : Int) (st : List jV) (l0 : Option jV) (w : jH) : jblk jT0 244 cl bk (n + 1) 9 [l0, some (.inl x)] st w = jblk jT0 244 cl bk n 10 [l0, some (.inl x)] (.inl x :: st) w := rfl
theorem E244_10 (st : List jV) (l0 l1 : Option jV) (w : jH) : jblk jT0 244 cl bk (n + 1) 10 [l0, l1] st w = jblk jT0 244 cl bk n 11 [l0, l1] (.inl 4 :: st) w := rfl
theorem E244_11 (a : Nat) (v0 : jV) (v1 : jV) (st : List jV) (l0 l1 : Option jV) (w : jH) : jblk jT0 244 cl bk (n + 1) 11 [l0, l1] (v1 :: v0 :: jr a :: st) w = jsh st (jgo w a 9 fun _ => jcl (cl 222 [jr a, v0, v1] w) (fun v w' => jblk jT0 244 cl bk n 14 [l0, l1] (jpush v st) w') (fun E w' => some (.inr E, w'))) := rfl
theorem E244_14 (st : List jV) (l0 l1 : Option jV) (w : jH) : jblk jT0 244 cl bk (n + 1) 14 [l0, l1] st w = jblk jT0 244 cl bk n 15 [l0, l1] (.inl 1 :: st) w := rfl
theorem E244_15 (x : Int) (y : Int) (st : List jV) (l0 l1 : Option jV) (w : jH) : jblk jT0 244 cl bk (n + 1) 15 [l0, l1] (.inl y :: .inl x :: st) w = if x = y then jblk jT0 244 cl bk n 18 [l0, l1] st w else jblk jT0 244 cl bk n 22 [l0, l1] st w := rfl
theorem E244_18 (st : List jV) (l0 l1 : Option jV) (w : jH) : jblk jT0 244 cl bk (n + 1) 18 [l0, l1] st w = jblk jT0 244 cl bk n 19 [l0, l1] (.inl 1 :: st) w := rfl
theorem E244_19 (st : List jV) (l0 l1 : Option jV) (w : jH) : jblk jT0 244 cl bk (n + 1) 19 [l0, l1] st w = jblk jT0 244 cl bk n 23 [l0, l1] st w := rfl
theorem E244_22 (st : List jV) (l0 l1 : Option jV) (w : jH) : jblk jT0 244 cl bk (n + 1) 22 [l0, l1] st w = jblk jT0 244 cl bk n 23 [l0, l1] (.inl 0 :: st) w := rfl
theorem E244_23 (x : Int) (l0 l1 : Option jV) (w : jH) : jblk jT0 244 cl bk (n + 1) 23 [l0, l1] [.inl x] w = if jfits .boolean x = true then some (.inl (some (.inl x)), w) else none := rfl
theorem E245_0 (x : Int) (st : List jV) (l0 l1 l3 : Option jV) (w : jH) : jblk jT0 245 cl bk (n + 1) 0 [l0, l1, some (.inl x), l3] st w = jblk jT0 245 cl bk n 1 [l0, l1, some (.inl x), l3] (.inl x :: st) w := rfl
theorem E245_1 (v0 : jV) (st : List jV) (l0 l1 l2 l3 : Option jV) (w : jH) : jblk jT0 245 cl bk (n + 1) 1 [l0, l1, l2, l3] (v0 :: st) w = jsh st (jcl (cl 227 [v0] w) (fun v w' => jblk jT0 245 cl bk n 4 [l0, l1, l2, l3] (jpush v st) w') (fun E w' => some (.inr E, w'))) := rfl
theorem E245_4 (x : Int) (st : List jV) (l0 l1 l2 l3 : Option jV) (w : jH) : jblk jT0 245 cl bk (n + 1) 4 [l0, l1, l2, l3] (.inl x :: st) w = jblk jT0 245 cl bk n 5 [l0, l1, l2, some (.inl x)] st w := rfl
theorem E245_5 (a : Nat) (st : List jV) (l1 l2 l3 : Option jV) (w : jH) : jblk jT0 245 cl bk (n + 1) 5 [some (jr a), l1, l2, l3] st w = jblk jT0 245 cl bk n 6 [some (jr a), l1, l2, l3] (jr a :: st) w := rfl
theorem E245_6 (a : Nat) (st : List jV) (l1 l2 l3 : Option jV) (w : jH) : jblk jT0 245 cl bk (n + 1) 6 [some (jr a), l1, l2, l3] st w = jblk jT0 245 cl bk n 7 [some (jr a), l1, l2, l3] (jr a :: st) w := rfl
theorem E245_7 (x : Int) (st : List jV) (l0 l2 l3 : Option jV) (w : jH) : jblk jT0 245 cl bk (n + 1) 7 [l0, some (.inl x), l2, l3] st w = jblk jT0 245 cl bk n 8 [l0, some (.inl x), l2, l3] (.inl x :: st) w := rfl
theorem E245_8 (a : Nat) (v0 : jV) (st : List jV) (l0 l1 l2 l3 : Option jV) (w : jH) : jblk jT0 245 cl bk (n + 1) 8 [l0, l1, l2, l3] (v0 :: jr a :: st) w = jsh st (jgo w a 9 fun _ => jcl (cl 184 [jr a, v0] w) (fun v w' => jblk jT0 245 cl bk n 11 [l0, l1, l2, l3] (jpush v st) w') (fun E w' => some (.inr E, w'))) := rfl
theorem E245_11 (x : Int) (st : List jV) (l0 l1 l2 l3 : Option jV) (w : jH) : jblk jT0 245 cl bk (n + 1) 11 [l0, l1, l2, l3] (.inl x :: st) w = if x = 0 then jblk jT0 245 cl bk n 14 [l0, l1, l2, l3] st w else jblk jT0 245 cl bk n 18 [l0, l1, l2, l3] st w := rfl
theorem E245_14 (st : List jV) (l0 l1 l2 l3 : Option jV) (w : jH) : jblk jT0 245 cl bk (n + 1) 14 [l0, l1, l2, l3] st w = jblk jT0 245 cl bk n 15 [l0, l1, l2, l3] (.inl 1 :: st) w := rfl
theorem E245_15 (st : List jV) (l0 l1 l2 l3 : Option jV) (w : jH) : jblk jT0 245 cl bk (n + 1) 15 [l0, l1, l2, l3] st w = jblk jT0 245 cl bk n 40 [l0, l1, l2, l3] st w := rfl
theorem E245_18 (x : Int) (st : List jV) (l0 l1 l2 : Option jV) (w : jH) : jblk jT0 245 cl bk (n + 1) 18 [l0, l1, l2, some (.inl x)] st w = jblk jT0 245 cl bk n 19 [l0, l1, l2, some (.inl x)] (.inl x :: st) w := rfl
theorem E245_19 (x : Int) (st : List jV) (l0 l1 l2 l3 : Option jV) (w : jH) : jblk jT0 245 cl bk (n + 1) 19 [l0, l1, l2, l3] (.inl x :: st) w = if x < 0 then jblk jT0 245 cl bk n 22 [l0, l1, l2, l3] st w else jblk jT0 245 cl bk n 26 [l0, l1, l2, l3] st w := rfl
theorem E245_22 (st : List jV) (l0 l1 l2 l3 : Option jV) (w : jH) : jblk jT0 245 cl bk (n + 1) 22 [l0, l1, l2, l3] st w = jblk jT0 245 cl bk n 23 [l0, l1, l2, l3] (.inl 2 :: st) w := rfl
theorem E245_23 (st : List jV) (l0 l1 l2 l3 : Option jV) (w : jH) : jblk jT0 245 cl bk (n + 1) 23 [l0, l1, l2, l3] st w = jblk jT0 245 cl bk n 40 [l0, l1, l2, l3] st w := rfl
theorem E245_26 (a : Nat) (st : List jV) (l1 l2 l3 : Option jV) (w : jH) : jblk jT0 245 cl bk (n + 1) 26 [some (jr a), l1, l2, l3] st w = jblk jT0 245 cl bk n 27 [some (jr a), l1, l2, l3] (jr a :: st) w := rfl
theorem E245_27 (x : Int) (st : List jV) (l0 l2 l3 : Option jV) (w : jH) : jblk jT0 245 cl bk (n + 1) 27 [l0, some (.inl x), l2, l3] st w = jblk jT0 245 cl bk n 28 [l0, some (.inl x), l2, l3] (.inl x :: st) w := rfl
theorem E245_28 (x : Int) (st : List jV) (l0 l1 l2 : Option jV) (w : jH) : jblk jT0 245 cl bk (n + 1) 28 [l0, l1, l2, some (.inl x)] st w = jblk jT0 245 cl bk n 29 [l0, l1, l2, some (.inl x)] (.inl x :: st) w := rfl
theorem E245_29 (a : Nat) (v0 : jV) (v1 : jV) (st : List jV) (l0 l1 l2 l3 : Option jV) (w : jH) : jblk jT0 245 cl bk (n + 1) 29 [l0, l1, l2, l3] (v1 :: v0 :: jr a :: st) w = jsh st (jgo w a 9 fun _ => jcl (cl 229 [jr a, v0, v1] w) (fun v w' => jblk jT0 245 cl bk n 32 [l0, l1, l2, l3] (jpush v st) w') (fun E w' => some (.inr E, w'))) := rfl
theorem E245_32 (x : Int) (st : List jV) (l0 l1 l2 l3 : Option jV) (w : jH) : jblk jT0 245 cl bk (n + 1) 32 [l0, l1, l2, l3] (.inl x :: st) w = if x < 0 then jblk jT0 245 cl bk n 35 [l0, l1, l2, l3] st w else jblk jT0 245 cl bk n 39 [l0, l1, l2, l3] st w := rfl
theorem E245_35 (st : List jV) (l0 l1 l2 l3 : Option jV) (w : jH) : jblk jT0 245 cl bk (n + 1) 35 [l0, l1, l2, l3] st w = jblk jT0 245 cl bk n 36 [l0, l1, l2, l3] (.inl 3 :: st) w := rfl
theorem E245_36 (st : List jV) (l0 l1 l2 l3 : Option jV) (w : jH) : jblk jT0 245 cl bk (n + 1) 36 [l0, l1, l2, l3] st w = jblk jT0 245 cl bk n 40 [l0, l1, l2, l3] st w := rfl
theorem E245_39 (st : List jV) (l0 l1 l2 l3 : Option jV) (w : jH) : jblk jT0 245 cl bk (n + 1) 39 [l0, l1, l2, l3] st w = jblk jT0 245 cl bk n 40 [l0, l1, l2, l3] (.inl 0 :: st) w := rfl
theorem E245_40 (a : Nat) (v0 : jV) (st : List jV) (l0 l1 l2 l3 : Option jV) (w : jH) : jblk jT0 245 cl bk (n + 1) 40 [l0, l1, l2, l3] (v0 :: jr a :: st) w = jsh st (jgo w a 9 fun _ => jcl (cl 178 [jr a, v0] w) (fun v w' => jblk jT0 245 cl bk n 43 [l0, l1, l2, l3] (jpush v st) w') (fun E w' => some (.inr E, w'))) := rfl
theorem E245_43 (x : Int) (st : List jV) (l0 l1 l2 l3 : Option jV) (w : jH) : jblk jT0 245 cl bk (n + 1) 43 [l0, l1, l2, l3] (.inl x :: st) w = if x = 0 then jblk jT0 245 cl bk n 48 [l0, l1, l2, l3] st w else jblk jT0 245 cl bk n 46 [l0, l1, l2, l3] st w := rfl
theorem E245_46 (st : List jV) (l0 l1 l2 l3 : Option jV) (w : jH) : jblk jT0 245 cl bk (n + 1) 46 [l0, l1, l2, l3] st w = jblk jT0 245 cl bk n 47 [l0, l1, l2, l3] (.inl 0 :: st) w := rfl
theorem E245_47 (x : Int) (l0 l1 l2 l3 : Option jV) (w : jH) : jblk jT0 245 cl bk (n + 1) 47 [l0, l1, l2, l3] [.inl x] w = if jfits .int x = true then some (.inl (some (.inl x)), w) else none := rfl
theorem E245_48 (a : Nat) (st : List jV) (l1 l2 l3 : Option jV) (w : jH) : jblk jT0 245 cl bk (n + 1) 48 [some (jr a), l1, l2, l3] st w = jblk jT0 245 cl bk n 49 [some (jr a), l1, l2, l3] (jr a :: st) w := rfl
theorem E245_49 (x : Int) (st : List jV) (l0 l2 l3 : Option jV) (w : jH) : jblk jT0 245 cl bk (n + 1) 49 [l0, some (.inl x), l2, l3] st w = jblk jT0 245 cl bk n 50 [l0, some (.inl x), l2, l3] (.inl x :: st) w := rfl
theorem E245_50 (x : Int) (st : List jV) (l0 l1 l2 : Option jV) (w : jH) : jblk jT0 245 cl bk (n + 1) 50 [l0, l1, l2, some (.inl x)] st w = jblk jT0 245 cl bk n 51 [l0, l1, l2, some (.inl x)] (.inl x :: st) w := rfl
theorem E245_51 (a : Nat) (v0 : jV) (v1 : jV) (st : List jV) (l0 l1 l2 l3 : Option jV) (w : jH) : jblk jT0 245 cl bk (n + 1) 51 [l0, l1, l2, l3] (v1 :: v0 :: jr a :: st) w = jsh st (jgo w a 9 fun _ => jcl (cl 229 [jr a, v0, v1] w) (fun v w' => jblk jT0 245 cl bk n 54 [l0, l1, l2, l3] (jpush v st) w') (fun E w' => some (.inr E, w'))) := rfl
theorem E245_54 (x : Int) (l0 l1 l2 l3 : Option jV) (w : jH) : jblk jT0 245 cl bk (n + 1) 54 [l0, l1, l2, l3] [.inl x] w = if jfits .int x = true then some (.inl (some (.inl x)), w) else none := rfl
theorem E246_0 (st : List jV) (l0 l1 l2 l3 : Option jV) (w : jH) : jblk jT0 246 cl bk (n + 1) 0 [l0, l1, l2, l3] st w = jblk jT0 246 cl bk n 1 [l0, l1, l2, l3] (.inl 0 :: st) w := rfl
theorem E246_1 (x : Int) (st : List jV) (l0 l1 l2 l3 : Option jV) (w : jH) : jblk jT0 246 cl bk (n + 1) 1 [l0, l1, l2, l3] (.inl x :: st) w = jblk jT0 246 cl bk n 2 [l0, l1, some (.inl x), l3] st w := rfl
theorem E246_2 (st : List jV) (l0 l1 l2 l3 : Option jV) (w : jH) : jblk jT0 246 cl bk (n + 1) 2 [l0, l1, l2, l3] st w = jblk jT0 246 cl bk n 3 [l0, l1, l2, l3] (.inl 0 :: st) w := rfl
theorem E246_3 (x : Int) (st : List jV) (l0 l1 l2 l3 : Option jV) (w : jH) : jblk jT0 246 cl bk (n + 1) 3 [l0, l1, l2, l3] (.inl x :: st) w = bk 4 [l0, l1, l2, some (.inl x)] st w := rfl
theorem E246_4 (x : Int) (st : List jV) (l0 l1 l2 : Option jV) (w : jH) : jblk jT0 246 cl bk (n + 1) 4 [l0, l1, l2, some (.inl x)] st w = jblk jT0 246 cl bk n 5 [l0, l1, l2, some (.inl x)] (.inl x :: st) w := rfl
theorem E246_5 (a : Nat) (st : List jV) (l1 l2 l3 : Option jV) (w : jH) : jblk jT0 246 cl bk (n + 1) 5 [some (jr a), l1, l2, l3] st w = jblk jT0 246 cl bk n 6 [some (jr a), l1, l2, l3] (jr a :: st) w := rfl
theorem E246_6 (a : Nat) (st : List jV) (l0 l1 l2 l3 : Option jV) (w : jH) : jblk jT0 246 cl bk (n + 1) 6 [l0, l1, l2, l3] (jr a :: st) w = jgf w a 9 0 fun v => jblk jT0 246 cl bk n 9 [l0, l1, l2, l3] (v :: st) w := rfl
theorem E246_9 (st : List jV) (l0 l1 l2 l3 : Option jV) (w : jH) : jblk jT0 246 cl bk (n + 1) 9 [l0, l1, l2, l3] st w = jblk jT0 246 cl bk n 10 [l0, l1, l2, l3] (.inl 1 :: st) w := rfl
theorem E246_10 (x : Int) (a : Nat) (st : List jV) (l0 l1 l2 l3 : Option jV) (w : jH) : jblk jT0 246 cl bk (n + 1) 10 [l0, l1, l2, l3] (.inl x :: jr a :: st) w = jlda w a x (fun z => jblk jT0 246 cl bk n 11 [l0, l1, l2, l3] (.inl z :: st) w) := rfl
theorem E246_11 (x : Int) (y : Int) (st : List jV) (l0 l1 l2 l3 : Option jV) (w : jH) : jblk jT0 246 cl bk (n + 1) 11 [l0, l1, l2, l3] (.inl y :: .inl x :: st) w = if x < y then jblk jT0 246 cl bk n 14 [l0, l1, l2, l3] st w else jblk jT0 246 cl bk n 43 [l0, l1, l2, l3] st w := rfl
theorem E246_14 (x : Int) (st : List jV) (l0 l1 l3 : Option jV) (w : jH) : jblk jT0 246 cl bk (n + 1) 14 [l0, l1, some (.inl x), l3] st w = jblk jT0 246 cl bk n 15 [l0, l1, some (.inl x), l3] (.inl x :: st) w := rfl
theorem E246_15 (a : Nat) (st : List jV) (l1 l2 l3 : Option jV) (w : jH) : jblk jT0 246 cl bk (n + 1) 15 [some (jr a), l1, l2, l3] st w = jblk jT0 246 cl bk n 16 [some (jr a), l1, l2, l3] (jr a :: st) w := rfl
theorem E246_16 (x : Int) (st : List jV) (l0 l1 l2 : Option jV) (w : jH) : jblk jT0 246 cl bk (n + 1) 16 [l0, l1, l2, some (.inl x)] st w = jblk jT0 246 cl bk n 17 [l0, l1, l2, some (.inl x)] (.inl x :: st) w := rfl
theorem E246_17 (st : List jV) (l0 l1 l2 l3 : Option jV) (w : jH) : jblk jT0 246 cl bk (n + 1) 17 [l0, l1, l2, l3] st w = jblk jT0 246 cl bk n 18 [l0, l1, l2, l3] (.inl 0 :: st) w := rfl
theorem E246_18 (a : Nat) (v0 : jV) (v1 : jV) (st : List jV) (l0 l1 l2 l3 : Option jV) (w : jH) : jblk jT0 246 cl bk (n + 1) 18 [l0, l1, l2, l3] (v1 :: v0 :: jr a :: st) w = jsh st (jgo w a 9 fun _ => jcl (cl 222 [jr a, v0, v1] w) (fun v w' => jblk jT0 246 cl bk n 21 [l0, l1, l2, l3] (jpush v st) w') (fun E w' => some (.inr E, w'))) := rfl
theorem E246_21 (x : Int) (st : List jV) (l0 l2 l3 : Option jV) (w : jH) : jblk jT0 246 cl bk (n + 1) 21 [l0, some (.inl x), l2, l3] st w = jblk jT0 246 cl bk n 22 [l0, some (.inl x), l2, l3] (.inl x :: st) w := rfl
theorem E246_22 (x : Int) (y : Int) (st : List jV) (l0 l1 l2 l3 : Option jV) (w : jH) : jblk jT0 246 cl bk (n + 1) 22 [l0, l1, l2, l3] (.inl y :: .inl x :: st) w = if x = y then jblk jT0 246 cl bk n 25 [l0, l1, l2, l3] st w else jblk jT0 246 cl bk n 34 [l0, l1, l2, l3] st w := rfl
theorem E246_25 (a : Nat) (st : List jV) (l1 l2 l3 : Option jV) (w : jH) : jblk jT0 246 cl bk (n + 1) 25 [some (jr a), l1, l2, l3] st w = jblk jT0 246 cl bk n 26 [some (jr a), l1, l2, l3] (jr a :: st) w := rfl
theorem E246_26 (x : Int) (st : List jV) (l0 l1 l2 : Option jV) (w : jH) : jblk jT0 246 cl bk (n + 1) 26 [l0, l1, l2, some (.inl x)] st w = jblk jT0 246 cl bk n 27 [l0, l1, l2, some (.inl x)] (.inl x :: st) w := rfl
theorem E246_27 (st : List jV) (l0 l1 l2 l3 : Option jV) (w : jH) : jblk jT0 246 cl bk (n + 1) 27 [l0, l1, l2, l3] st w = jblk jT0 246 cl bk n 28 [l0, l1, l2, l3] (.inl 2 :: st) w := rfl
theorem E246_28 (a : Nat) (v0 : jV) (v1 : jV) (st : List jV) (l0 l1 l2 l3 : Option jV) (w : jH) : jblk jT0 246 cl bk (n + 1) 28 [l0, l1, l2, l3] (v1 :: v0 :: jr a :: st) w = jsh st (jgo w a 9 fun _ => jcl (cl 222 [jr a, v0, v1] w) (fun v w' => jblk jT0 246 cl bk n 31 [l0, l1, l2, l3] (jpush v st) w') (fun E w' => some (.inr E, w'))) := rfl
theorem E246_31 (st : List jV) (l0 l1 l2 l3 : Option jV) (w : jH) : jblk jT0 246 cl bk (n + 1) 31 [l0, l1, l2, l3] st w = jblk jT0 246 cl bk n 35 [l0, l1, l2, l3] st w := rfl
theorem E246_34 (st : List jV) (l0 l1 l2 l3 : Option jV) (w : jH) : jblk jT0 246 cl bk (n + 1) 34 [l0, l1, l2, l3] st w = jblk jT0 246 cl bk n 35 [l0, l1, l2, l3] (.inl 0 :: st) w := rfl
theorem E246_35 (x : Int) (y : Int) (st : List jV) (l0 l1 l2 l3 : Option jV) (w : jH) : jblk jT0 246 cl bk (n + 1) 35 [l0, l1, l2, l3] (.inl y :: .inl x :: st) w = jblk jT0 246 cl bk n 36 [l0, l1, l2, l3] (.inl (jw (x + y)) :: st) w := rfl
theorem E246_36 (x : Int) (st : List jV) (l0 l1 l2 l3 : Option jV) (w : jH) : jblk jT0 246 cl bk (n + 1) 36 [l0, l1, l2, l3] (.inl x :: st) w = jblk jT0 246 cl bk n 37 [l0, l1, some (.inl x), l3] st w := rfl
theorem E246_37 (x : Int) (st : List jV) (l0 l1 l2 : Option jV) (w : jH) : jblk jT0 246 cl bk (n + 1) 37 [l0, l1, l2, some (.inl x)] st w = jblk jT0 246 cl bk n 40 [l0, l1, l2, some (.inl (jw (x + 1)))] st w := rfl
theorem E246_40 (st : List jV) (l0 l1 l2 l3 : Option jV) (w : jH) : jblk jT0 246 cl bk (n + 1) 40 [l0, l1, l2, l3] st w = bk 4 [l0, l1, l2, l3] st w := rfl
theorem E246_43 (x : Int) (st : List jV) (l0 l1 l3 : Option jV) (w : jH) : jblk jT0 246 cl bk (n + 1) 43 [l0, l1, some (.inl x), l3] st w = jblk jT0 246 cl bk n 44 [l0, l1, some (.inl x), l3] (.inl x :: st) w := rfl
theorem E246_44 (x : Int) (l0 l1 l2 l3 : Option jV) (w : jH) : jblk jT0 246 cl bk (n + 1) 44 [l0, l1, l2, l3] [.inl x] w = if jfits .int x = true then some (.inl (some (.inl x)), w) else none := rfl
end
theorem M237 (d : Nat) (r0 : Nat) (w : jH) : jme jT0 jMx (d + 1) 237 [jr r0] w = jblk jT0 237 (jme jT0 jMx d) (jlp jT0 237 (jme jT0 jMx d) 99999) 4000 0 [some (jr r0)] [] w := (show _ = jlp jT0 237 (jme jT0 jMx d) 100000 0 [some (jr r0)] [] w from rfl).trans jlp_s
theorem M238 (d : Nat) (r0 : Nat) (a1 : Int) (w : jH) : jme jT0 jMx (d + 1) 238 [jr r0, .inl a1] w = jblk jT0 238 (jme jT0 jMx d) (jlp jT0 238 (jme jT0 jMx d) 99999) 4000 0 [some (jr r0), some (.inl a1)] [] w := (show _ = jlp jT0 238 (jme jT0 jMx d) 100000 0 [some (jr r0), some (.inl a1)] [] w from rfl).trans jlp_s
theorem M239 (d : Nat) (r0 : Nat) (a1 : Int) (w : jH) : jme jT0 jMx (d + 1) 239 [jr r0, .inl a1] w = jblk jT0 239 (jme jT0 jMx d) (jlp jT0 239 (jme jT0 jMx d) 99999) 4000 0 [some (jr r0), some (.inl a1)] [] w := (show _ = jlp jT0 239 (jme jT0 jMx d) 100000 0 [some (jr r0), some (.inl a1)] [] w from rfl).trans jlp_s
theorem M240 (d : Nat) (r0 : Nat) (a1 : Int) (w : jH) : jme jT0 jMx (d + 1) 240 [jr r0, .inl a1] w = jblk jT0 240 (jme jT0 jMx d) (jlp jT0 240 (jme jT0 jMx d) 99999) 4000 0 [some (jr r0), some (.inl a1)] [] w := (show _ = jlp jT0 240 (jme jT0 jMx d) 100000 0 [some (jr r0), some (.inl a1)] [] w from rfl).trans jlp_s
theorem M241 (d : Nat) (r0 : Nat) (a1 : Int) (w : jH) : jme jT0 jMx (d + 1) 241 [jr r0, .inl a1] w = jblk jT0 241 (jme jT0 jMx d) (jlp jT0 241 (jme jT0 jMx d) 99999) 4000 0 [some (jr r0), some (.inl a1)] [] w := (show _ = jlp jT0 241 (jme jT0 jMx d) 100000 0 [some (jr r0), some (.inl a1)] [] w from rfl).trans jlp_s
theorem M242 (d : Nat) (r0 : Nat) (a1 : Int) (w : jH) : jme jT0 jMx (d + 1) 242 [jr r0, .inl a1] w = jblk jT0 242 (jme jT0 jMx d) (jlp jT0 242 (jme jT0 jMx d) 99999) 4000 0 [some (jr r0), some (.inl a1)] [] w := (show _ = jlp jT0 242 (jme jT0 jMx d) 100000 0 [some (jr r0), some (.inl a1)] [] w from rfl).trans jlp_s
theorem M243 (d : Nat) (r0 : Nat) (a1 : Int) (w : jH) : jme jT0 jMx (d + 1) 243 [jr r0, .inl a1] w = jblk jT0 243 (jme jT0 jMx d) (jlp jT0 243 (jme jT0 jMx d) 99999) 4000 0 [some (jr r0), some (.inl a1)] [] w := (show _ = jlp jT0 243 (jme jT0 jMx d) 100000 0 [some (jr r0), some (.inl a1)] [] w from rfl).trans jlp_s
theorem M244 (d : Nat) (r0 : Nat) (a1 : Int) (w : jH) : jme jT0 jMx (d + 1) 244 [jr r0, .inl a1] w = jblk jT0 244 (jme jT0 jMx d) (jlp jT0 244 (jme jT0 jMx d) 99999) 4000 0 [some (jr r0), some (.inl a1)] [] w := (show _ = jlp jT0 244 (jme jT0 jMx d) 100000 0 [some (jr r0), some (.inl a1)] [] w from rfl).trans jlp_s
theorem M245 (d : Nat) (r0 : Nat) (a1 : Int) (a2 : Int) (w : jH) : jme jT0 jMx (d + 1) 245 [jr r0, .inl a1, .inl a2] w = jblk jT0 245 (jme jT0 jMx d) (jlp jT0 245 (jme jT0 jMx d) 99999) 4000 0 [some (jr r0), some (.inl a1), some (.inl a2), none] [] w := (show _ = jlp jT0 245 (jme jT0 jMx d) 100000 0 [some (jr r0), some (.inl a1), some (.inl a2), none] [] w from rfl).trans jlp_s
theorem M246 (d : Nat) (r0 : Nat) (a1 : Int) (w : jH) : jme jT0 jMx (d + 1) 246 [jr r0, .inl a1] w = jblk jT0 246 (jme jT0 jMx d) (jlp jT0 246 (jme jT0 jMx d) 99999) 4000 0 [some (jr r0), some (.inl a1), none, none] [] w := (show _ = jlp jT0 246 (jme jT0 jMx d) 100000 0 [some (jr r0), some (.inl a1), none, none] [] w from rfl).trans jlp_s
def f_Mod_habitCount (m : jMem) : Option (Int × jMem) := oix (1 : Int) 138 (some ((mset m 147 8 0) 148 (1 : Int).toNat, mset m 147 8 0))
section
variable {cf : jCf} {dv : UInt64}
set_option maxRecDepth 20000 in
set_option maxHeartbeats 4000000 in
theorem X237 (d : Nat) (m : jMem) (k : jM) : jme jT0 jMx (d + 1) 237 [jr (jn cf + 147)] (hp cf dv m, k) = lW cf dv k ijI (f_Mod_habitCount m) := by
  simp only [M237, E237_0, E237_1, E237_2, E237_5, E237_6, E237_9, E237_10, E237_11, ai_148, gf_147_0, pf_147_8, jsh_n, jsh_I, jsh_R, jsh_II, jsh_IR, jsh_RI, jsh_RR, jsh_III, jsh_IIR, jsh_IRI, jsh_IRR, jsh_RII, jsh_RIR, jsh_RRI, jsh_RRR, jsh_IIII, jsh_IIIR, jsh_IIRI, jsh_IIRR, jsh_IRII, jsh_IRIR, jsh_IRRI, jsh_IRRR, jsh_RIII, jsh_RIIR, jsh_RIRI, jsh_RIRR, jsh_RRII, jsh_RRIR, jsh_RRRI, jsh_RRRR, jthr_hp, jc_l0, jc_lW, jc_lX, jc_lXW, jc_lVW, jc_lVX, jpush_n, jpush_s, obt_0, obt_1, och_0, och_32, och_100, och_115, och_104, och_33, och_43, och_60, jint, jbit, jchr, ijI, ijR, ijD, ijF, ↓reduceIte, Int.reduceEq, Int.reduceLT, reduceCtorEq, lW_bind, lW_ite, lW_none, lW_oix, lW_obt, lW_och, lW_sel, lW_oel, lW_some, f_Mod_habitCount]
end
def f_Mod_isNone (m : jMem) (a1 : Int) : Option (Int × jMem) := (f_Mod_isHabit m a1).bind fun x1 => if x1 = 0 then (f_Mod_fails m 1).bind fun qx2 => obt qx2.1 (some (qx2.1, qx2.2)) else (f_Mod_fails m 0).bind fun qx3 => obt qx3.1 (some (qx3.1, qx3.2))
section
variable {cf : jCf} {dv : UInt64}
set_option maxRecDepth 20000 in
set_option maxHeartbeats 4000000 in
theorem X238 (d : Nat) (a1 : Int) (m : jMem) (k : jM) : jme jT0 jMx (d + 3) 238 [jr (jn cf + 147), .inl a1] (hp cf dv m, k) = lW cf dv k ijI (f_Mod_isNone m a1) := by
  simp only [M238, E238_0, E238_1, E238_2, E238_3, E238_6, E238_9, E238_10, E238_13, E238_14, E238_17, X178, X224, go_147, jsh_n, jsh_I, jsh_R, jsh_II, jsh_IR, jsh_RI, jsh_RR, jsh_III, jsh_IIR, jsh_IRI, jsh_IRR, jsh_RII, jsh_RIR, jsh_RRI, jsh_RRR, jsh_IIII, jsh_IIIR, jsh_IIRI, jsh_IIRR, jsh_IRII, jsh_IRIR, jsh_IRRI, jsh_IRRR, jsh_RIII, jsh_RIIR, jsh_RIRI, jsh_RIRR, jsh_RRII, jsh_RRIR, jsh_RRRI, jsh_RRRR, jthr_hp, jc_l0, jc_lW, jc_lX, jc_lXW, jc_lVW, jc_lVX, jpush_n, jpush_s, obt_0, obt_1, och_0, och_32, och_100, och_115, och_104, och_33, och_43, och_60, jint, jbit, jchr, ijI, ijR, ijD, ijF, ↓reduceIte, Int.reduceEq, Int.reduceLT, reduceCtorEq, lW_bind, lW_ite, lW_none, lW_oix, lW_obt, lW_och, lW_sel, lW_oel, lW_some, f_Mod_isNone]
end
def f_Mod_kindOf (m : jMem) (a1 : Int) : Option (Int × jMem) := (f_Mod_isNone m a1).bind fun qx1 => if qx1.1 = 0 then (f_Mod_of qx1.2 a1 1).bind fun x2 => (f_Mod_letterOf qx1.2 x2).bind fun x3 => och x3 (some (x3, qx1.2)) else some (32, qx1.2)
section
variable {cf : jCf} {dv : UInt64}
set_option maxRecDepth 20000 in
set_option maxHeartbeats 4000000 in
theorem X239 (d : Nat) (a1 : Int) (m : jMem) (k : jM) : jme jT0 jMx (d + 4) 239 [jr (jn cf + 147), .inl a1] (hp cf dv m, k) = lW cf dv k ijI (f_Mod_kindOf m a1) := by
  simp only [M239, E239_0, E239_1, E239_2, E239_5, E239_8, E239_10, E239_13, E239_14, E239_15, E239_16, E239_19, E239_22, X222, X228, X238, go_147, jsh_n, jsh_I, jsh_R, jsh_II, jsh_IR, jsh_RI, jsh_RR, jsh_III, jsh_IIR, jsh_IRI, jsh_IRR, jsh_RII, jsh_RIR, jsh_RRI, jsh_RRR, jsh_IIII, jsh_IIIR, jsh_IIRI, jsh_IIRR, jsh_IRII, jsh_IRIR, jsh_IRRI, jsh_IRRR, jsh_RIII, jsh_RIIR, jsh_RIRI, jsh_RIRR, jsh_RRII, jsh_RRIR, jsh_RRRI, jsh_RRRR, jthr_hp, jc_l0, jc_lW, jc_lX, jc_lXW, jc_lVW, jc_lVX, jpush_n, jpush_s, obt_0, obt_1, och_0, och_32, och_100, och_115, och_104, och_33, och_43, och_60, jint, jbit, jchr, ijI, ijR, ijD, ijF, ↓reduceIte, Int.reduceEq, Int.reduceLT, reduceCtorEq, lW_bind, lW_ite, lW_none, lW_oix, lW_obt, lW_och, lW_sel, lW_oel, lW_some, f_Mod_kindOf]
end
def f_Mod_strengthOf (m : jMem) (a1 : Int) : Option (Int × jMem) := (f_Mod_isNone m a1).bind fun qx1 => if qx1.1 = 0 then (f_Mod_of qx1.2 a1 2).bind fun x2 => some (x2, qx1.2) else some (0, qx1.2)
section
variable {cf : jCf} {dv : UInt64}
set_option maxRecDepth 20000 in
set_option maxHeartbeats 4000000 in
theorem X240 (d : Nat) (a1 : Int) (m : jMem) (k : jM) : jme jT0 jMx (d + 4) 240 [jr (jn cf + 147), .inl a1] (hp cf dv m, k) = lW cf dv k ijI (f_Mod_strengthOf m a1) := by
  simp only [M240, E240_0, E240_1, E240_2, E240_5, E240_8, E240_9, E240_12, E240_13, E240_14, E240_15, E240_18, X222, X238, go_147, jsh_n, jsh_I, jsh_R, jsh_II, jsh_IR, jsh_RI, jsh_RR, jsh_III, jsh_IIR, jsh_IRI, jsh_IRR, jsh_RII, jsh_RIR, jsh_RRI, jsh_RRR, jsh_IIII, jsh_IIIR, jsh_IIRI, jsh_IIRR, jsh_IRII, jsh_IRIR, jsh_IRRI, jsh_IRRR, jsh_RIII, jsh_RIIR, jsh_RIRI, jsh_RIRR, jsh_RRII, jsh_RRIR, jsh_RRRI, jsh_RRRR, jthr_hp, jc_l0, jc_lW, jc_lX, jc_lXW, jc_lVW, jc_lVX, jpush_n, jpush_s, obt_0, obt_1, och_0, och_32, och_100, och_115, och_104, och_33, och_43, och_60, jint, jbit, jchr, ijI, ijR, ijD, ijF, ↓reduceIte, Int.reduceEq, Int.reduceLT, reduceCtorEq, lW_bind, lW_ite, lW_none, lW_oix, lW_obt, lW_och, lW_sel, lW_oel, lW_some, f_Mod_strengthOf]
end
def f_Mod_holderOf (m : jMem) (a1 : Int) : Option (Int × jMem) := (f_Mod_isHabit m a1).bind fun x1 => if x1 = 0 then (f_Mod_fails m 1).bind fun qx7 => if qx7.1 = 0 then (f_Mod_of qx7.2 a1 0).bind fun x8 => some (x8, qx7.2) else some (0, qx7.2) else (f_Mod_isGone m a1).bind fun x2 => if x2 = 0 then (f_Mod_fails m 0).bind fun qx3 => if qx3.1 = 0 then (f_Mod_of qx3.2 a1 0).bind fun x4 => some (x4, qx3.2) else some (0, qx3.2) else (f_Mod_fails m 2).bind fun qx5 => if qx5.1 = 0 then (f_Mod_of qx5.2 a1 0).bind fun x6 => some (x6, qx5.2) else some (0, qx5.2)
section
variable {cf : jCf} {dv : UInt64}
set_option maxRecDepth 20000 in
set_option maxHeartbeats 4000000 in
theorem X241 (d : Nat) (a1 : Int) (m : jMem) (k : jM) : jme jT0 jMx (d + 3) 241 [jr (jn cf + 147), .inl a1] (hp cf dv m, k) = lW cf dv k ijI (f_Mod_holderOf m a1) := by
  simp only [M241, E241_0, E241_1, E241_2, E241_3, E241_6, E241_9, E241_10, E241_13, E241_14, E241_15, E241_18, E241_21, E241_22, E241_25, E241_26, E241_29, E241_32, E241_33, E241_36, E241_37, E241_38, E241_39, E241_42, X178, X222, X224, X225, go_147, jsh_n, jsh_I, jsh_R, jsh_II, jsh_IR, jsh_RI, jsh_RR, jsh_III, jsh_IIR, jsh_IRI, jsh_IRR, jsh_RII, jsh_RIR, jsh_RRI, jsh_RRR, jsh_IIII, jsh_IIIR, jsh_IIRI, jsh_IIRR, jsh_IRII, jsh_IRIR, jsh_IRRI, jsh_IRRR, jsh_RIII, jsh_RIIR, jsh_RIRI, jsh_RIRR, jsh_RRII, jsh_RRIR, jsh_RRRI, jsh_RRRR, jthr_hp, jc_l0, jc_lW, jc_lX, jc_lXW, jc_lVW, jc_lVX, jpush_n, jpush_s, obt_0, obt_1, och_0, och_32, och_100, och_115, och_104, och_33, och_43, och_60, jint, jbit, jchr, ijI, ijR, ijD, ijF, ↓reduceIte, Int.reduceEq, Int.reduceLT, reduceCtorEq, lW_bind, lW_ite, lW_none, lW_oix, lW_obt, lW_och, lW_sel, lW_oel, lW_some, f_Mod_holderOf]
end
def f_Mod_isExtinct (m : jMem) (a1 : Int) : Option (Int × jMem) := (f_Mod_isNone m a1).bind fun qx1 => if qx1.1 = 0 then (f_Mod_isGone qx1.2 a1).bind fun x2 => if x2 = 0 then some (0, qx1.2) else some (1, qx1.2) else some (0, qx1.2)
section
variable {cf : jCf} {dv : UInt64}
set_option maxRecDepth 20000 in
set_option maxHeartbeats 4000000 in
theorem X242 (d : Nat) (a1 : Int) (m : jMem) (k : jM) : jme jT0 jMx (d + 4) 242 [jr (jn cf + 147), .inl a1] (hp cf dv m, k) = lW cf dv k ijI (f_Mod_isExtinct m a1) := by
  simp only [M242, E242_0, E242_1, E242_2, E242_5, E242_8, E242_9, E242_10, E242_13, E242_16, E242_17, E242_20, E242_21, X225, X238, go_147, jsh_n, jsh_I, jsh_R, jsh_II, jsh_IR, jsh_RI, jsh_RR, jsh_III, jsh_IIR, jsh_IRI, jsh_IRR, jsh_RII, jsh_RIR, jsh_RRI, jsh_RRR, jsh_IIII, jsh_IIIR, jsh_IIRI, jsh_IIRR, jsh_IRII, jsh_IRIR, jsh_IRRI, jsh_IRRR, jsh_RIII, jsh_RIIR, jsh_RIRI, jsh_RIRR, jsh_RRII, jsh_RRIR, jsh_RRRI, jsh_RRRR, jthr_hp, jc_l0, jc_lW, jc_lX, jc_lXW, jc_lVW, jc_lVX, jpush_n, jpush_s, obt_0, obt_1, och_0, och_32, och_100, och_115, och_104, och_33, och_43, och_60, jint, jbit, jchr, ijI, ijR, ijD, ijF, ↓reduceIte, Int.reduceEq, Int.reduceLT, reduceCtorEq, lW_bind, lW_ite, lW_none, lW_oix, lW_obt, lW_och, lW_sel, lW_oel, lW_some, f_Mod_isExtinct]
end
def f_Mod_isEntailed (m : jMem) (a1 : Int) : Option (Int × jMem) := (f_Mod_isNone m a1).bind fun qx1 => if qx1.1 = 0 then (f_Mod_of qx1.2 a1 3).bind fun x2 => if x2 = 1 then some (1, qx1.2) else some (0, qx1.2) else some (0, qx1.2)
section
variable {cf : jCf} {dv : UInt64}
set_option maxRecDepth 20000 in
set_option maxHeartbeats 4000000 in
theorem X243 (d : Nat) (a1 : Int) (m : jMem) (k : jM) : jme jT0 jMx (d + 4) 243 [jr (jn cf + 147), .inl a1] (hp cf dv m, k) = lW cf dv k ijI (f_Mod_isEntailed m a1) := by
  simp only [M243, E243_0, E243_1, E243_2, E243_5, E243_8, E243_9, E243_10, E243_11, E243_14, E243_15, E243_18, E243_19, E243_22, E243_23, X222, X238, go_147, jsh_n, jsh_I, jsh_R, jsh_II, jsh_IR, jsh_RI, jsh_RR, jsh_III, jsh_IIR, jsh_IRI, jsh_IRR, jsh_RII, jsh_RIR, jsh_RRI, jsh_RRR, jsh_IIII, jsh_IIIR, jsh_IIRI, jsh_IIRR, jsh_IRII, jsh_IRIR, jsh_IRRI, jsh_IRRR, jsh_RIII, jsh_RIIR, jsh_RIRI, jsh_RIRR, jsh_RRII, jsh_RRIR, jsh_RRRI, jsh_RRRR, jthr_hp, jc_l0, jc_lW, jc_lX, jc_lXW, jc_lVW, jc_lVX, jpush_n, jpush_s, obt_0, obt_1, och_0, och_32, och_100, och_115, och_104, och_33, och_43, och_60, jint, jbit, jchr, ijI, ijR, ijD, ijF, ↓reduceIte, Int.reduceEq, Int.reduceLT, reduceCtorEq, lW_bind, lW_ite, lW_none, lW_oix, lW_obt, lW_och, lW_sel, lW_oel, lW_some, f_Mod_isEntailed]
end
def f_Mod_isPractised (m : jMem) (a1 : Int) : Option (Int × jMem) := (f_Mod_isNone m a1).bind fun qx1 => if qx1.1 = 0 then (f_Mod_of qx1.2 a1 4).bind fun x2 => if x2 = 1 then some (1, qx1.2) else some (0, qx1.2) else some (0, qx1.2)
section
variable {cf : jCf} {dv : UInt64}
set_option maxRecDepth 20000 in
set_option maxHeartbeats 4000000 in
theorem X244 (d : Nat) (a1 : Int) (m : jMem) (k : jM) : jme jT0 jMx (d + 4) 244 [jr (jn cf + 147), .inl a1] (hp cf dv m, k) = lW cf dv k ijI (f_Mod_isPractised m a1) := by
  simp only [M244, E244_0, E244_1, E244_2, E244_5, E244_8, E244_9, E244_10, E244_11, E244_14, E244_15, E244_18, E244_19, E244_22, E244_23, X222, X238, go_147, jsh_n, jsh_I, jsh_R, jsh_II, jsh_IR, jsh_RI, jsh_RR, jsh_III, jsh_IIR, jsh_IRI, jsh_IRR, jsh_RII, jsh_RIR, jsh_RRI, jsh_RRR, jsh_IIII, jsh_IIIR, jsh_IIRI, jsh_IIRR, jsh_IRII, jsh_IRIR, jsh_IRRI, jsh_IRRR, jsh_RIII, jsh_RIIR, jsh_RIRI, jsh_RIRR, jsh_RRII, jsh_RRIR, jsh_RRRI, jsh_RRRR, jthr_hp, jc_l0, jc_lW, jc_lX, jc_lXW, jc_lVW, jc_lVX, jpush_n, jpush_s, obt_0, obt_1, och_0, och_32, och_100, och_115, och_104, och_33, och_43, och_60, jint, jbit, jchr, ijI, ijR, ijD, ijF, ↓reduceIte, Int.reduceEq, Int.reduceLT, reduceCtorEq, lW_bind, lW_ite, lW_none, lW_oix, lW_obt, lW_och, lW_sel, lW_oel, lW_some, f_Mod_isPractised]
end
def f_Mod_habitOf (m : jMem) (a1 : Int) (a2 : Int) : Option (Int × jMem) := (f_Mod_kindOf0 m a2).bind fun x1 => (f_Mod_isPerson m a1).bind fun x2 => if x2 = 0 then (f_Mod_fails m 1).bind fun qx10 => if qx10.1 = 0 then (f_Mod_held qx10.2 a1 x1).bind fun x11 => some (x11, qx10.2) else some (0, qx10.2) else if x1 < 0 then (f_Mod_fails m 2).bind fun qx8 => if qx8.1 = 0 then (f_Mod_held qx8.2 a1 x1).bind fun x9 => some (x9, qx8.2) else some (0, qx8.2) else (f_Mod_held m a1 x1).bind fun x3 => if x3 < 0 then (f_Mod_fails m 3).bind fun qx6 => if qx6.1 = 0 then (f_Mod_held qx6.2 a1 x1).bind fun x7 => some (x7, qx6.2) else some (0, qx6.2) else (f_Mod_fails m 0).bind fun qx4 => if qx4.1 = 0 then (f_Mod_held qx4.2 a1 x1).bind fun x5 => some (x5, qx4.2) else some (0, qx4.2)
section
variable {cf : jCf} {dv : UInt64}
set_option maxRecDepth 20000 in
set_option maxHeartbeats 4000000 in
theorem X245 (d : Nat) (a1 : Int) (a2 : Int) (m : jMem) (k : jM) : jme jT0 jMx (d + 3) 245 [jr (jn cf + 147), .inl a1, .inl a2] (hp cf dv m, k) = lW cf dv k ijI (f_Mod_habitOf m a1 a2) := by
  simp only [M245, E245_0, E245_1, E245_4, E245_5, E245_6, E245_7, E245_8, E245_11, E245_14, E245_15, E245_18, E245_19, E245_22, E245_23, E245_26, E245_27, E245_28, E245_29, E245_32, E245_35, E245_36, E245_39, E245_40, E245_43, E245_46, E245_47, E245_48, E245_49, E245_50, E245_51, E245_54, X178, X184, X227, X229, go_147, jsh_n, jsh_I, jsh_R, jsh_II, jsh_IR, jsh_RI, jsh_RR, jsh_III, jsh_IIR, jsh_IRI, jsh_IRR, jsh_RII, jsh_RIR, jsh_RRI, jsh_RRR, jsh_IIII, jsh_IIIR, jsh_IIRI, jsh_IIRR, jsh_IRII, jsh_IRIR, jsh_IRRI, jsh_IRRR, jsh_RIII, jsh_RIIR, jsh_RIRI, jsh_RIRR, jsh_RRII, jsh_RRIR, jsh_RRRI, jsh_RRRR, jthr_hp, jc_l0, jc_lW, jc_lX, jc_lXW, jc_lVW, jc_lVX, jpush_n, jpush_s, obt_0, obt_1, och_0, och_32, och_100, och_115, och_104, och_33, och_43, och_60, jint, jbit, jchr, ijI, ijR, ijD, ijF, ↓reduceIte, Int.reduceEq, Int.reduceLT, reduceCtorEq, lW_bind, lW_ite, lW_none, lW_oix, lW_obt, lW_och, lW_sel, lW_oel, lW_some, f_Mod_habitOf]
end
def f_Mod_sumOfL : Nat → jMem → Int → Int → Int → Option Int
  | 0, _, _, _, _ => none
  | N + 1, m, a1, a2, a3 => oix (1 : Int) 138 (if a3 < (m 148 (1 : Int).toNat) then (f_Mod_of m a3 0).bind fun x1 => if x1 = a1 then (f_Mod_of m a3 2).bind fun x2 => f_Mod_sumOfL N m a1 (jw (a2 + x2)) (jw (a3 + 1)) else f_Mod_sumOfL N m a1 (jw (a2 + 0)) (jw (a3 + 1)) else some a2)
def f_Mod_sumOf (m : jMem) (a1 : Int) : Option Int := f_Mod_sumOfL 99999 m a1 0 0
section
variable {cf : jCf} {dv : UInt64}
set_option maxRecDepth 20000 in
set_option maxHeartbeats 4000000 in
theorem X246L (d : Nat) : ∀ (N : Nat) (m : jMem) (k : jM), (∀ (a1 a2 a3 : Int), jlp jT0 246 (jme jT0 jMx (d + 1)) N 4 [some (jr (jn cf + 147)), some (.inl a1), some (.inl a2), some (.inl a3)] [] (hp cf dv m, k) = l0 cf dv m k ijI (f_Mod_sumOfL N m a1 a2 a3)) := by
  intro N
  induction N with
  | zero => intro m k; exact by intros; rfl
  | succ N ih =>
    intro m k
    intros
    rw [jlp_s]
    simp only [E246_0, E246_1, E246_2, E246_3, E246_4, E246_5, E246_6, E246_9, E246_10, E246_11, E246_14, E246_15, E246_16, E246_17, E246_18, E246_21, E246_22, E246_25, E246_26, E246_27, E246_28, E246_31, E246_34, E246_35, E246_36, E246_37, E246_40, E246_43, E246_44, ai_148, gf_147_0, X222, go_147, jsh_n, jsh_I, jsh_R, jsh_II, jsh_IR, jsh_RI, jsh_RR, jsh_III, jsh_IIR, jsh_IRI, jsh_IRR, jsh_RII, jsh_RIR, jsh_RRI, jsh_RRR, jsh_IIII, jsh_IIIR, jsh_IIRI, jsh_IIRR, jsh_IRII, jsh_IRIR, jsh_IRRI, jsh_IRRR, jsh_RIII, jsh_RIIR, jsh_RIRI, jsh_RIRR, jsh_RRII, jsh_RRIR, jsh_RRRI, jsh_RRRR, jthr_hp, jc_l0, jc_lW, jc_lX, jc_lXW, jc_lVW, jc_lVX, jpush_n, jpush_s, obt_0, obt_1, och_0, och_32, och_100, och_115, och_104, och_33, och_43, och_60, jint, jbit, jchr, ijI, ijR, ijD, ijF, ↓reduceIte, Int.reduceEq, Int.reduceLT, reduceCtorEq, l0_bind, l0_ite, l0_none, l0_oix, l0_obt, l0_och, l0_sel, l0_oel, l0_some, f_Mod_sumOfL, ih]
set_option maxRecDepth 20000 in
set_option maxHeartbeats 4000000 in
theorem X246 (d : Nat) (a1 : Int) (m : jMem) (k : jM) : jme jT0 jMx (d + 2) 246 [jr (jn cf + 147), .inl a1] (hp cf dv m, k) = l0 cf dv m k ijI (f_Mod_sumOf m a1) := by
  simp only [M246, E246_0, E246_1, E246_2, E246_3, E246_4, E246_5, E246_6, E246_9, E246_10, E246_11, E246_14, E246_15, E246_16, E246_17, E246_18, E246_21, E246_22, E246_25, E246_26, E246_27, E246_28, E246_31, E246_34, E246_35, E246_36, E246_37, E246_40, E246_43, E246_44, ai_148, gf_147_0, X222, go_147, jsh_n, jsh_I, jsh_R, jsh_II, jsh_IR, jsh_RI, jsh_RR, jsh_III, jsh_IIR, jsh_IRI, jsh_IRR, jsh_RII, jsh_RIR, jsh_RRI, jsh_RRR, jsh_IIII, jsh_IIIR, jsh_IIRI, jsh_IIRR, jsh_IRII, jsh_IRIR, jsh_IRRI, jsh_IRRR, jsh_RIII, jsh_RIIR, jsh_RIRI, jsh_RIRR, jsh_RRII, jsh_RRIR, jsh_RRRI, jsh_RRRR, jthr_hp, jc_l0, jc_lW, jc_lX, jc_lXW, jc_lVW, jc_lVX, jpush_n, jpush_s, obt_0, obt_1, och_0, och_32, och_100, och_115, och_104, och_33, och_43, och_60, jint, jbit, jchr, ijI, ijR, ijD, ijF, ↓reduceIte, Int.reduceEq, Int.reduceLT, reduceCtorEq, l0_bind, l0_ite, l0_none, l0_oix, l0_obt, l0_och, l0_sel, l0_oel, l0_some, f_Mod_sumOf, X246L]
end

/-! ===== the model 7 ===== -/
section
variable (cl : Nat → List jV → jH → jR) (bk : Nat → jL → List jV → jH → jR) (n : Nat)
theorem E247_0 (a : Nat) (st : List jV) (l1 : Option jV) (w : jH) : jblk jT0 247 cl bk (n + 1) 0 [some (jr a), l1] st w = jblk jT0 247 cl bk n 1 [some (jr a), l1] (jr a :: st) w := rfl
theorem E247_1 (x : Int) (st : List jV) (l0 : Option jV) (w : jH) : jblk jT0 247 cl bk (n + 1) 1 [l0, some (.inl x)] st w = jblk jT0 247 cl bk n 2 [l0, some (.inl x)] (.inl x :: st) w := rfl
theorem E247_2 (a : Nat) (v0 : jV) (st : List jV) (l0 l1 : Option jV) (w : jH) : jblk jT0 247 cl bk (n + 1) 2 [l0, l1] (v0 :: jr a :: st) w = jsh st (jgo w a 9 fun _ => jcl (cl 200 [jr a, v0] w) (fun v w' => jblk jT0 247 cl bk n 5 [l0, l1] (jpush v st) w') (fun E w' => some (.inr E, w'))) := rfl
theorem E247_5 (x : Int) (st : List jV) (l0 l1 : Option jV) (w : jH) : jblk jT0 247 cl bk (n + 1) 5 [l0, l1] (.inl x :: st) w = if x = 0 then jblk jT0 247 cl bk n 12 [l0, l1] st w else jblk jT0 247 cl bk n 8 [l0, l1] st w := rfl
theorem E247_8 (st : List jV) (l0 l1 : Option jV) (w : jH) : jblk jT0 247 cl bk (n + 1) 8 [l0, l1] st w = jblk jT0 247 cl bk n 9 [l0, l1] (.inl 0 :: st) w := rfl
theorem E247_9 (st : List jV) (l0 l1 : Option jV) (w : jH) : jblk jT0 247 cl bk (n + 1) 9 [l0, l1] st w = jblk jT0 247 cl bk n 17 [l0, l1] st w := rfl
theorem E247_12 (a : Nat) (st : List jV) (l1 : Option jV) (w : jH) : jblk jT0 247 cl bk (n + 1) 12 [some (jr a), l1] st w = jblk jT0 247 cl bk n 13 [some (jr a), l1] (jr a :: st) w := rfl
theorem E247_13 (x : Int) (st : List jV) (l0 : Option jV) (w : jH) : jblk jT0 247 cl bk (n + 1) 13 [l0, some (.inl x)] st w = jblk jT0 247 cl bk n 14 [l0, some (.inl x)] (.inl x :: st) w := rfl
theorem E247_14 (a : Nat) (v0 : jV) (st : List jV) (l0 l1 : Option jV) (w : jH) : jblk jT0 247 cl bk (n + 1) 14 [l0, l1] (v0 :: jr a :: st) w = jsh st (jgo w a 9 fun _ => jcl (cl 246 [jr a, v0] w) (fun v w' => jblk jT0 247 cl bk n 17 [l0, l1] (jpush v st) w') (fun E w' => some (.inr E, w'))) := rfl
theorem E247_17 (x : Int) (l0 l1 : Option jV) (w : jH) : jblk jT0 247 cl bk (n + 1) 17 [l0, l1] [.inl x] w = if jfits .int x = true then some (.inl (some (.inl x)), w) else none := rfl
theorem E248_0 (st : List jV) (l0 l1 l2 : Option jV) (w : jH) : jblk jT0 248 cl bk (n + 1) 0 [l0, l1, l2] st w = jblk jT0 248 cl bk n 1 [l0, l1, l2] (.inl 0 :: st) w := rfl
theorem E248_1 (x : Int) (st : List jV) (l0 l1 l2 : Option jV) (w : jH) : jblk jT0 248 cl bk (n + 1) 1 [l0, l1, l2] (.inl x :: st) w = jblk jT0 248 cl bk n 2 [l0, some (.inl x), l2] st w := rfl
theorem E248_2 (st : List jV) (l0 l1 l2 : Option jV) (w : jH) : jblk jT0 248 cl bk (n + 1) 2 [l0, l1, l2] st w = jblk jT0 248 cl bk n 3 [l0, l1, l2] (.inl 0 :: st) w := rfl
theorem E248_3 (x : Int) (st : List jV) (l0 l1 l2 : Option jV) (w : jH) : jblk jT0 248 cl bk (n + 1) 3 [l0, l1, l2] (.inl x :: st) w = bk 4 [l0, l1, some (.inl x)] st w := rfl
theorem E248_4 (x : Int) (st : List jV) (l0 l1 : Option jV) (w : jH) : jblk jT0 248 cl bk (n + 1) 4 [l0, l1, some (.inl x)] st w = jblk jT0 248 cl bk n 5 [l0, l1, some (.inl x)] (.inl x :: st) w := rfl
theorem E248_5 (a : Nat) (st : List jV) (l1 l2 : Option jV) (w : jH) : jblk jT0 248 cl bk (n + 1) 5 [some (jr a), l1, l2] st w = jblk jT0 248 cl bk n 6 [some (jr a), l1, l2] (jr a :: st) w := rfl
theorem E248_6 (a : Nat) (st : List jV) (l0 l1 l2 : Option jV) (w : jH) : jblk jT0 248 cl bk (n + 1) 6 [l0, l1, l2] (jr a :: st) w = jgf w a 9 0 fun v => jblk jT0 248 cl bk n 9 [l0, l1, l2] (v :: st) w := rfl
theorem E248_9 (st : List jV) (l0 l1 l2 : Option jV) (w : jH) : jblk jT0 248 cl bk (n + 1) 9 [l0, l1, l2] st w = jblk jT0 248 cl bk n 10 [l0, l1, l2] (.inl 1 :: st) w := rfl
theorem E248_10 (x : Int) (a : Nat) (st : List jV) (l0 l1 l2 : Option jV) (w : jH) : jblk jT0 248 cl bk (n + 1) 10 [l0, l1, l2] (.inl x :: jr a :: st) w = jlda w a x (fun z => jblk jT0 248 cl bk n 11 [l0, l1, l2] (.inl z :: st) w) := rfl
theorem E248_11 (x : Int) (y : Int) (st : List jV) (l0 l1 l2 : Option jV) (w : jH) : jblk jT0 248 cl bk (n + 1) 11 [l0, l1, l2] (.inl y :: .inl x :: st) w = if x < y then jblk jT0 248 cl bk n 14 [l0, l1, l2] st w else jblk jT0 248 cl bk n 60 [l0, l1, l2] st w := rfl
theorem E248_14 (a : Nat) (st : List jV) (l1 l2 : Option jV) (w : jH) : jblk jT0 248 cl bk (n + 1) 14 [some (jr a), l1, l2] st w = jblk jT0 248 cl bk n 15 [some (jr a), l1, l2] (jr a :: st) w := rfl
theorem E248_15 (x : Int) (st : List jV) (l0 l1 : Option jV) (w : jH) : jblk jT0 248 cl bk (n + 1) 15 [l0, l1, some (.inl x)] st w = jblk jT0 248 cl bk n 16 [l0, l1, some (.inl x)] (.inl x :: st) w := rfl
theorem E248_16 (a : Nat) (v0 : jV) (st : List jV) (l0 l1 l2 : Option jV) (w : jH) : jblk jT0 248 cl bk (n + 1) 16 [l0, l1, l2] (v0 :: jr a :: st) w = jsh st (jgo w a 9 fun _ => jcl (cl 225 [jr a, v0] w) (fun v w' => jblk jT0 248 cl bk n 19 [l0, l1, l2] (jpush v st) w') (fun E w' => some (.inr E, w'))) := rfl
theorem E248_19 (x : Int) (st : List jV) (l0 l1 l2 : Option jV) (w : jH) : jblk jT0 248 cl bk (n + 1) 19 [l0, l1, l2] (.inl x :: st) w = if x = 0 then jblk jT0 248 cl bk n 22 [l0, l1, l2] st w else jblk jT0 248 cl bk n 47 [l0, l1, l2] st w := rfl
theorem E248_22 (a : Nat) (st : List jV) (l1 l2 : Option jV) (w : jH) : jblk jT0 248 cl bk (n + 1) 22 [some (jr a), l1, l2] st w = jblk jT0 248 cl bk n 23 [some (jr a), l1, l2] (jr a :: st) w := rfl
theorem E248_23 (x : Int) (st : List jV) (l0 l1 : Option jV) (w : jH) : jblk jT0 248 cl bk (n + 1) 23 [l0, l1, some (.inl x)] st w = jblk jT0 248 cl bk n 24 [l0, l1, some (.inl x)] (.inl x :: st) w := rfl
theorem E248_24 (st : List jV) (l0 l1 l2 : Option jV) (w : jH) : jblk jT0 248 cl bk (n + 1) 24 [l0, l1, l2] st w = jblk jT0 248 cl bk n 25 [l0, l1, l2] (.inl 4 :: st) w := rfl
theorem E248_25 (a : Nat) (v0 : jV) (v1 : jV) (st : List jV) (l0 l1 l2 : Option jV) (w : jH) : jblk jT0 248 cl bk (n + 1) 25 [l0, l1, l2] (v1 :: v0 :: jr a :: st) w = jsh st (jgo w a 9 fun _ => jcl (cl 222 [jr a, v0, v1] w) (fun v w' => jblk jT0 248 cl bk n 28 [l0, l1, l2] (jpush v st) w') (fun E w' => some (.inr E, w'))) := rfl
theorem E248_28 (x : Int) (st : List jV) (l0 l1 l2 : Option jV) (w : jH) : jblk jT0 248 cl bk (n + 1) 28 [l0, l1, l2] (.inl x :: st) w = if x = 0 then jblk jT0 248 cl bk n 31 [l0, l1, l2] st w else jblk jT0 248 cl bk n 47 [l0, l1, l2] st w := rfl
theorem E248_31 (x : Int) (st : List jV) (l0 l2 : Option jV) (w : jH) : jblk jT0 248 cl bk (n + 1) 31 [l0, some (.inl x), l2] st w = jblk jT0 248 cl bk n 32 [l0, some (.inl x), l2] (.inl x :: st) w := rfl
theorem E248_32 (a : Nat) (st : List jV) (l1 l2 : Option jV) (w : jH) : jblk jT0 248 cl bk (n + 1) 32 [some (jr a), l1, l2] st w = jblk jT0 248 cl bk n 33 [some (jr a), l1, l2] (jr a :: st) w := rfl
theorem E248_33 (x : Int) (st : List jV) (l0 l1 : Option jV) (w : jH) : jblk jT0 248 cl bk (n + 1) 33 [l0, l1, some (.inl x)] st w = jblk jT0 248 cl bk n 34 [l0, l1, some (.inl x)] (.inl x :: st) w := rfl
theorem E248_34 (a : Nat) (v0 : jV) (st : List jV) (l0 l1 l2 : Option jV) (w : jH) : jblk jT0 248 cl bk (n + 1) 34 [l0, l1, l2] (v0 :: jr a :: st) w = jsh st (jgo w a 9 fun _ => jcl (cl 232 [jr a, v0] w) (fun v w' => jblk jT0 248 cl bk n 37 [l0, l1, l2] (jpush v st) w') (fun E w' => some (.inr E, w'))) := rfl
theorem E248_37 (x : Int) (st : List jV) (l0 l1 l2 : Option jV) (w : jH) : jblk jT0 248 cl bk (n + 1) 37 [l0, l1, l2] (.inl x :: st) w = if x = 0 then jblk jT0 248 cl bk n 44 [l0, l1, l2] st w else jblk jT0 248 cl bk n 40 [l0, l1, l2] st w := rfl
theorem E248_40 (st : List jV) (l0 l1 l2 : Option jV) (w : jH) : jblk jT0 248 cl bk (n + 1) 40 [l0, l1, l2] st w = jblk jT0 248 cl bk n 41 [l0, l1, l2] (.inl 1 :: st) w := rfl
theorem E248_41 (st : List jV) (l0 l1 l2 : Option jV) (w : jH) : jblk jT0 248 cl bk (n + 1) 41 [l0, l1, l2] st w = jblk jT0 248 cl bk n 45 [l0, l1, l2] st w := rfl
theorem E248_44 (st : List jV) (l0 l1 l2 : Option jV) (w : jH) : jblk jT0 248 cl bk (n + 1) 44 [l0, l1, l2] st w = jblk jT0 248 cl bk n 45 [l0, l1, l2] (.inl 0 :: st) w := rfl
theorem E248_45 (x : Int) (y : Int) (st : List jV) (l0 l1 l2 : Option jV) (w : jH) : jblk jT0 248 cl bk (n + 1) 45 [l0, l1, l2] (.inl y :: .inl x :: st) w = jblk jT0 248 cl bk n 46 [l0, l1, l2] (.inl (jw (x + y)) :: st) w := rfl
theorem E248_46 (x : Int) (st : List jV) (l0 l1 l2 : Option jV) (w : jH) : jblk jT0 248 cl bk (n + 1) 46 [l0, l1, l2] (.inl x :: st) w = jblk jT0 248 cl bk n 47 [l0, some (.inl x), l2] st w := rfl
theorem E248_47 (a : Nat) (st : List jV) (l1 l2 : Option jV) (w : jH) : jblk jT0 248 cl bk (n + 1) 47 [some (jr a), l1, l2] st w = jblk jT0 248 cl bk n 48 [some (jr a), l1, l2] (jr a :: st) w := rfl
theorem E248_48 (x : Int) (st : List jV) (l0 l1 : Option jV) (w : jH) : jblk jT0 248 cl bk (n + 1) 48 [l0, l1, some (.inl x)] st w = jblk jT0 248 cl bk n 49 [l0, l1, some (.inl x)] (.inl x :: st) w := rfl
theorem E248_49 (st : List jV) (l0 l1 l2 : Option jV) (w : jH) : jblk jT0 248 cl bk (n + 1) 49 [l0, l1, l2] st w = jblk jT0 248 cl bk n 50 [l0, l1, l2] (.inl 4 :: st) w := rfl
theorem E248_50 (st : List jV) (l0 l1 l2 : Option jV) (w : jH) : jblk jT0 248 cl bk (n + 1) 50 [l0, l1, l2] st w = jblk jT0 248 cl bk n 51 [l0, l1, l2] (.inl 0 :: st) w := rfl
theorem E248_51 (a : Nat) (v0 : jV) (v1 : jV) (v2 : jV) (st : List jV) (l0 l1 l2 : Option jV) (w : jH) : jblk jT0 248 cl bk (n + 1) 51 [l0, l1, l2] (v2 :: v1 :: v0 :: jr a :: st) w = jsh st (jgo w a 9 fun _ => jcl (cl 223 [jr a, v0, v1, v2] w) (fun v w' => jblk jT0 248 cl bk n 54 [l0, l1, l2] (jpush v st) w') (fun E w' => some (.inr E, w'))) := rfl
theorem E248_54 (x : Int) (st : List jV) (l0 l1 : Option jV) (w : jH) : jblk jT0 248 cl bk (n + 1) 54 [l0, l1, some (.inl x)] st w = jblk jT0 248 cl bk n 57 [l0, l1, some (.inl (jw (x + 1)))] st w := rfl
theorem E248_57 (st : List jV) (l0 l1 l2 : Option jV) (w : jH) : jblk jT0 248 cl bk (n + 1) 57 [l0, l1, l2] st w = bk 4 [l0, l1, l2] st w := rfl
theorem E248_60 (a : Nat) (st : List jV) (l1 l2 : Option jV) (w : jH) : jblk jT0 248 cl bk (n + 1) 60 [some (jr a), l1, l2] st w = jblk jT0 248 cl bk n 61 [some (jr a), l1, l2] (jr a :: st) w := rfl
theorem E248_61 (a : Nat) (st : List jV) (l0 l1 l2 : Option jV) (w : jH) : jblk jT0 248 cl bk (n + 1) 61 [l0, l1, l2] (jr a :: st) w = jgf w a 9 0 fun v => jblk jT0 248 cl bk n 64 [l0, l1, l2] (v :: st) w := rfl
theorem E248_64 (st : List jV) (l0 l1 l2 : Option jV) (w : jH) : jblk jT0 248 cl bk (n + 1) 64 [l0, l1, l2] st w = jblk jT0 248 cl bk n 65 [l0, l1, l2] (.inl 2 :: st) w := rfl
theorem E248_65 (x : Int) (a : Nat) (st : List jV) (l0 l1 l2 : Option jV) (w : jH) : jblk jT0 248 cl bk (n + 1) 65 [l0, l1, l2] (.inl x :: jr a :: st) w = jblk jT0 248 cl bk n 66 [l0, l1, l2] (.inl x :: jr a :: .inl x :: jr a :: st) w := rfl
theorem E248_66 (x : Int) (a : Nat) (st : List jV) (l0 l1 l2 : Option jV) (w : jH) : jblk jT0 248 cl bk (n + 1) 66 [l0, l1, l2] (.inl x :: jr a :: st) w = jlda w a x (fun z => jblk jT0 248 cl bk n 67 [l0, l1, l2] (.inl z :: st) w) := rfl
theorem E248_67 (st : List jV) (l0 l1 l2 : Option jV) (w : jH) : jblk jT0 248 cl bk (n + 1) 67 [l0, l1, l2] st w = jblk jT0 248 cl bk n 68 [l0, l1, l2] (.inl 1 :: st) w := rfl
theorem E248_68 (x : Int) (y : Int) (st : List jV) (l0 l1 l2 : Option jV) (w : jH) : jblk jT0 248 cl bk (n + 1) 68 [l0, l1, l2] (.inl y :: .inl x :: st) w = jblk jT0 248 cl bk n 69 [l0, l1, l2] (.inl (jw (x + y)) :: st) w := rfl
theorem E248_69 (x : Int) (y : Int) (a : Nat) (st : List jV) (l0 l1 l2 : Option jV) (w : jH) : jblk jT0 248 cl bk (n + 1) 69 [l0, l1, l2] (.inl y :: .inl x :: jr a :: st) w = jai w a .int x y fun w' => jblk jT0 248 cl bk n 70 [l0, l1, l2] st w' := rfl
theorem E248_70 (x : Int) (st : List jV) (l0 l2 : Option jV) (w : jH) : jblk jT0 248 cl bk (n + 1) 70 [l0, some (.inl x), l2] st w = jblk jT0 248 cl bk n 71 [l0, some (.inl x), l2] (.inl x :: st) w := rfl
theorem E248_71 (x : Int) (l0 l1 l2 : Option jV) (w : jH) : jblk jT0 248 cl bk (n + 1) 71 [l0, l1, l2] [.inl x] w = if jfits .int x = true then some (.inl (some (.inl x)), w) else none := rfl
theorem E249_0 (a : Nat) (st : List jV) (l1 l2 l3 : Option jV) (w : jH) : jblk jT0 249 cl bk (n + 1) 0 [some (jr a), l1, l2, l3] st w = jblk jT0 249 cl bk n 1 [some (jr a), l1, l2, l3] (jr a :: st) w := rfl
theorem E249_1 (x : Int) (st : List jV) (l0 l2 l3 : Option jV) (w : jH) : jblk jT0 249 cl bk (n + 1) 1 [l0, some (.inl x), l2, l3] st w = jblk jT0 249 cl bk n 2 [l0, some (.inl x), l2, l3] (.inl x :: st) w := rfl
theorem E249_2 (st : List jV) (l0 l1 l2 l3 : Option jV) (w : jH) : jblk jT0 249 cl bk (n + 1) 2 [l0, l1, l2, l3] st w = jblk jT0 249 cl bk n 3 [l0, l1, l2, l3] (.inl 1 :: st) w := rfl
theorem E249_3 (st : List jV) (l0 l1 l2 l3 : Option jV) (w : jH) : jblk jT0 249 cl bk (n + 1) 3 [l0, l1, l2, l3] st w = jblk jT0 249 cl bk n 5 [l0, l1, l2, l3] (.inl 9 :: st) w := rfl
theorem E249_5 (v0 : jV) (v1 : jV) (v2 : jV) (st : List jV) (l0 l1 l2 l3 : Option jV) (w : jH) : jblk jT0 249 cl bk (n + 1) 5 [l0, l1, l2, l3] (v2 :: v1 :: v0 :: st) w = jsh st (jcl (cl 180 [v0, v1, v2] w) (fun v w' => jblk jT0 249 cl bk n 8 [l0, l1, l2, l3] (jpush v st) w') (fun E w' => some (.inr E, w'))) := rfl
theorem E249_8 (x : Int) (st : List jV) (l0 l1 l2 l3 : Option jV) (w : jH) : jblk jT0 249 cl bk (n + 1) 8 [l0, l1, l2, l3] (.inl x :: st) w = if x = 0 then jblk jT0 249 cl bk n 15 [l0, l1, l2, l3] st w else jblk jT0 249 cl bk n 11 [l0, l1, l2, l3] st w := rfl
theorem E249_11 (st : List jV) (l0 l1 l2 l3 : Option jV) (w : jH) : jblk jT0 249 cl bk (n + 1) 11 [l0, l1, l2, l3] st w = jblk jT0 249 cl bk n 12 [l0, l1, l2, l3] (.inl 0 :: st) w := rfl
theorem E249_12 (st : List jV) (l0 l1 l2 l3 : Option jV) (w : jH) : jblk jT0 249 cl bk (n + 1) 12 [l0, l1, l2, l3] st w = jblk jT0 249 cl bk n 16 [l0, l1, l2, l3] st w := rfl
theorem E249_15 (st : List jV) (l0 l1 l2 l3 : Option jV) (w : jH) : jblk jT0 249 cl bk (n + 1) 15 [l0, l1, l2, l3] st w = jblk jT0 249 cl bk n 16 [l0, l1, l2, l3] (.inl 1 :: st) w := rfl
theorem E249_16 (a : Nat) (v0 : jV) (st : List jV) (l0 l1 l2 l3 : Option jV) (w : jH) : jblk jT0 249 cl bk (n + 1) 16 [l0, l1, l2, l3] (v0 :: jr a :: st) w = jsh st (jgo w a 9 fun _ => jcl (cl 178 [jr a, v0] w) (fun v w' => jblk jT0 249 cl bk n 19 [l0, l1, l2, l3] (jpush v st) w') (fun E w' => some (.inr E, w'))) := rfl
theorem E249_19 (x : Int) (st : List jV) (l0 l1 l2 l3 : Option jV) (w : jH) : jblk jT0 249 cl bk (n + 1) 19 [l0, l1, l2, l3] (.inl x :: st) w = if x = 0 then jblk jT0 249 cl bk n 24 [l0, l1, l2, l3] st w else jblk jT0 249 cl bk n 22 [l0, l1, l2, l3] st w := rfl
theorem E249_22 (st : List jV) (l0 l1 l2 l3 : Option jV) (w : jH) : jblk jT0 249 cl bk (n + 1) 22 [l0, l1, l2, l3] st w = jblk jT0 249 cl bk n 23 [l0, l1, l2, l3] (.inl 0 :: st) w := rfl
theorem E249_23 (x : Int) (l0 l1 l2 l3 : Option jV) (w : jH) : jblk jT0 249 cl bk (n + 1) 23 [l0, l1, l2, l3] [.inl x] w = if jfits .int x = true then some (.inl (some (.inl x)), w) else none := rfl
theorem E249_24 (a : Nat) (st : List jV) (l1 l2 l3 : Option jV) (w : jH) : jblk jT0 249 cl bk (n + 1) 24 [some (jr a), l1, l2, l3] st w = jblk jT0 249 cl bk n 25 [some (jr a), l1, l2, l3] (jr a :: st) w := rfl
theorem E249_25 (a : Nat) (st : List jV) (l1 l2 l3 : Option jV) (w : jH) : jblk jT0 249 cl bk (n + 1) 25 [some (jr a), l1, l2, l3] st w = jblk jT0 249 cl bk n 26 [some (jr a), l1, l2, l3] (jr a :: st) w := rfl
theorem E249_26 (a : Nat) (st : List jV) (l0 l1 l2 l3 : Option jV) (w : jH) : jblk jT0 249 cl bk (n + 1) 26 [l0, l1, l2, l3] (jr a :: st) w = jgf w a 9 0 fun v => jblk jT0 249 cl bk n 29 [l0, l1, l2, l3] (v :: st) w := rfl
theorem E249_29 (a : Nat) (v0 : jV) (st : List jV) (l0 l1 l2 l3 : Option jV) (w : jH) : jblk jT0 249 cl bk (n + 1) 29 [l0, l1, l2, l3] (v0 :: jr a :: st) w = jsh st (jgo w a 9 fun _ => jcl (cl 183 [jr a, v0] w) (fun v w' => jblk jT0 249 cl bk n 32 [l0, l1, l2, l3] (jpush v st) w') (fun E w' => some (.inr E, w'))) := rfl
theorem E249_32 (st : List jV) (l0 l1 l2 l3 : Option jV) (w : jH) : jblk jT0 249 cl bk (n + 1) 32 [l0, l1, l2, l3] st w = jblk jT0 249 cl bk n 33 [l0, l1, l2, l3] (.inl 0 :: st) w := rfl
theorem E249_33 (x : Int) (st : List jV) (l0 l1 l2 l3 : Option jV) (w : jH) : jblk jT0 249 cl bk (n + 1) 33 [l0, l1, l2, l3] (.inl x :: st) w = jblk jT0 249 cl bk n 34 [l0, l1, some (.inl x), l3] st w := rfl
theorem E249_34 (st : List jV) (l0 l1 l2 l3 : Option jV) (w : jH) : jblk jT0 249 cl bk (n + 1) 34 [l0, l1, l2, l3] st w = jblk jT0 249 cl bk n 35 [l0, l1, l2, l3] (.inl 0 :: st) w := rfl
theorem E249_35 (x : Int) (st : List jV) (l0 l1 l2 l3 : Option jV) (w : jH) : jblk jT0 249 cl bk (n + 1) 35 [l0, l1, l2, l3] (.inl x :: st) w = bk 36 [l0, l1, l2, some (.inl x)] st w := rfl
theorem E249_36 (x : Int) (st : List jV) (l0 l1 l2 : Option jV) (w : jH) : jblk jT0 249 cl bk (n + 1) 36 [l0, l1, l2, some (.inl x)] st w = jblk jT0 249 cl bk n 37 [l0, l1, l2, some (.inl x)] (.inl x :: st) w := rfl
theorem E249_37 (x : Int) (st : List jV) (l0 l2 l3 : Option jV) (w : jH) : jblk jT0 249 cl bk (n + 1) 37 [l0, some (.inl x), l2, l3] st w = jblk jT0 249 cl bk n 38 [l0, some (.inl x), l2, l3] (.inl x :: st) w := rfl
theorem E249_38 (x : Int) (y : Int) (st : List jV) (l0 l1 l2 l3 : Option jV) (w : jH) : jblk jT0 249 cl bk (n + 1) 38 [l0, l1, l2, l3] (.inl y :: .inl x :: st) w = if x < y then jblk jT0 249 cl bk n 41 [l0, l1, l2, l3] st w else jblk jT0 249 cl bk n 54 [l0, l1, l2, l3] st w := rfl
theorem E249_41 (x : Int) (st : List jV) (l0 l1 l3 : Option jV) (w : jH) : jblk jT0 249 cl bk (n + 1) 41 [l0, l1, some (.inl x), l3] st w = jblk jT0 249 cl bk n 42 [l0, l1, some (.inl x), l3] (.inl x :: st) w := rfl
theorem E249_42 (a : Nat) (st : List jV) (l1 l2 l3 : Option jV) (w : jH) : jblk jT0 249 cl bk (n + 1) 42 [some (jr a), l1, l2, l3] st w = jblk jT0 249 cl bk n 43 [some (jr a), l1, l2, l3] (jr a :: st) w := rfl
theorem E249_43 (a : Nat) (st : List jV) (l0 l1 l2 l3 : Option jV) (w : jH) : jblk jT0 249 cl bk (n + 1) 43 [l0, l1, l2, l3] (jr a :: st) w = jsh st (jgo w a 9 fun _ => jcl (cl 248 [jr a] w) (fun v w' => jblk jT0 249 cl bk n 46 [l0, l1, l2, l3] (jpush v st) w') (fun E w' => some (.inr E, w'))) := rfl
theorem E249_46 (x : Int) (y : Int) (st : List jV) (l0 l1 l2 l3 : Option jV) (w : jH) : jblk jT0 249 cl bk (n + 1) 46 [l0, l1, l2, l3] (.inl y :: .inl x :: st) w = jblk jT0 249 cl bk n 47 [l0, l1, l2, l3] (.inl (jw (x + y)) :: st) w := rfl
theorem E249_47 (x : Int) (st : List jV) (l0 l1 l2 l3 : Option jV) (w : jH) : jblk jT0 249 cl bk (n + 1) 47 [l0, l1, l2, l3] (.inl x :: st) w = jblk jT0 249 cl bk n 48 [l0, l1, some (.inl x), l3] st w := rfl
theorem E249_48 (x : Int) (st : List jV) (l0 l1 l2 : Option jV) (w : jH) : jblk jT0 249 cl bk (n + 1) 48 [l0, l1, l2, some (.inl x)] st w = jblk jT0 249 cl bk n 51 [l0, l1, l2, some (.inl (jw (x + 1)))] st w := rfl
theorem E249_51 (st : List jV) (l0 l1 l2 l3 : Option jV) (w : jH) : jblk jT0 249 cl bk (n + 1) 51 [l0, l1, l2, l3] st w = bk 36 [l0, l1, l2, l3] st w := rfl
theorem E249_54 (x : Int) (st : List jV) (l0 l1 l3 : Option jV) (w : jH) : jblk jT0 249 cl bk (n + 1) 54 [l0, l1, some (.inl x), l3] st w = jblk jT0 249 cl bk n 55 [l0, l1, some (.inl x), l3] (.inl x :: st) w := rfl
theorem E249_55 (x : Int) (l0 l1 l2 l3 : Option jV) (w : jH) : jblk jT0 249 cl bk (n + 1) 55 [l0, l1, l2, l3] [.inl x] w = if jfits .int x = true then some (.inl (some (.inl x)), w) else none := rfl
theorem E250_0 (a : Nat) (st : List jV) (w : jH) : jblk jT0 250 cl bk (n + 1) 0 [some (jr a)] st w = jblk jT0 250 cl bk n 1 [some (jr a)] (jr a :: st) w := rfl
theorem E250_1 (st : List jV) (l0 : Option jV) (w : jH) : jblk jT0 250 cl bk (n + 1) 1 [l0] st w = jblk jT0 250 cl bk n 2 [l0] (.inl 0 :: st) w := rfl
theorem E250_2 (a : Nat) (v : jV) (st : List jV) (l0 : Option jV) (w : jH) : jblk jT0 250 cl bk (n + 1) 2 [l0] (v :: jr a :: st) w = jpf w a 9 8 .int v fun w' => jblk jT0 250 cl bk n 5 [l0] st w' := rfl
theorem E250_5 (a : Nat) (st : List jV) (w : jH) : jblk jT0 250 cl bk (n + 1) 5 [some (jr a)] st w = jblk jT0 250 cl bk n 6 [some (jr a)] (jr a :: st) w := rfl
theorem E250_6 (a : Nat) (st : List jV) (l0 : Option jV) (w : jH) : jblk jT0 250 cl bk (n + 1) 6 [l0] (jr a :: st) w = jgf w a 9 0 fun v => jblk jT0 250 cl bk n 9 [l0] (v :: st) w := rfl
theorem E250_9 (st : List jV) (l0 : Option jV) (w : jH) : jblk jT0 250 cl bk (n + 1) 9 [l0] st w = jblk jT0 250 cl bk n 10 [l0] (.inl 2 :: st) w := rfl
theorem E250_10 (x : Int) (a : Nat) (st : List jV) (l0 : Option jV) (w : jH) : jblk jT0 250 cl bk (n + 1) 10 [l0] (.inl x :: jr a :: st) w = jlda w a x (fun z => jblk jT0 250 cl bk n 11 [l0] (.inl z :: st) w) := rfl
theorem E250_11 (x : Int) (l0 : Option jV) (w : jH) : jblk jT0 250 cl bk (n + 1) 11 [l0] [.inl x] w = if jfits .int x = true then some (.inl (some (.inl x)), w) else none := rfl
theorem E251_0 (a : Nat) (st : List jV) (l1 : Option jV) (w : jH) : jblk jT0 251 cl bk (n + 1) 0 [some (jr a), l1] st w = jblk jT0 251 cl bk n 1 [some (jr a), l1] (jr a :: st) w := rfl
theorem E251_1 (a : Nat) (st : List jV) (l1 : Option jV) (w : jH) : jblk jT0 251 cl bk (n + 1) 1 [some (jr a), l1] st w = jblk jT0 251 cl bk n 2 [some (jr a), l1] (jr a :: st) w := rfl
theorem E251_2 (x : Int) (st : List jV) (l0 : Option jV) (w : jH) : jblk jT0 251 cl bk (n + 1) 2 [l0, some (.inl x)] st w = jblk jT0 251 cl bk n 3 [l0, some (.inl x)] (.inl x :: st) w := rfl
theorem E251_3 (a : Nat) (v0 : jV) (st : List jV) (l0 l1 : Option jV) (w : jH) : jblk jT0 251 cl bk (n + 1) 3 [l0, l1] (v0 :: jr a :: st) w = jsh st (jgo w a 9 fun _ => jcl (cl 224 [jr a, v0] w) (fun v w' => jblk jT0 251 cl bk n 6 [l0, l1] (jpush v st) w') (fun E w' => some (.inr E, w'))) := rfl
theorem E251_6 (x : Int) (st : List jV) (l0 l1 : Option jV) (w : jH) : jblk jT0 251 cl bk (n + 1) 6 [l0, l1] (.inl x :: st) w = if x = 0 then jblk jT0 251 cl bk n 9 [l0, l1] st w else jblk jT0 251 cl bk n 13 [l0, l1] st w := rfl
theorem E251_9 (st : List jV) (l0 l1 : Option jV) (w : jH) : jblk jT0 251 cl bk (n + 1) 9 [l0, l1] st w = jblk jT0 251 cl bk n 10 [l0, l1] (.inl 1 :: st) w := rfl
theorem E251_10 (st : List jV) (l0 l1 : Option jV) (w : jH) : jblk jT0 251 cl bk (n + 1) 10 [l0, l1] st w = jblk jT0 251 cl bk n 26 [l0, l1] st w := rfl
theorem E251_13 (a : Nat) (st : List jV) (l1 : Option jV) (w : jH) : jblk jT0 251 cl bk (n + 1) 13 [some (jr a), l1] st w = jblk jT0 251 cl bk n 14 [some (jr a), l1] (jr a :: st) w := rfl
theorem E251_14 (x : Int) (st : List jV) (l0 : Option jV) (w : jH) : jblk jT0 251 cl bk (n + 1) 14 [l0, some (.inl x)] st w = jblk jT0 251 cl bk n 15 [l0, some (.inl x)] (.inl x :: st) w := rfl
theorem E251_15 (a : Nat) (v0 : jV) (st : List jV) (l0 l1 : Option jV) (w : jH) : jblk jT0 251 cl bk (n + 1) 15 [l0, l1] (v0 :: jr a :: st) w = jsh st (jgo w a 9 fun _ => jcl (cl 225 [jr a, v0] w) (fun v w' => jblk jT0 251 cl bk n 18 [l0, l1] (jpush v st) w') (fun E w' => some (.inr E, w'))) := rfl
theorem E251_18 (x : Int) (st : List jV) (l0 l1 : Option jV) (w : jH) : jblk jT0 251 cl bk (n + 1) 18 [l0, l1] (.inl x :: st) w = if x = 0 then jblk jT0 251 cl bk n 25 [l0, l1] st w else jblk jT0 251 cl bk n 21 [l0, l1] st w := rfl
theorem E251_21 (st : List jV) (l0 l1 : Option jV) (w : jH) : jblk jT0 251 cl bk (n + 1) 21 [l0, l1] st w = jblk jT0 251 cl bk n 22 [l0, l1] (.inl 2 :: st) w := rfl
theorem E251_22 (st : List jV) (l0 l1 : Option jV) (w : jH) : jblk jT0 251 cl bk (n + 1) 22 [l0, l1] st w = jblk jT0 251 cl bk n 26 [l0, l1] st w := rfl
theorem E251_25 (st : List jV) (l0 l1 : Option jV) (w : jH) : jblk jT0 251 cl bk (n + 1) 25 [l0, l1] st w = jblk jT0 251 cl bk n 26 [l0, l1] (.inl 0 :: st) w := rfl
theorem E251_26 (a : Nat) (v0 : jV) (st : List jV) (l0 l1 : Option jV) (w : jH) : jblk jT0 251 cl bk (n + 1) 26 [l0, l1] (v0 :: jr a :: st) w = jsh st (jgo w a 9 fun _ => jcl (cl 178 [jr a, v0] w) (fun v w' => jblk jT0 251 cl bk n 29 [l0, l1] (jpush v st) w') (fun E w' => some (.inr E, w'))) := rfl
theorem E251_29 (x : Int) (st : List jV) (l0 l1 : Option jV) (w : jH) : jblk jT0 251 cl bk (n + 1) 29 [l0, l1] (.inl x :: st) w = if x = 0 then jblk jT0 251 cl bk n 36 [l0, l1] st w else jblk jT0 251 cl bk n 32 [l0, l1] st w := rfl
theorem E251_32 (st : List jV) (l0 l1 : Option jV) (w : jH) : jblk jT0 251 cl bk (n + 1) 32 [l0, l1] st w = jblk jT0 251 cl bk n 33 [l0, l1] (.inl 0 :: st) w := rfl
theorem E251_33 (st : List jV) (l0 l1 : Option jV) (w : jH) : jblk jT0 251 cl bk (n + 1) 33 [l0, l1] st w = jblk jT0 251 cl bk n 49 [l0, l1] st w := rfl
theorem E251_36 (a : Nat) (st : List jV) (l1 : Option jV) (w : jH) : jblk jT0 251 cl bk (n + 1) 36 [some (jr a), l1] st w = jblk jT0 251 cl bk n 37 [some (jr a), l1] (jr a :: st) w := rfl
theorem E251_37 (x : Int) (st : List jV) (l0 : Option jV) (w : jH) : jblk jT0 251 cl bk (n + 1) 37 [l0, some (.inl x)] st w = jblk jT0 251 cl bk n 38 [l0, some (.inl x)] (.inl x :: st) w := rfl
theorem E251_38 (st : List jV) (l0 l1 : Option jV) (w : jH) : jblk jT0 251 cl bk (n + 1) 38 [l0, l1] st w = jblk jT0 251 cl bk n 39 [l0, l1] (.inl 2 :: st) w := rfl
theorem E251_39 (a : Nat) (v0 : jV) (v1 : jV) (st : List jV) (l0 l1 : Option jV) (w : jH) : jblk jT0 251 cl bk (n + 1) 39 [l0, l1] (v1 :: v0 :: jr a :: st) w = jsh st (jgo w a 9 fun _ => jcl (cl 222 [jr a, v0, v1] w) (fun v w' => jblk jT0 251 cl bk n 42 [l0, l1] (jpush v st) w') (fun E w' => some (.inr E, w'))) := rfl
theorem E251_42 (a : Nat) (st : List jV) (l1 : Option jV) (w : jH) : jblk jT0 251 cl bk (n + 1) 42 [some (jr a), l1] st w = jblk jT0 251 cl bk n 43 [some (jr a), l1] (jr a :: st) w := rfl
theorem E251_43 (x : Int) (st : List jV) (l0 : Option jV) (w : jH) : jblk jT0 251 cl bk (n + 1) 43 [l0, some (.inl x)] st w = jblk jT0 251 cl bk n 44 [l0, some (.inl x)] (.inl x :: st) w := rfl
theorem E251_44 (st : List jV) (l0 l1 : Option jV) (w : jH) : jblk jT0 251 cl bk (n + 1) 44 [l0, l1] st w = jblk jT0 251 cl bk n 45 [l0, l1] (.inl 4 :: st) w := rfl
theorem E251_45 (a : Nat) (v0 : jV) (v1 : jV) (st : List jV) (l0 l1 : Option jV) (w : jH) : jblk jT0 251 cl bk (n + 1) 45 [l0, l1] (v1 :: v0 :: jr a :: st) w = jsh st (jgo w a 9 fun _ => jcl (cl 222 [jr a, v0, v1] w) (fun v w' => jblk jT0 251 cl bk n 48 [l0, l1] (jpush v st) w') (fun E w' => some (.inr E, w'))) := rfl
theorem E251_48 (x : Int) (y : Int) (st : List jV) (l0 l1 : Option jV) (w : jH) : jblk jT0 251 cl bk (n + 1) 48 [l0, l1] (.inl y :: .inl x :: st) w = jblk jT0 251 cl bk n 49 [l0, l1] (.inl (jw (x + y)) :: st) w := rfl
theorem E251_49 (x : Int) (l0 l1 : Option jV) (w : jH) : jblk jT0 251 cl bk (n + 1) 49 [l0, l1] [.inl x] w = if jfits .int x = true then some (.inl (some (.inl x)), w) else none := rfl
theorem E252_0 (a : Nat) (st : List jV) (w : jH) : jblk jT0 252 cl bk (n + 1) 0 [some (jr a)] st w = jblk jT0 252 cl bk n 1 [some (jr a)] (jr a :: st) w := rfl
theorem E252_1 (st : List jV) (l0 : Option jV) (w : jH) : jblk jT0 252 cl bk (n + 1) 1 [l0] st w = jblk jT0 252 cl bk n 2 [l0] (.inl 0 :: st) w := rfl
theorem E252_2 (a : Nat) (v : jV) (st : List jV) (l0 : Option jV) (w : jH) : jblk jT0 252 cl bk (n + 1) 2 [l0] (v :: jr a :: st) w = jpf w a 9 8 .int v fun w' => jblk jT0 252 cl bk n 5 [l0] st w' := rfl
theorem E252_5 (a : Nat) (st : List jV) (w : jH) : jblk jT0 252 cl bk (n + 1) 5 [some (jr a)] st w = jblk jT0 252 cl bk n 6 [some (jr a)] (jr a :: st) w := rfl
theorem E252_6 (a : Nat) (st : List jV) (l0 : Option jV) (w : jH) : jblk jT0 252 cl bk (n + 1) 6 [l0] (jr a :: st) w = jgf w a 9 0 fun v => jblk jT0 252 cl bk n 9 [l0] (v :: st) w := rfl
theorem E252_9 (st : List jV) (l0 : Option jV) (w : jH) : jblk jT0 252 cl bk (n + 1) 9 [l0] st w = jblk jT0 252 cl bk n 10 [l0] (.inl 3 :: st) w := rfl
theorem E252_10 (x : Int) (a : Nat) (st : List jV) (l0 : Option jV) (w : jH) : jblk jT0 252 cl bk (n + 1) 10 [l0] (.inl x :: jr a :: st) w = jlda w a x (fun z => jblk jT0 252 cl bk n 11 [l0] (.inl z :: st) w) := rfl
theorem E252_11 (x : Int) (l0 : Option jV) (w : jH) : jblk jT0 252 cl bk (n + 1) 11 [l0] [.inl x] w = if jfits .int x = true then some (.inl (some (.inl x)), w) else none := rfl
theorem E253_0 (a : Nat) (st : List jV) (w : jH) : jblk jT0 253 cl bk (n + 1) 0 [some (jr a)] st w = jblk jT0 253 cl bk n 1 [some (jr a)] (jr a :: st) w := rfl
theorem E253_1 (st : List jV) (l0 : Option jV) (w : jH) : jblk jT0 253 cl bk (n + 1) 1 [l0] st w = jblk jT0 253 cl bk n 2 [l0] (.inl 0 :: st) w := rfl
theorem E253_2 (a : Nat) (v : jV) (st : List jV) (l0 : Option jV) (w : jH) : jblk jT0 253 cl bk (n + 1) 2 [l0] (v :: jr a :: st) w = jpf w a 9 8 .int v fun w' => jblk jT0 253 cl bk n 5 [l0] st w' := rfl
theorem E253_5 (a : Nat) (st : List jV) (w : jH) : jblk jT0 253 cl bk (n + 1) 5 [some (jr a)] st w = jblk jT0 253 cl bk n 6 [some (jr a)] (jr a :: st) w := rfl
theorem E253_6 (a : Nat) (st : List jV) (l0 : Option jV) (w : jH) : jblk jT0 253 cl bk (n + 1) 6 [l0] (jr a :: st) w = jgf w a 9 0 fun v => jblk jT0 253 cl bk n 9 [l0] (v :: st) w := rfl
theorem E253_9 (st : List jV) (l0 : Option jV) (w : jH) : jblk jT0 253 cl bk (n + 1) 9 [l0] st w = jblk jT0 253 cl bk n 10 [l0] (.inl 4 :: st) w := rfl
theorem E253_10 (x : Int) (a : Nat) (st : List jV) (l0 : Option jV) (w : jH) : jblk jT0 253 cl bk (n + 1) 10 [l0] (.inl x :: jr a :: st) w = jlda w a x (fun z => jblk jT0 253 cl bk n 11 [l0] (.inl z :: st) w) := rfl
theorem E253_11 (x : Int) (l0 : Option jV) (w : jH) : jblk jT0 253 cl bk (n + 1) 11 [l0] [.inl x] w = if jfits .int x = true then some (.inl (some (.inl x)), w) else none := rfl
theorem E254_0 (a : Nat) (st : List jV) (w : jH) : jblk jT0 254 cl bk (n + 1) 0 [some (jr a)] st w = jblk jT0 254 cl bk n 1 [some (jr a)] (jr a :: st) w := rfl
theorem E254_1 (st : List jV) (l0 : Option jV) (w : jH) : jblk jT0 254 cl bk (n + 1) 1 [l0] st w = jblk jT0 254 cl bk n 2 [l0] (.inl 0 :: st) w := rfl
theorem E254_2 (a : Nat) (v : jV) (st : List jV) (l0 : Option jV) (w : jH) : jblk jT0 254 cl bk (n + 1) 2 [l0] (v :: jr a :: st) w = jpf w a 9 8 .int v fun w' => jblk jT0 254 cl bk n 5 [l0] st w' := rfl
theorem E254_5 (a : Nat) (st : List jV) (w : jH) : jblk jT0 254 cl bk (n + 1) 5 [some (jr a)] st w = jblk jT0 254 cl bk n 6 [some (jr a)] (jr a :: st) w := rfl
theorem E254_6 (a : Nat) (st : List jV) (l0 : Option jV) (w : jH) : jblk jT0 254 cl bk (n + 1) 6 [l0] (jr a :: st) w = jgf w a 9 0 fun v => jblk jT0 254 cl bk n 9 [l0] (v :: st) w := rfl
theorem E254_9 (st : List jV) (l0 : Option jV) (w : jH) : jblk jT0 254 cl bk (n + 1) 9 [l0] st w = jblk jT0 254 cl bk n 10 [l0] (.inl 5 :: st) w := rfl
theorem E254_10 (x : Int) (a : Nat) (st : List jV) (l0 : Option jV) (w : jH) : jblk jT0 254 cl bk (n + 1) 10 [l0] (.inl x :: jr a :: st) w = jlda w a x (fun z => jblk jT0 254 cl bk n 11 [l0] (.inl z :: st) w) := rfl
theorem E254_11 (x : Int) (l0 : Option jV) (w : jH) : jblk jT0 254 cl bk (n + 1) 11 [l0] [.inl x] w = if jfits .int x = true then some (.inl (some (.inl x)), w) else none := rfl
theorem E255_0 (st : List jV) (l0 l1 l2 : Option jV) (w : jH) : jblk jT0 255 cl bk (n + 1) 0 [l0, l1, l2] st w = jblk jT0 255 cl bk n 1 [l0, l1, l2] (.inl 0 :: st) w := rfl
theorem E255_1 (x : Int) (st : List jV) (l0 l1 l2 : Option jV) (w : jH) : jblk jT0 255 cl bk (n + 1) 1 [l0, l1, l2] (.inl x :: st) w = jblk jT0 255 cl bk n 2 [l0, some (.inl x), l2] st w := rfl
theorem E255_2 (st : List jV) (l0 l1 l2 : Option jV) (w : jH) : jblk jT0 255 cl bk (n + 1) 2 [l0, l1, l2] st w = jblk jT0 255 cl bk n 3 [l0, l1, l2] (.inl 0 :: st) w := rfl
theorem E255_3 (x : Int) (st : List jV) (l0 l1 l2 : Option jV) (w : jH) : jblk jT0 255 cl bk (n + 1) 3 [l0, l1, l2] (.inl x :: st) w = bk 4 [l0, l1, some (.inl x)] st w := rfl
theorem E255_4 (x : Int) (st : List jV) (l0 l1 : Option jV) (w : jH) : jblk jT0 255 cl bk (n + 1) 4 [l0, l1, some (.inl x)] st w = jblk jT0 255 cl bk n 5 [l0, l1, some (.inl x)] (.inl x :: st) w := rfl
theorem E255_5 (a : Nat) (st : List jV) (l1 l2 : Option jV) (w : jH) : jblk jT0 255 cl bk (n + 1) 5 [some (jr a), l1, l2] st w = jblk jT0 255 cl bk n 6 [some (jr a), l1, l2] (jr a :: st) w := rfl
theorem E255_6 (a : Nat) (st : List jV) (l0 l1 l2 : Option jV) (w : jH) : jblk jT0 255 cl bk (n + 1) 6 [l0, l1, l2] (jr a :: st) w = jgf w a 9 0 fun v => jblk jT0 255 cl bk n 9 [l0, l1, l2] (v :: st) w := rfl
theorem E255_9 (st : List jV) (l0 l1 l2 : Option jV) (w : jH) : jblk jT0 255 cl bk (n + 1) 9 [l0, l1, l2] st w = jblk jT0 255 cl bk n 10 [l0, l1, l2] (.inl 1 :: st) w := rfl
theorem E255_10 (x : Int) (a : Nat) (st : List jV) (l0 l1 l2 : Option jV) (w : jH) : jblk jT0 255 cl bk (n + 1) 10 [l0, l1, l2] (.inl x :: jr a :: st) w = jlda w a x (fun z => jblk jT0 255 cl bk n 11 [l0, l1, l2] (.inl z :: st) w) := rfl
theorem E255_11 (x : Int) (y : Int) (st : List jV) (l0 l1 l2 : Option jV) (w : jH) : jblk jT0 255 cl bk (n + 1) 11 [l0, l1, l2] (.inl y :: .inl x :: st) w = if x < y then jblk jT0 255 cl bk n 14 [l0, l1, l2] st w else jblk jT0 255 cl bk n 29 [l0, l1, l2] st w := rfl
theorem E255_14 (x : Int) (st : List jV) (l0 l2 : Option jV) (w : jH) : jblk jT0 255 cl bk (n + 1) 14 [l0, some (.inl x), l2] st w = jblk jT0 255 cl bk n 15 [l0, some (.inl x), l2] (.inl x :: st) w := rfl
theorem E255_15 (a : Nat) (st : List jV) (l1 l2 : Option jV) (w : jH) : jblk jT0 255 cl bk (n + 1) 15 [some (jr a), l1, l2] st w = jblk jT0 255 cl bk n 16 [some (jr a), l1, l2] (jr a :: st) w := rfl
theorem E255_16 (x : Int) (st : List jV) (l0 l1 : Option jV) (w : jH) : jblk jT0 255 cl bk (n + 1) 16 [l0, l1, some (.inl x)] st w = jblk jT0 255 cl bk n 17 [l0, l1, some (.inl x)] (.inl x :: st) w := rfl
theorem E255_17 (st : List jV) (l0 l1 l2 : Option jV) (w : jH) : jblk jT0 255 cl bk (n + 1) 17 [l0, l1, l2] st w = jblk jT0 255 cl bk n 18 [l0, l1, l2] (.inl 2 :: st) w := rfl
theorem E255_18 (a : Nat) (v0 : jV) (v1 : jV) (st : List jV) (l0 l1 l2 : Option jV) (w : jH) : jblk jT0 255 cl bk (n + 1) 18 [l0, l1, l2] (v1 :: v0 :: jr a :: st) w = jsh st (jgo w a 9 fun _ => jcl (cl 222 [jr a, v0, v1] w) (fun v w' => jblk jT0 255 cl bk n 21 [l0, l1, l2] (jpush v st) w') (fun E w' => some (.inr E, w'))) := rfl
theorem E255_21 (x : Int) (y : Int) (st : List jV) (l0 l1 l2 : Option jV) (w : jH) : jblk jT0 255 cl bk (n + 1) 21 [l0, l1, l2] (.inl y :: .inl x :: st) w = jblk jT0 255 cl bk n 22 [l0, l1, l2] (.inl (jw (x + y)) :: st) w := rfl
theorem E255_22 (x : Int) (st : List jV) (l0 l1 l2 : Option jV) (w : jH) : jblk jT0 255 cl bk (n + 1) 22 [l0, l1, l2] (.inl x :: st) w = jblk jT0 255 cl bk n 23 [l0, some (.inl x), l2] st w := rfl
theorem E255_23 (x : Int) (st : List jV) (l0 l1 : Option jV) (w : jH) : jblk jT0 255 cl bk (n + 1) 23 [l0, l1, some (.inl x)] st w = jblk jT0 255 cl bk n 26 [l0, l1, some (.inl (jw (x + 1)))] st w := rfl
theorem E255_26 (st : List jV) (l0 l1 l2 : Option jV) (w : jH) : jblk jT0 255 cl bk (n + 1) 26 [l0, l1, l2] st w = bk 4 [l0, l1, l2] st w := rfl
theorem E255_29 (x : Int) (st : List jV) (l0 l2 : Option jV) (w : jH) : jblk jT0 255 cl bk (n + 1) 29 [l0, some (.inl x), l2] st w = jblk jT0 255 cl bk n 30 [l0, some (.inl x), l2] (.inl x :: st) w := rfl
theorem E255_30 (x : Int) (l0 l1 l2 : Option jV) (w : jH) : jblk jT0 255 cl bk (n + 1) 30 [l0, l1, l2] [.inl x] w = if jfits .int x = true then some (.inl (some (.inl x)), w) else none := rfl
theorem E256_0 (a : Nat) (st : List jV) (w : jH) : jblk jT0 256 cl bk (n + 1) 0 [some (jr a)] st w = jblk jT0 256 cl bk n 1 [some (jr a)] (jr a :: st) w := rfl
theorem E256_1 (st : List jV) (l0 : Option jV) (w : jH) : jblk jT0 256 cl bk (n + 1) 1 [l0] st w = jblk jT0 256 cl bk n 2 [l0] (.inl 0 :: st) w := rfl
theorem E256_2 (a : Nat) (v : jV) (st : List jV) (l0 : Option jV) (w : jH) : jblk jT0 256 cl bk (n + 1) 2 [l0] (v :: jr a :: st) w = jpf w a 9 8 .int v fun w' => jblk jT0 256 cl bk n 5 [l0] st w' := rfl
theorem E256_5 (a : Nat) (st : List jV) (w : jH) : jblk jT0 256 cl bk (n + 1) 5 [some (jr a)] st w = jblk jT0 256 cl bk n 6 [some (jr a)] (jr a :: st) w := rfl
theorem E256_6 (a : Nat) (st : List jV) (l0 : Option jV) (w : jH) : jblk jT0 256 cl bk (n + 1) 6 [l0] (jr a :: st) w = jsh st (jgo w a 9 fun _ => jcl (cl 255 [jr a] w) (fun v w' => jblk jT0 256 cl bk n 9 [l0] (jpush v st) w') (fun E w' => some (.inr E, w'))) := rfl
theorem E256_9 (x : Int) (l0 : Option jV) (w : jH) : jblk jT0 256 cl bk (n + 1) 9 [l0] [.inl x] w = if jfits .int x = true then some (.inl (some (.inl x)), w) else none := rfl
end
theorem M247 (d : Nat) (r0 : Nat) (a1 : Int) (w : jH) : jme jT0 jMx (d + 1) 247 [jr r0, .inl a1] w = jblk jT0 247 (jme jT0 jMx d) (jlp jT0 247 (jme jT0 jMx d) 99999) 4000 0 [some (jr r0), some (.inl a1)] [] w := (show _ = jlp jT0 247 (jme jT0 jMx d) 100000 0 [some (jr r0), some (.inl a1)] [] w from rfl).trans jlp_s
theorem M248 (d : Nat) (r0 : Nat) (w : jH) : jme jT0 jMx (d + 1) 248 [jr r0] w = jblk jT0 248 (jme jT0 jMx d) (jlp jT0 248 (jme jT0 jMx d) 99999) 4000 0 [some (jr r0), none, none] [] w := (show _ = jlp jT0 248 (jme jT0 jMx d) 100000 0 [some (jr r0), none, none] [] w from rfl).trans jlp_s
theorem M249 (d : Nat) (r0 : Nat) (a1 : Int) (w : jH) : jme jT0 jMx (d + 1) 249 [jr r0, .inl a1] w = jblk jT0 249 (jme jT0 jMx d) (jlp jT0 249 (jme jT0 jMx d) 99999) 4000 0 [some (jr r0), some (.inl a1), none, none] [] w := (show _ = jlp jT0 249 (jme jT0 jMx d) 100000 0 [some (jr r0), some (.inl a1), none, none] [] w from rfl).trans jlp_s
theorem M250 (d : Nat) (r0 : Nat) (w : jH) : jme jT0 jMx (d + 1) 250 [jr r0] w = jblk jT0 250 (jme jT0 jMx d) (jlp jT0 250 (jme jT0 jMx d) 99999) 4000 0 [some (jr r0)] [] w := (show _ = jlp jT0 250 (jme jT0 jMx d) 100000 0 [some (jr r0)] [] w from rfl).trans jlp_s
theorem M251 (d : Nat) (r0 : Nat) (a1 : Int) (w : jH) : jme jT0 jMx (d + 1) 251 [jr r0, .inl a1] w = jblk jT0 251 (jme jT0 jMx d) (jlp jT0 251 (jme jT0 jMx d) 99999) 4000 0 [some (jr r0), some (.inl a1)] [] w := (show _ = jlp jT0 251 (jme jT0 jMx d) 100000 0 [some (jr r0), some (.inl a1)] [] w from rfl).trans jlp_s
theorem M252 (d : Nat) (r0 : Nat) (w : jH) : jme jT0 jMx (d + 1) 252 [jr r0] w = jblk jT0 252 (jme jT0 jMx d) (jlp jT0 252 (jme jT0 jMx d) 99999) 4000 0 [some (jr r0)] [] w := (show _ = jlp jT0 252 (jme jT0 jMx d) 100000 0 [some (jr r0)] [] w from rfl).trans jlp_s
theorem M253 (d : Nat) (r0 : Nat) (w : jH) : jme jT0 jMx (d + 1) 253 [jr r0] w = jblk jT0 253 (jme jT0 jMx d) (jlp jT0 253 (jme jT0 jMx d) 99999) 4000 0 [some (jr r0)] [] w := (show _ = jlp jT0 253 (jme jT0 jMx d) 100000 0 [some (jr r0)] [] w from rfl).trans jlp_s
theorem M254 (d : Nat) (r0 : Nat) (w : jH) : jme jT0 jMx (d + 1) 254 [jr r0] w = jblk jT0 254 (jme jT0 jMx d) (jlp jT0 254 (jme jT0 jMx d) 99999) 4000 0 [some (jr r0)] [] w := (show _ = jlp jT0 254 (jme jT0 jMx d) 100000 0 [some (jr r0)] [] w from rfl).trans jlp_s
theorem M255 (d : Nat) (r0 : Nat) (w : jH) : jme jT0 jMx (d + 1) 255 [jr r0] w = jblk jT0 255 (jme jT0 jMx d) (jlp jT0 255 (jme jT0 jMx d) 99999) 4000 0 [some (jr r0), none, none] [] w := (show _ = jlp jT0 255 (jme jT0 jMx d) 100000 0 [some (jr r0), none, none] [] w from rfl).trans jlp_s
theorem M256 (d : Nat) (r0 : Nat) (w : jH) : jme jT0 jMx (d + 1) 256 [jr r0] w = jblk jT0 256 (jme jT0 jMx d) (jlp jT0 256 (jme jT0 jMx d) 99999) 4000 0 [some (jr r0)] [] w := (show _ = jlp jT0 256 (jme jT0 jMx d) 100000 0 [some (jr r0)] [] w from rfl).trans jlp_s
def f_Mod_habitStrength (m : jMem) (a1 : Int) : Option (Int × jMem) := (f_Mod_isNobody m a1).bind fun qx1 => if qx1.1 = 0 then (f_Mod_sumOf qx1.2 a1).bind fun x2 => some (x2, qx1.2) else some (0, qx1.2)
section
variable {cf : jCf} {dv : UInt64}
set_option maxRecDepth 20000 in
set_option maxHeartbeats 4000000 in
theorem X247 (d : Nat) (a1 : Int) (m : jMem) (k : jM) : jme jT0 jMx (d + 4) 247 [jr (jn cf + 147), .inl a1] (hp cf dv m, k) = lW cf dv k ijI (f_Mod_habitStrength m a1) := by
  simp only [M247, E247_0, E247_1, E247_2, E247_5, E247_8, E247_9, E247_12, E247_13, E247_14, E247_17, X200, X246, go_147, jsh_n, jsh_I, jsh_R, jsh_II, jsh_IR, jsh_RI, jsh_RR, jsh_III, jsh_IIR, jsh_IRI, jsh_IRR, jsh_RII, jsh_RIR, jsh_RRI, jsh_RRR, jsh_IIII, jsh_IIIR, jsh_IIRI, jsh_IIRR, jsh_IRII, jsh_IRIR, jsh_IRRI, jsh_IRRR, jsh_RIII, jsh_RIIR, jsh_RIRI, jsh_RIRR, jsh_RRII, jsh_RRIR, jsh_RRRI, jsh_RRRR, jthr_hp, jc_l0, jc_lW, jc_lX, jc_lXW, jc_lVW, jc_lVX, jpush_n, jpush_s, obt_0, obt_1, och_0, och_32, och_100, och_115, och_104, och_33, och_43, och_60, jint, jbit, jchr, ijI, ijR, ijD, ijF, ↓reduceIte, Int.reduceEq, Int.reduceLT, reduceCtorEq, lW_bind, lW_ite, lW_none, lW_oix, lW_obt, lW_och, lW_sel, lW_oel, lW_some, f_Mod_habitStrength]
end
def f_Mod_yearGoesL : Nat → jMem → Int → Int → Option (Int × jMem)
  | 0, _, _, _ => none
  | N + 1, m, a1, a2 => oix (1 : Int) 138 (if a2 < (m 148 (1 : Int).toNat) then (f_Mod_isGone m a2).bind fun x1 => if x1 = 0 then (f_Mod_of m a2 4).bind fun x3 => if x3 = 0 then (f_Mod_weakens m a2).bind fun qx5 => if qx5.1 = 0 then (f_Mod_lays qx5.2 a2 4 0).bind fun m6 => f_Mod_yearGoesL N m6 (jw (a1 + 0)) (jw (a2 + 1)) else (f_Mod_lays qx5.2 a2 4 0).bind fun m7 => f_Mod_yearGoesL N m7 (jw (a1 + 1)) (jw (a2 + 1)) else (f_Mod_lays m a2 4 0).bind fun m4 => f_Mod_yearGoesL N m4 a1 (jw (a2 + 1)) else (f_Mod_lays m a2 4 0).bind fun m2 => f_Mod_yearGoesL N m2 a1 (jw (a2 + 1)) else oix (2 : Int) 138 (oix (2 : Int) 138 (some (a1, mset m 148 (2 : Int).toNat (jw ((m 148 (2 : Int).toNat) + 1))))))
def f_Mod_yearGoes (m : jMem) : Option (Int × jMem) := f_Mod_yearGoesL 99999 m 0 0
section
variable {cf : jCf} {dv : UInt64}
set_option maxRecDepth 20000 in
set_option maxHeartbeats 4000000 in
theorem X248L (d : Nat) : ∀ (N : Nat) (m : jMem) (k : jM), (∀ (a1 a2 : Int), jlp jT0 248 (jme jT0 jMx (d + 3)) N 4 [some (jr (jn cf + 147)), some (.inl a1), some (.inl a2)] [] (hp cf dv m, k) = lW cf dv k ijI (f_Mod_yearGoesL N m a1 a2)) := by
  intro N
  induction N with
  | zero => intro m k; exact by intros; rfl
  | succ N ih =>
    intro m k
    intros
    rw [jlp_s]
    simp only [E248_0, E248_1, E248_2, E248_3, E248_4, E248_5, E248_6, E248_9, E248_10, E248_11, E248_14, E248_15, E248_16, E248_19, E248_22, E248_23, E248_24, E248_25, E248_28, E248_31, E248_32, E248_33, E248_34, E248_37, E248_40, E248_41, E248_44, E248_45, E248_46, E248_47, E248_48, E248_49, E248_50, E248_51, E248_54, E248_57, E248_60, E248_61, E248_64, E248_65, E248_66, E248_67, E248_68, E248_69, E248_70, E248_71, ai_148, as_148, gf_147_0, X222, X223, X225, X232, go_147, jsh_n, jsh_I, jsh_R, jsh_II, jsh_IR, jsh_RI, jsh_RR, jsh_III, jsh_IIR, jsh_IRI, jsh_IRR, jsh_RII, jsh_RIR, jsh_RRI, jsh_RRR, jsh_IIII, jsh_IIIR, jsh_IIRI, jsh_IIRR, jsh_IRII, jsh_IRIR, jsh_IRRI, jsh_IRRR, jsh_RIII, jsh_RIIR, jsh_RIRI, jsh_RIRR, jsh_RRII, jsh_RRIR, jsh_RRRI, jsh_RRRR, jthr_hp, jc_l0, jc_lW, jc_lX, jc_lXW, jc_lVW, jc_lVX, jpush_n, jpush_s, obt_0, obt_1, och_0, och_32, och_100, och_115, och_104, och_33, och_43, och_60, jint, jbit, jchr, ijI, ijR, ijD, ijF, ↓reduceIte, Int.reduceEq, Int.reduceLT, reduceCtorEq, lW_bind, lW_ite, lW_none, lW_oix, lW_obt, lW_och, lW_sel, lW_oel, lW_some, f_Mod_yearGoesL, ih]
set_option maxRecDepth 20000 in
set_option maxHeartbeats 4000000 in
theorem X248 (d : Nat) (m : jMem) (k : jM) : jme jT0 jMx (d + 4) 248 [jr (jn cf + 147)] (hp cf dv m, k) = lW cf dv k ijI (f_Mod_yearGoes m) := by
  simp only [M248, E248_0, E248_1, E248_2, E248_3, E248_4, E248_5, E248_6, E248_9, E248_10, E248_11, E248_14, E248_15, E248_16, E248_19, E248_22, E248_23, E248_24, E248_25, E248_28, E248_31, E248_32, E248_33, E248_34, E248_37, E248_40, E248_41, E248_44, E248_45, E248_46, E248_47, E248_48, E248_49, E248_50, E248_51, E248_54, E248_57, E248_60, E248_61, E248_64, E248_65, E248_66, E248_67, E248_68, E248_69, E248_70, E248_71, ai_148, as_148, gf_147_0, X222, X223, X225, X232, go_147, jsh_n, jsh_I, jsh_R, jsh_II, jsh_IR, jsh_RI, jsh_RR, jsh_III, jsh_IIR, jsh_IRI, jsh_IRR, jsh_RII, jsh_RIR, jsh_RRI, jsh_RRR, jsh_IIII, jsh_IIIR, jsh_IIRI, jsh_IIRR, jsh_IRII, jsh_IRIR, jsh_IRRI, jsh_IRRR, jsh_RIII, jsh_RIIR, jsh_RIRI, jsh_RIRR, jsh_RRII, jsh_RRIR, jsh_RRRI, jsh_RRRR, jthr_hp, jc_l0, jc_lW, jc_lX, jc_lXW, jc_lVW, jc_lVX, jpush_n, jpush_s, obt_0, obt_1, och_0, och_32, och_100, och_115, och_104, och_33, och_43, och_60, jint, jbit, jchr, ijI, ijR, ijD, ijF, ↓reduceIte, Int.reduceEq, Int.reduceLT, reduceCtorEq, lW_bind, lW_ite, lW_none, lW_oix, lW_obt, lW_och, lW_sel, lW_oel, lW_some, f_Mod_yearGoes, X248L]
end
def f_Mod_passYearsL : Nat → jMem → Int → Int → Int → Option (Int × jMem)
  | 0, _, _, _, _ => none
  | N + 1, m, a1, a2, a3 => if a3 < a1 then (f_Mod_yearGoes m).bind fun qx6 => f_Mod_passYearsL N qx6.2 a1 (jw (a2 + qx6.1)) (jw (a3 + 1)) else some (a2, m)
def f_Mod_passYears (m : jMem) (a1 : Int) : Option (Int × jMem) := (f_Mod_in m a1 1 9).bind fun x1 => if x1 = 0 then (f_Mod_fails m 1).bind fun qx2 => if qx2.1 = 0 then (f_Mod_keeps_148 qx2.2).bind fun m3 => f_Mod_passYearsL 99999 m3 a1 0 0 else some (0, qx2.2) else (f_Mod_fails m 0).bind fun qx4 => if qx4.1 = 0 then (f_Mod_keeps_148 qx4.2).bind fun m5 => f_Mod_passYearsL 99999 m5 a1 0 0 else some (0, qx4.2)
section
variable {cf : jCf} {dv : UInt64}
set_option maxRecDepth 20000 in
set_option maxHeartbeats 4000000 in
theorem X249L (d : Nat) : ∀ (N : Nat) (m : jMem) (k : jM), (∀ (a1 a2 a3 : Int), jlp jT0 249 (jme jT0 jMx (d + 4)) N 36 [some (jr (jn cf + 147)), some (.inl a1), some (.inl a2), some (.inl a3)] [] (hp cf dv m, k) = lW cf dv k ijI (f_Mod_passYearsL N m a1 a2 a3)) := by
  intro N
  induction N with
  | zero => intro m k; exact by intros; rfl
  | succ N ih =>
    intro m k
    intros
    rw [jlp_s]
    simp only [E249_0, E249_1, E249_2, E249_3, E249_5, E249_8, E249_11, E249_12, E249_15, E249_16, E249_19, E249_22, E249_23, E249_24, E249_25, E249_26, E249_29, E249_32, E249_33, E249_34, E249_35, E249_36, E249_37, E249_38, E249_41, E249_42, E249_43, E249_46, E249_47, E249_48, E249_51, E249_54, E249_55, gf_147_0, X178, X180, X183_148, X248, go_147, jsh_n, jsh_I, jsh_R, jsh_II, jsh_IR, jsh_RI, jsh_RR, jsh_III, jsh_IIR, jsh_IRI, jsh_IRR, jsh_RII, jsh_RIR, jsh_RRI, jsh_RRR, jsh_IIII, jsh_IIIR, jsh_IIRI, jsh_IIRR, jsh_IRII, jsh_IRIR, jsh_IRRI, jsh_IRRR, jsh_RIII, jsh_RIIR, jsh_RIRI, jsh_RIRR, jsh_RRII, jsh_RRIR, jsh_RRRI, jsh_RRRR, jthr_hp, jc_l0, jc_lW, jc_lX, jc_lXW, jc_lVW, jc_lVX, jpush_n, jpush_s, obt_0, obt_1, och_0, och_32, och_100, och_115, och_104, och_33, och_43, och_60, jint, jbit, jchr, ijI, ijR, ijD, ijF, ↓reduceIte, Int.reduceEq, Int.reduceLT, reduceCtorEq, lW_bind, lW_ite, lW_none, lW_oix, lW_obt, lW_och, lW_sel, lW_oel, lW_some, f_Mod_passYearsL, ih]
set_option maxRecDepth 20000 in
set_option maxHeartbeats 4000000 in
theorem X249 (d : Nat) (a1 : Int) (m : jMem) (k : jM) : jme jT0 jMx (d + 5) 249 [jr (jn cf + 147), .inl a1] (hp cf dv m, k) = lW cf dv k ijI (f_Mod_passYears m a1) := by
  simp only [M249, E249_0, E249_1, E249_2, E249_3, E249_5, E249_8, E249_11, E249_12, E249_15, E249_16, E249_19, E249_22, E249_23, E249_24, E249_25, E249_26, E249_29, E249_32, E249_33, E249_34, E249_35, E249_36, E249_37, E249_38, E249_41, E249_42, E249_43, E249_46, E249_47, E249_48, E249_51, E249_54, E249_55, gf_147_0, X178, X180, X183_148, X248, go_147, jsh_n, jsh_I, jsh_R, jsh_II, jsh_IR, jsh_RI, jsh_RR, jsh_III, jsh_IIR, jsh_IRI, jsh_IRR, jsh_RII, jsh_RIR, jsh_RRI, jsh_RRR, jsh_IIII, jsh_IIIR, jsh_IIRI, jsh_IIRR, jsh_IRII, jsh_IRIR, jsh_IRRI, jsh_IRRR, jsh_RIII, jsh_RIIR, jsh_RIRI, jsh_RIRR, jsh_RRII, jsh_RRIR, jsh_RRRI, jsh_RRRR, jthr_hp, jc_l0, jc_lW, jc_lX, jc_lXW, jc_lVW, jc_lVX, jpush_n, jpush_s, obt_0, obt_1, och_0, och_32, och_100, och_115, och_104, och_33, och_43, och_60, jint, jbit, jchr, ijI, ijR, ijD, ijF, ↓reduceIte, Int.reduceEq, Int.reduceLT, reduceCtorEq, lW_bind, lW_ite, lW_none, lW_oix, lW_obt, lW_och, lW_sel, lW_oel, lW_some, f_Mod_passYears, X249L]
end
def f_Mod_year (m : jMem) : Option (Int × jMem) := oix (2 : Int) 138 (some ((mset m 147 8 0) 148 (2 : Int).toNat, mset m 147 8 0))
section
variable {cf : jCf} {dv : UInt64}
set_option maxRecDepth 20000 in
set_option maxHeartbeats 4000000 in
theorem X250 (d : Nat) (m : jMem) (k : jM) : jme jT0 jMx (d + 1) 250 [jr (jn cf + 147)] (hp cf dv m, k) = lW cf dv k ijI (f_Mod_year m) := by
  simp only [M250, E250_0, E250_1, E250_2, E250_5, E250_6, E250_9, E250_10, E250_11, ai_148, gf_147_0, pf_147_8, jsh_n, jsh_I, jsh_R, jsh_II, jsh_IR, jsh_RI, jsh_RR, jsh_III, jsh_IIR, jsh_IRI, jsh_IRR, jsh_RII, jsh_RIR, jsh_RRI, jsh_RRR, jsh_IIII, jsh_IIIR, jsh_IIRI, jsh_IIRR, jsh_IRII, jsh_IRIR, jsh_IRRI, jsh_IRRR, jsh_RIII, jsh_RIIR, jsh_RIRI, jsh_RIRR, jsh_RRII, jsh_RRIR, jsh_RRRI, jsh_RRRR, jthr_hp, jc_l0, jc_lW, jc_lX, jc_lXW, jc_lVW, jc_lVX, jpush_n, jpush_s, obt_0, obt_1, och_0, och_32, och_100, och_115, och_104, och_33, och_43, och_60, jint, jbit, jchr, ijI, ijR, ijD, ijF, ↓reduceIte, Int.reduceEq, Int.reduceLT, reduceCtorEq, lW_bind, lW_ite, lW_none, lW_oix, lW_obt, lW_och, lW_sel, lW_oel, lW_some, f_Mod_year]
end
def f_Mod_yearsLeft (m : jMem) (a1 : Int) : Option (Int × jMem) := (f_Mod_isHabit m a1).bind fun x1 => if x1 = 0 then (f_Mod_fails m 1).bind fun qx9 => if qx9.1 = 0 then (f_Mod_of qx9.2 a1 2).bind fun x10 => (f_Mod_of qx9.2 a1 4).bind fun x11 => some (jw (x10 + x11), qx9.2) else some (0, qx9.2) else (f_Mod_isGone m a1).bind fun x2 => if x2 = 0 then (f_Mod_fails m 0).bind fun qx3 => if qx3.1 = 0 then (f_Mod_of qx3.2 a1 2).bind fun x4 => (f_Mod_of qx3.2 a1 4).bind fun x5 => some (jw (x4 + x5), qx3.2) else some (0, qx3.2) else (f_Mod_fails m 2).bind fun qx6 => if qx6.1 = 0 then (f_Mod_of qx6.2 a1 2).bind fun x7 => (f_Mod_of qx6.2 a1 4).bind fun x8 => some (jw (x7 + x8), qx6.2) else some (0, qx6.2)
section
variable {cf : jCf} {dv : UInt64}
set_option maxRecDepth 20000 in
set_option maxHeartbeats 4000000 in
theorem X251 (d : Nat) (a1 : Int) (m : jMem) (k : jM) : jme jT0 jMx (d + 3) 251 [jr (jn cf + 147), .inl a1] (hp cf dv m, k) = lW cf dv k ijI (f_Mod_yearsLeft m a1) := by
  simp only [M251, E251_0, E251_1, E251_2, E251_3, E251_6, E251_9, E251_10, E251_13, E251_14, E251_15, E251_18, E251_21, E251_22, E251_25, E251_26, E251_29, E251_32, E251_33, E251_36, E251_37, E251_38, E251_39, E251_42, E251_43, E251_44, E251_45, E251_48, E251_49, X178, X222, X224, X225, go_147, jsh_n, jsh_I, jsh_R, jsh_II, jsh_IR, jsh_RI, jsh_RR, jsh_III, jsh_IIR, jsh_IRI, jsh_IRR, jsh_RII, jsh_RIR, jsh_RRI, jsh_RRR, jsh_IIII, jsh_IIIR, jsh_IIRI, jsh_IIRR, jsh_IRII, jsh_IRIR, jsh_IRRI, jsh_IRRR, jsh_RIII, jsh_RIIR, jsh_RIRI, jsh_RIRR, jsh_RRII, jsh_RRIR, jsh_RRRI, jsh_RRRR, jthr_hp, jc_l0, jc_lW, jc_lX, jc_lXW, jc_lVW, jc_lVX, jpush_n, jpush_s, obt_0, obt_1, och_0, och_32, och_100, och_115, och_104, och_33, och_43, och_60, jint, jbit, jchr, ijI, ijR, ijD, ijF, ↓reduceIte, Int.reduceEq, Int.reduceLT, reduceCtorEq, lW_bind, lW_ite, lW_none, lW_oix, lW_obt, lW_och, lW_sel, lW_oel, lW_some, f_Mod_yearsLeft]
end
def f_Mod_lapsedCount (m : jMem) : Option (Int × jMem) := oix (3 : Int) 138 (some ((mset m 147 8 0) 148 (3 : Int).toNat, mset m 147 8 0))
section
variable {cf : jCf} {dv : UInt64}
set_option maxRecDepth 20000 in
set_option maxHeartbeats 4000000 in
theorem X252 (d : Nat) (m : jMem) (k : jM) : jme jT0 jMx (d + 1) 252 [jr (jn cf + 147)] (hp cf dv m, k) = lW cf dv k ijI (f_Mod_lapsedCount m) := by
  simp only [M252, E252_0, E252_1, E252_2, E252_5, E252_6, E252_9, E252_10, E252_11, ai_148, gf_147_0, pf_147_8, jsh_n, jsh_I, jsh_R, jsh_II, jsh_IR, jsh_RI, jsh_RR, jsh_III, jsh_IIR, jsh_IRI, jsh_IRR, jsh_RII, jsh_RIR, jsh_RRI, jsh_RRR, jsh_IIII, jsh_IIIR, jsh_IIRI, jsh_IIRR, jsh_IRII, jsh_IRIR, jsh_IRRI, jsh_IRRR, jsh_RIII, jsh_RIIR, jsh_RIRI, jsh_RIRR, jsh_RRII, jsh_RRIR, jsh_RRRI, jsh_RRRR, jthr_hp, jc_l0, jc_lW, jc_lX, jc_lXW, jc_lVW, jc_lVX, jpush_n, jpush_s, obt_0, obt_1, och_0, och_32, och_100, och_115, och_104, och_33, och_43, och_60, jint, jbit, jchr, ijI, ijR, ijD, ijF, ↓reduceIte, Int.reduceEq, Int.reduceLT, reduceCtorEq, lW_bind, lW_ite, lW_none, lW_oix, lW_obt, lW_och, lW_sel, lW_oel, lW_some, f_Mod_lapsedCount]
end
def f_Mod_mergedCount (m : jMem) : Option (Int × jMem) := oix (4 : Int) 138 (some ((mset m 147 8 0) 148 (4 : Int).toNat, mset m 147 8 0))
section
variable {cf : jCf} {dv : UInt64}
set_option maxRecDepth 20000 in
set_option maxHeartbeats 4000000 in
theorem X253 (d : Nat) (m : jMem) (k : jM) : jme jT0 jMx (d + 1) 253 [jr (jn cf + 147)] (hp cf dv m, k) = lW cf dv k ijI (f_Mod_mergedCount m) := by
  simp only [M253, E253_0, E253_1, E253_2, E253_5, E253_6, E253_9, E253_10, E253_11, ai_148, gf_147_0, pf_147_8, jsh_n, jsh_I, jsh_R, jsh_II, jsh_IR, jsh_RI, jsh_RR, jsh_III, jsh_IIR, jsh_IRI, jsh_IRR, jsh_RII, jsh_RIR, jsh_RRI, jsh_RRR, jsh_IIII, jsh_IIIR, jsh_IIRI, jsh_IIRR, jsh_IRII, jsh_IRIR, jsh_IRRI, jsh_IRRR, jsh_RIII, jsh_RIIR, jsh_RIRI, jsh_RIRR, jsh_RRII, jsh_RRIR, jsh_RRRI, jsh_RRRR, jthr_hp, jc_l0, jc_lW, jc_lX, jc_lXW, jc_lVW, jc_lVX, jpush_n, jpush_s, obt_0, obt_1, och_0, och_32, och_100, och_115, och_104, och_33, och_43, och_60, jint, jbit, jchr, ijI, ijR, ijD, ijF, ↓reduceIte, Int.reduceEq, Int.reduceLT, reduceCtorEq, lW_bind, lW_ite, lW_none, lW_oix, lW_obt, lW_och, lW_sel, lW_oel, lW_some, f_Mod_mergedCount]
end
def f_Mod_brokenCount (m : jMem) : Option (Int × jMem) := oix (5 : Int) 138 (some ((mset m 147 8 0) 148 (5 : Int).toNat, mset m 147 8 0))
section
variable {cf : jCf} {dv : UInt64}
set_option maxRecDepth 20000 in
set_option maxHeartbeats 4000000 in
theorem X254 (d : Nat) (m : jMem) (k : jM) : jme jT0 jMx (d + 1) 254 [jr (jn cf + 147)] (hp cf dv m, k) = lW cf dv k ijI (f_Mod_brokenCount m) := by
  simp only [M254, E254_0, E254_1, E254_2, E254_5, E254_6, E254_9, E254_10, E254_11, ai_148, gf_147_0, pf_147_8, jsh_n, jsh_I, jsh_R, jsh_II, jsh_IR, jsh_RI, jsh_RR, jsh_III, jsh_IIR, jsh_IRI, jsh_IRR, jsh_RII, jsh_RIR, jsh_RRI, jsh_RRR, jsh_IIII, jsh_IIIR, jsh_IIRI, jsh_IIRR, jsh_IRII, jsh_IRIR, jsh_IRRI, jsh_IRRR, jsh_RIII, jsh_RIIR, jsh_RIRI, jsh_RIRR, jsh_RRII, jsh_RRIR, jsh_RRRI, jsh_RRRR, jthr_hp, jc_l0, jc_lW, jc_lX, jc_lXW, jc_lVW, jc_lVX, jpush_n, jpush_s, obt_0, obt_1, och_0, och_32, och_100, och_115, och_104, och_33, och_43, och_60, jint, jbit, jchr, ijI, ijR, ijD, ijF, ↓reduceIte, Int.reduceEq, Int.reduceLT, reduceCtorEq, lW_bind, lW_ite, lW_none, lW_oix, lW_obt, lW_och, lW_sel, lW_oel, lW_some, f_Mod_brokenCount]
end
def f_Mod_totalL : Nat → jMem → Int → Int → Option Int
  | 0, _, _, _ => none
  | N + 1, m, a1, a2 => oix (1 : Int) 138 (if a2 < (m 148 (1 : Int).toNat) then (f_Mod_of m a2 2).bind fun x1 => f_Mod_totalL N m (jw (a1 + x1)) (jw (a2 + 1)) else some a1)
def f_Mod_total (m : jMem) : Option Int := f_Mod_totalL 99999 m 0 0
section
variable {cf : jCf} {dv : UInt64}
set_option maxRecDepth 20000 in
set_option maxHeartbeats 4000000 in
theorem X255L (d : Nat) : ∀ (N : Nat) (m : jMem) (k : jM), (∀ (a1 a2 : Int), jlp jT0 255 (jme jT0 jMx (d + 1)) N 4 [some (jr (jn cf + 147)), some (.inl a1), some (.inl a2)] [] (hp cf dv m, k) = l0 cf dv m k ijI (f_Mod_totalL N m a1 a2)) := by
  intro N
  induction N with
  | zero => intro m k; exact by intros; rfl
  | succ N ih =>
    intro m k
    intros
    rw [jlp_s]
    simp only [E255_0, E255_1, E255_2, E255_3, E255_4, E255_5, E255_6, E255_9, E255_10, E255_11, E255_14, E255_15, E255_16, E255_17, E255_18, E255_21, E255_22, E255_23, E255_26, E255_29, E255_30, ai_148, gf_147_0, X222, go_147, jsh_n, jsh_I, jsh_R, jsh_II, jsh_IR, jsh_RI, jsh_RR, jsh_III, jsh_IIR, jsh_IRI, jsh_IRR, jsh_RII, jsh_RIR, jsh_RRI, jsh_RRR, jsh_IIII, jsh_IIIR, jsh_IIRI, jsh_IIRR, jsh_IRII, jsh_IRIR, jsh_IRRI, jsh_IRRR, jsh_RIII, jsh_RIIR, jsh_RIRI, jsh_RIRR, jsh_RRII, jsh_RRIR, jsh_RRRI, jsh_RRRR, jthr_hp, jc_l0, jc_lW, jc_lX, jc_lXW, jc_lVW, jc_lVX, jpush_n, jpush_s, obt_0, obt_1, och_0, och_32, och_100, och_115, och_104, och_33, och_43, och_60, jint, jbit, jchr, ijI, ijR, ijD, ijF, ↓reduceIte, Int.reduceEq, Int.reduceLT, reduceCtorEq, l0_bind, l0_ite, l0_none, l0_oix, l0_obt, l0_och, l0_sel, l0_oel, l0_some, f_Mod_totalL, ih]
set_option maxRecDepth 20000 in
set_option maxHeartbeats 4000000 in
theorem X255 (d : Nat) (m : jMem) (k : jM) : jme jT0 jMx (d + 2) 255 [jr (jn cf + 147)] (hp cf dv m, k) = l0 cf dv m k ijI (f_Mod_total m) := by
  simp only [M255, E255_0, E255_1, E255_2, E255_3, E255_4, E255_5, E255_6, E255_9, E255_10, E255_11, E255_14, E255_15, E255_16, E255_17, E255_18, E255_21, E255_22, E255_23, E255_26, E255_29, E255_30, ai_148, gf_147_0, X222, go_147, jsh_n, jsh_I, jsh_R, jsh_II, jsh_IR, jsh_RI, jsh_RR, jsh_III, jsh_IIR, jsh_IRI, jsh_IRR, jsh_RII, jsh_RIR, jsh_RRI, jsh_RRR, jsh_IIII, jsh_IIIR, jsh_IIRI, jsh_IIRR, jsh_IRII, jsh_IRIR, jsh_IRRI, jsh_IRRR, jsh_RIII, jsh_RIIR, jsh_RIRI, jsh_RIRR, jsh_RRII, jsh_RRIR, jsh_RRRI, jsh_RRRR, jthr_hp, jc_l0, jc_lW, jc_lX, jc_lXW, jc_lVW, jc_lVX, jpush_n, jpush_s, obt_0, obt_1, och_0, och_32, och_100, och_115, och_104, och_33, och_43, och_60, jint, jbit, jchr, ijI, ijR, ijD, ijF, ↓reduceIte, Int.reduceEq, Int.reduceLT, reduceCtorEq, l0_bind, l0_ite, l0_none, l0_oix, l0_obt, l0_och, l0_sel, l0_oel, l0_some, f_Mod_total, X255L]
end
def f_Mod_totalStrength (m : jMem) : Option (Int × jMem) := (f_Mod_total (mset m 147 8 0)).bind fun x1 => some (x1, mset m 147 8 0)
section
variable {cf : jCf} {dv : UInt64}
set_option maxRecDepth 20000 in
set_option maxHeartbeats 4000000 in
theorem X256 (d : Nat) (m : jMem) (k : jM) : jme jT0 jMx (d + 3) 256 [jr (jn cf + 147)] (hp cf dv m, k) = lW cf dv k ijI (f_Mod_totalStrength m) := by
  simp only [M256, E256_0, E256_1, E256_2, E256_5, E256_6, E256_9, pf_147_8, X255, go_147, jsh_n, jsh_I, jsh_R, jsh_II, jsh_IR, jsh_RI, jsh_RR, jsh_III, jsh_IIR, jsh_IRI, jsh_IRR, jsh_RII, jsh_RIR, jsh_RRI, jsh_RRR, jsh_IIII, jsh_IIIR, jsh_IIRI, jsh_IIRR, jsh_IRII, jsh_IRIR, jsh_IRRI, jsh_IRRR, jsh_RIII, jsh_RIIR, jsh_RIRI, jsh_RIRR, jsh_RRII, jsh_RRIR, jsh_RRRI, jsh_RRRR, jthr_hp, jc_l0, jc_lW, jc_lX, jc_lXW, jc_lVW, jc_lVX, jpush_n, jpush_s, obt_0, obt_1, och_0, och_32, och_100, och_115, och_104, och_33, och_43, och_60, jint, jbit, jchr, ijI, ijR, ijD, ijF, ↓reduceIte, Int.reduceEq, Int.reduceLT, reduceCtorEq, lW_bind, lW_ite, lW_none, lW_oix, lW_obt, lW_och, lW_sel, lW_oel, lW_some, f_Mod_totalStrength]
end

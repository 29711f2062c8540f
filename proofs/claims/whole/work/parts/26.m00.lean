/-! ===== the model 0 ===== -/
section
variable (cl : Nat → List jV → jH → jR) (bk : Nat → jL → List jV → jH → jR) (n : Nat)
theorem E177_0 (a : Nat) (st : List jV) (w : jH) : jblk jT0 177 cl bk (n + 1) 0 [some (jr a)] st w = jblk jT0 177 cl bk n 1 [some (jr a)] (jr a :: st) w := rfl
theorem E177_1 (a : Nat) (st : List jV) (l0 : Option jV) (w : jH) : jblk jT0 177 cl bk (n + 1) 1 [l0] (jr a :: st) w = jgf w a 9 8 fun v => jblk jT0 177 cl bk n 4 [l0] (v :: st) w := rfl
theorem E177_4 (x : Int) (l0 : Option jV) (w : jH) : jblk jT0 177 cl bk (n + 1) 4 [l0] [.inl x] w = if jfits .int x = true then some (.inl (some (.inl x)), w) else none := rfl
theorem E178_0 (a : Nat) (st : List jV) (l1 : Option jV) (w : jH) : jblk jT0 178 cl bk (n + 1) 0 [some (jr a), l1] st w = jblk jT0 178 cl bk n 1 [some (jr a), l1] (jr a :: st) w := rfl
theorem E178_1 (x : Int) (st : List jV) (l0 : Option jV) (w : jH) : jblk jT0 178 cl bk (n + 1) 1 [l0, some (.inl x)] st w = jblk jT0 178 cl bk n 2 [l0, some (.inl x)] (.inl x :: st) w := rfl
theorem E178_2 (a : Nat) (v : jV) (st : List jV) (l0 l1 : Option jV) (w : jH) : jblk jT0 178 cl bk (n + 1) 2 [l0, l1] (v :: jr a :: st) w = jpf w a 9 8 .int v fun w' => jblk jT0 178 cl bk n 5 [l0, l1] st w' := rfl
theorem E178_5 (a : Nat) (st : List jV) (l1 : Option jV) (w : jH) : jblk jT0 178 cl bk (n + 1) 5 [some (jr a), l1] st w = jblk jT0 178 cl bk n 6 [some (jr a), l1] (jr a :: st) w := rfl
theorem E178_6 (st : List jV) (l0 l1 : Option jV) (w : jH) : jblk jT0 178 cl bk (n + 1) 6 [l0, l1] st w = jblk jT0 178 cl bk n 7 [l0, l1] (.inl 0 :: st) w := rfl
theorem E178_7 (a : Nat) (v : jV) (st : List jV) (l0 l1 : Option jV) (w : jH) : jblk jT0 178 cl bk (n + 1) 7 [l0, l1] (v :: jr a :: st) w = jpf w a 9 7 .boolean v fun w' => jblk jT0 178 cl bk n 10 [l0, l1] st w' := rfl
theorem E178_10 (x : Int) (st : List jV) (l0 : Option jV) (w : jH) : jblk jT0 178 cl bk (n + 1) 10 [l0, some (.inl x)] st w = jblk jT0 178 cl bk n 11 [l0, some (.inl x)] (.inl x :: st) w := rfl
theorem E178_11 (x : Int) (st : List jV) (l0 l1 : Option jV) (w : jH) : jblk jT0 178 cl bk (n + 1) 11 [l0, l1] (.inl x :: st) w = if 0 < x then jblk jT0 178 cl bk n 14 [l0, l1] st w else jblk jT0 178 cl bk n 18 [l0, l1] st w := rfl
theorem E178_14 (st : List jV) (l0 l1 : Option jV) (w : jH) : jblk jT0 178 cl bk (n + 1) 14 [l0, l1] st w = jblk jT0 178 cl bk n 15 [l0, l1] (.inl 1 :: st) w := rfl
theorem E178_15 (st : List jV) (l0 l1 : Option jV) (w : jH) : jblk jT0 178 cl bk (n + 1) 15 [l0, l1] st w = jblk jT0 178 cl bk n 19 [l0, l1] st w := rfl
theorem E178_18 (st : List jV) (l0 l1 : Option jV) (w : jH) : jblk jT0 178 cl bk (n + 1) 18 [l0, l1] st w = jblk jT0 178 cl bk n 19 [l0, l1] (.inl 0 :: st) w := rfl
theorem E178_19 (x : Int) (l0 l1 : Option jV) (w : jH) : jblk jT0 178 cl bk (n + 1) 19 [l0, l1] [.inl x] w = if jfits .boolean x = true then some (.inl (some (.inl x)), w) else none := rfl
theorem E179_0 (a : Nat) (st : List jV) (l1 l2 l3 : Option jV) (w : jH) : jblk jT0 179 cl bk (n + 1) 0 [some (jr a), l1, l2, l3] st w = jblk jT0 179 cl bk n 1 [some (jr a), l1, l2, l3] (jr a :: st) w := rfl
theorem E179_1 (x : Int) (st : List jV) (l0 l2 l3 : Option jV) (w : jH) : jblk jT0 179 cl bk (n + 1) 1 [l0, some (.inl x), l2, l3] st w = jblk jT0 179 cl bk n 2 [l0, some (.inl x), l2, l3] (.inl x :: st) w := rfl
theorem E179_2 (a : Nat) (v : jV) (st : List jV) (l0 l1 l2 l3 : Option jV) (w : jH) : jblk jT0 179 cl bk (n + 1) 2 [l0, l1, l2, l3] (v :: jr a :: st) w = jpf w a 9 8 .int v fun w' => jblk jT0 179 cl bk n 5 [l0, l1, l2, l3] st w' := rfl
theorem E179_5 (a : Nat) (st : List jV) (l1 l2 l3 : Option jV) (w : jH) : jblk jT0 179 cl bk (n + 1) 5 [some (jr a), l1, l2, l3] st w = jblk jT0 179 cl bk n 6 [some (jr a), l1, l2, l3] (jr a :: st) w := rfl
theorem E179_6 (st : List jV) (l0 l1 l2 l3 : Option jV) (w : jH) : jblk jT0 179 cl bk (n + 1) 6 [l0, l1, l2, l3] st w = jblk jT0 179 cl bk n 7 [l0, l1, l2, l3] (.inl 1 :: st) w := rfl
theorem E179_7 (a : Nat) (v : jV) (st : List jV) (l0 l1 l2 l3 : Option jV) (w : jH) : jblk jT0 179 cl bk (n + 1) 7 [l0, l1, l2, l3] (v :: jr a :: st) w = jpf w a 9 7 .boolean v fun w' => jblk jT0 179 cl bk n 10 [l0, l1, l2, l3] st w' := rfl
theorem E179_10 (a : Nat) (st : List jV) (l1 l2 l3 : Option jV) (w : jH) : jblk jT0 179 cl bk (n + 1) 10 [some (jr a), l1, l2, l3] st w = jblk jT0 179 cl bk n 11 [some (jr a), l1, l2, l3] (jr a :: st) w := rfl
theorem E179_11 (x : Int) (st : List jV) (l0 l1 l3 : Option jV) (w : jH) : jblk jT0 179 cl bk (n + 1) 11 [l0, l1, some (.inl x), l3] st w = jblk jT0 179 cl bk n 12 [l0, l1, some (.inl x), l3] (.inl x :: st) w := rfl
theorem E179_12 (a : Nat) (v : jV) (st : List jV) (l0 l1 l2 l3 : Option jV) (w : jH) : jblk jT0 179 cl bk (n + 1) 12 [l0, l1, l2, l3] (v :: jr a :: st) w = jpf w a 9 9 .int v fun w' => jblk jT0 179 cl bk n 15 [l0, l1, l2, l3] st w' := rfl
theorem E179_15 (a : Nat) (st : List jV) (l1 l2 l3 : Option jV) (w : jH) : jblk jT0 179 cl bk (n + 1) 15 [some (jr a), l1, l2, l3] st w = jblk jT0 179 cl bk n 16 [some (jr a), l1, l2, l3] (jr a :: st) w := rfl
theorem E179_16 (x : Int) (st : List jV) (l0 l1 l2 : Option jV) (w : jH) : jblk jT0 179 cl bk (n + 1) 16 [l0, l1, l2, some (.inl x)] st w = jblk jT0 179 cl bk n 17 [l0, l1, l2, some (.inl x)] (.inl x :: st) w := rfl
theorem E179_17 (a : Nat) (v : jV) (st : List jV) (l0 l1 l2 l3 : Option jV) (w : jH) : jblk jT0 179 cl bk (n + 1) 17 [l0, l1, l2, l3] (v :: jr a :: st) w = jpf w a 9 10 .int v fun w' => jblk jT0 179 cl bk n 20 [l0, l1, l2, l3] st w' := rfl
theorem E179_20 (a : Nat) (st : List jV) (l1 l2 l3 : Option jV) (w : jH) : jblk jT0 179 cl bk (n + 1) 20 [some (jr a), l1, l2, l3] st w = jblk jT0 179 cl bk n 21 [some (jr a), l1, l2, l3] (jr a :: st) w := rfl
theorem E179_21 (st : List jV) (l0 l1 l2 l3 : Option jV) (w : jH) : jblk jT0 179 cl bk (n + 1) 21 [l0, l1, l2, l3] st w = jblk jT0 179 cl bk n 22 [l0, l1, l2, l3] (.inl 0 :: st) w := rfl
theorem E179_22 (a : Nat) (v : jV) (st : List jV) (l0 l1 l2 l3 : Option jV) (w : jH) : jblk jT0 179 cl bk (n + 1) 22 [l0, l1, l2, l3] (v :: jr a :: st) w = jpf w a 9 11 .int v fun w' => jblk jT0 179 cl bk n 25 [l0, l1, l2, l3] st w' := rfl
theorem E179_25 (st : List jV) (l0 l1 l2 l3 : Option jV) (w : jH) : jblk jT0 179 cl bk (n + 1) 25 [l0, l1, l2, l3] st w = jblk jT0 179 cl bk n 26 [l0, l1, l2, l3] (.inl 0 :: st) w := rfl
theorem E179_26 (x : Int) (l0 l1 l2 l3 : Option jV) (w : jH) : jblk jT0 179 cl bk (n + 1) 26 [l0, l1, l2, l3] [.inl x] w = if jfits .int x = true then some (.inl (some (.inl x)), w) else none := rfl
theorem E180_0 (x : Int) (st : List jV) (l1 l2 : Option jV) (w : jH) : jblk jT0 180 cl bk (n + 1) 0 [some (.inl x), l1, l2] st w = jblk jT0 180 cl bk n 1 [some (.inl x), l1, l2] (.inl x :: st) w := rfl
theorem E180_1 (x : Int) (st : List jV) (l0 l2 : Option jV) (w : jH) : jblk jT0 180 cl bk (n + 1) 1 [l0, some (.inl x), l2] st w = jblk jT0 180 cl bk n 2 [l0, some (.inl x), l2] (.inl x :: st) w := rfl
theorem E180_2 (x : Int) (y : Int) (st : List jV) (l0 l1 l2 : Option jV) (w : jH) : jblk jT0 180 cl bk (n + 1) 2 [l0, l1, l2] (.inl y :: .inl x :: st) w = if x < y then jblk jT0 180 cl bk n 14 [l0, l1, l2] st w else jblk jT0 180 cl bk n 5 [l0, l1, l2] st w := rfl
theorem E180_5 (x : Int) (st : List jV) (l1 l2 : Option jV) (w : jH) : jblk jT0 180 cl bk (n + 1) 5 [some (.inl x), l1, l2] st w = jblk jT0 180 cl bk n 6 [some (.inl x), l1, l2] (.inl x :: st) w := rfl
theorem E180_6 (x : Int) (st : List jV) (l0 l1 : Option jV) (w : jH) : jblk jT0 180 cl bk (n + 1) 6 [l0, l1, some (.inl x)] st w = jblk jT0 180 cl bk n 7 [l0, l1, some (.inl x)] (.inl x :: st) w := rfl
theorem E180_7 (x : Int) (y : Int) (st : List jV) (l0 l1 l2 : Option jV) (w : jH) : jblk jT0 180 cl bk (n + 1) 7 [l0, l1, l2] (.inl y :: .inl x :: st) w = if y < x then jblk jT0 180 cl bk n 14 [l0, l1, l2] st w else jblk jT0 180 cl bk n 10 [l0, l1, l2] st w := rfl
theorem E180_10 (st : List jV) (l0 l1 l2 : Option jV) (w : jH) : jblk jT0 180 cl bk (n + 1) 10 [l0, l1, l2] st w = jblk jT0 180 cl bk n 11 [l0, l1, l2] (.inl 1 :: st) w := rfl
theorem E180_11 (st : List jV) (l0 l1 l2 : Option jV) (w : jH) : jblk jT0 180 cl bk (n + 1) 11 [l0, l1, l2] st w = jblk jT0 180 cl bk n 15 [l0, l1, l2] st w := rfl
theorem E180_14 (st : List jV) (l0 l1 l2 : Option jV) (w : jH) : jblk jT0 180 cl bk (n + 1) 14 [l0, l1, l2] st w = jblk jT0 180 cl bk n 15 [l0, l1, l2] (.inl 0 :: st) w := rfl
theorem E180_15 (x : Int) (l0 l1 l2 : Option jV) (w : jH) : jblk jT0 180 cl bk (n + 1) 15 [l0, l1, l2] [.inl x] w = if jfits .boolean x = true then some (.inl (some (.inl x)), w) else none := rfl
theorem E181_0 (x : Int) (st : List jV) (l1 : Option jV) (w : jH) : jblk jT0 181 cl bk (n + 1) 0 [some (.inl x), l1] st w = jblk jT0 181 cl bk n 1 [some (.inl x), l1] (.inl x :: st) w := rfl
theorem E181_1 (x : Int) (st : List jV) (l0 : Option jV) (w : jH) : jblk jT0 181 cl bk (n + 1) 1 [l0, some (.inl x)] st w = jblk jT0 181 cl bk n 2 [l0, some (.inl x)] (.inl x :: st) w := rfl
theorem E181_2 (x : Int) (y : Int) (st : List jV) (l0 l1 : Option jV) (w : jH) : jblk jT0 181 cl bk (n + 1) 2 [l0, l1] (.inl y :: .inl x :: st) w = if x < y then jblk jT0 181 cl bk n 5 [l0, l1] st w else jblk jT0 181 cl bk n 9 [l0, l1] st w := rfl
theorem E181_5 (x : Int) (st : List jV) (l1 : Option jV) (w : jH) : jblk jT0 181 cl bk (n + 1) 5 [some (.inl x), l1] st w = jblk jT0 181 cl bk n 6 [some (.inl x), l1] (.inl x :: st) w := rfl
theorem E181_6 (st : List jV) (l0 l1 : Option jV) (w : jH) : jblk jT0 181 cl bk (n + 1) 6 [l0, l1] st w = jblk jT0 181 cl bk n 10 [l0, l1] st w := rfl
theorem E181_9 (x : Int) (st : List jV) (l0 : Option jV) (w : jH) : jblk jT0 181 cl bk (n + 1) 9 [l0, some (.inl x)] st w = jblk jT0 181 cl bk n 10 [l0, some (.inl x)] (.inl x :: st) w := rfl
theorem E181_10 (x : Int) (l0 l1 : Option jV) (w : jH) : jblk jT0 181 cl bk (n + 1) 10 [l0, l1] [.inl x] w = if jfits .int x = true then some (.inl (some (.inl x)), w) else none := rfl
theorem E184_0 (x : Int) (st : List jV) (l0 : Option jV) (w : jH) : jblk jT0 184 cl bk (n + 1) 0 [l0, some (.inl x)] st w = jblk jT0 184 cl bk n 1 [l0, some (.inl x)] (.inl x :: st) w := rfl
theorem E184_1 (st : List jV) (l0 l1 : Option jV) (w : jH) : jblk jT0 184 cl bk (n + 1) 1 [l0, l1] st w = jblk jT0 184 cl bk n 2 [l0, l1] (.inl 0 :: st) w := rfl
theorem E184_2 (a : Nat) (st : List jV) (l1 : Option jV) (w : jH) : jblk jT0 184 cl bk (n + 1) 2 [some (jr a), l1] st w = jblk jT0 184 cl bk n 3 [some (jr a), l1] (jr a :: st) w := rfl
theorem E184_3 (a : Nat) (st : List jV) (l0 l1 : Option jV) (w : jH) : jblk jT0 184 cl bk (n + 1) 3 [l0, l1] (jr a :: st) w = jgf w a 9 0 fun v => jblk jT0 184 cl bk n 6 [l0, l1] (v :: st) w := rfl
theorem E184_6 (st : List jV) (l0 l1 : Option jV) (w : jH) : jblk jT0 184 cl bk (n + 1) 6 [l0, l1] st w = jblk jT0 184 cl bk n 7 [l0, l1] (.inl 0 :: st) w := rfl
theorem E184_7 (x : Int) (a : Nat) (st : List jV) (l0 l1 : Option jV) (w : jH) : jblk jT0 184 cl bk (n + 1) 7 [l0, l1] (.inl x :: jr a :: st) w = jlda w a x (fun z => jblk jT0 184 cl bk n 8 [l0, l1] (.inl z :: st) w) := rfl
theorem E184_8 (st : List jV) (l0 l1 : Option jV) (w : jH) : jblk jT0 184 cl bk (n + 1) 8 [l0, l1] st w = jblk jT0 184 cl bk n 9 [l0, l1] (.inl 1 :: st) w := rfl
theorem E184_9 (x : Int) (y : Int) (st : List jV) (l0 l1 : Option jV) (w : jH) : jblk jT0 184 cl bk (n + 1) 9 [l0, l1] (.inl y :: .inl x :: st) w = jblk jT0 184 cl bk n 10 [l0, l1] (.inl (jw (x - y)) :: st) w := rfl
theorem E184_10 (v0 : jV) (v1 : jV) (v2 : jV) (st : List jV) (l0 l1 : Option jV) (w : jH) : jblk jT0 184 cl bk (n + 1) 10 [l0, l1] (v2 :: v1 :: v0 :: st) w = jsh st (jcl (cl 180 [v0, v1, v2] w) (fun v w' => jblk jT0 184 cl bk n 13 [l0, l1] (jpush v st) w') (fun E w' => some (.inr E, w'))) := rfl
theorem E184_13 (x : Int) (l0 l1 : Option jV) (w : jH) : jblk jT0 184 cl bk (n + 1) 13 [l0, l1] [.inl x] w = if jfits .boolean x = true then some (.inl (some (.inl x)), w) else none := rfl
theorem E185_0 (a : Nat) (st : List jV) (l1 l2 : Option jV) (w : jH) : jblk jT0 185 cl bk (n + 1) 0 [some (jr a), l1, l2] st w = jblk jT0 185 cl bk n 1 [some (jr a), l1, l2] (jr a :: st) w := rfl
theorem E185_1 (x : Int) (st : List jV) (l0 l2 : Option jV) (w : jH) : jblk jT0 185 cl bk (n + 1) 1 [l0, some (.inl x), l2] st w = jblk jT0 185 cl bk n 2 [l0, some (.inl x), l2] (.inl x :: st) w := rfl
theorem E185_2 (a : Nat) (v0 : jV) (st : List jV) (l0 l1 l2 : Option jV) (w : jH) : jblk jT0 185 cl bk (n + 1) 2 [l0, l1, l2] (v0 :: jr a :: st) w = jsh st (jgo w a 9 fun _ => jcl (cl 184 [jr a, v0] w) (fun v w' => jblk jT0 185 cl bk n 5 [l0, l1, l2] (jpush v st) w') (fun E w' => some (.inr E, w'))) := rfl
theorem E185_5 (x : Int) (st : List jV) (l0 l1 l2 : Option jV) (w : jH) : jblk jT0 185 cl bk (n + 1) 5 [l0, l1, l2] (.inl x :: st) w = if x = 0 then jblk jT0 185 cl bk n 20 [l0, l1, l2] st w else jblk jT0 185 cl bk n 8 [l0, l1, l2] st w := rfl
theorem E185_8 (a : Nat) (st : List jV) (l1 l2 : Option jV) (w : jH) : jblk jT0 185 cl bk (n + 1) 8 [some (jr a), l1, l2] st w = jblk jT0 185 cl bk n 9 [some (jr a), l1, l2] (jr a :: st) w := rfl
theorem E185_9 (x : Int) (st : List jV) (l0 l1 : Option jV) (w : jH) : jblk jT0 185 cl bk (n + 1) 9 [l0, l1, some (.inl x)] st w = jblk jT0 185 cl bk n 10 [l0, l1, some (.inl x)] (.inl x :: st) w := rfl
theorem E185_10 (a : Nat) (v0 : jV) (st : List jV) (l0 l1 l2 : Option jV) (w : jH) : jblk jT0 185 cl bk (n + 1) 10 [l0, l1, l2] (v0 :: jr a :: st) w = jsh st (jgo w a 9 fun _ => jcl (cl 184 [jr a, v0] w) (fun v w' => jblk jT0 185 cl bk n 13 [l0, l1, l2] (jpush v st) w') (fun E w' => some (.inr E, w'))) := rfl
theorem E185_13 (x : Int) (st : List jV) (l0 l1 l2 : Option jV) (w : jH) : jblk jT0 185 cl bk (n + 1) 13 [l0, l1, l2] (.inl x :: st) w = if x = 0 then jblk jT0 185 cl bk n 20 [l0, l1, l2] st w else jblk jT0 185 cl bk n 16 [l0, l1, l2] st w := rfl
theorem E185_16 (st : List jV) (l0 l1 l2 : Option jV) (w : jH) : jblk jT0 185 cl bk (n + 1) 16 [l0, l1, l2] st w = jblk jT0 185 cl bk n 17 [l0, l1, l2] (.inl 1 :: st) w := rfl
theorem E185_17 (st : List jV) (l0 l1 l2 : Option jV) (w : jH) : jblk jT0 185 cl bk (n + 1) 17 [l0, l1, l2] st w = jblk jT0 185 cl bk n 21 [l0, l1, l2] st w := rfl
theorem E185_20 (st : List jV) (l0 l1 l2 : Option jV) (w : jH) : jblk jT0 185 cl bk (n + 1) 20 [l0, l1, l2] st w = jblk jT0 185 cl bk n 21 [l0, l1, l2] (.inl 0 :: st) w := rfl
theorem E185_21 (x : Int) (l0 l1 l2 : Option jV) (w : jH) : jblk jT0 185 cl bk (n + 1) 21 [l0, l1, l2] [.inl x] w = if jfits .boolean x = true then some (.inl (some (.inl x)), w) else none := rfl
theorem E186_0 (a : Nat) (st : List jV) (l1 : Option jV) (w : jH) : jblk jT0 186 cl bk (n + 1) 0 [some (jr a), l1] st w = jblk jT0 186 cl bk n 1 [some (jr a), l1] (jr a :: st) w := rfl
theorem E186_1 (a : Nat) (st : List jV) (l0 l1 : Option jV) (w : jH) : jblk jT0 186 cl bk (n + 1) 1 [l0, l1] (jr a :: st) w = jgf w a 9 0 fun v => jblk jT0 186 cl bk n 4 [l0, l1] (v :: st) w := rfl
theorem E186_4 (st : List jV) (l0 l1 : Option jV) (w : jH) : jblk jT0 186 cl bk (n + 1) 4 [l0, l1] st w = jblk jT0 186 cl bk n 6 [l0, l1] (.inl 6 :: st) w := rfl
theorem E186_6 (st : List jV) (l0 l1 : Option jV) (w : jH) : jblk jT0 186 cl bk (n + 1) 6 [l0, l1] st w = jblk jT0 186 cl bk n 7 [l0, l1] (.inl 2 :: st) w := rfl
theorem E186_7 (x : Int) (st : List jV) (l0 : Option jV) (w : jH) : jblk jT0 186 cl bk (n + 1) 7 [l0, some (.inl x)] st w = jblk jT0 186 cl bk n 8 [l0, some (.inl x)] (.inl x :: st) w := rfl
theorem E186_8 (x : Int) (y : Int) (st : List jV) (l0 l1 : Option jV) (w : jH) : jblk jT0 186 cl bk (n + 1) 8 [l0, l1] (.inl y :: .inl x :: st) w = jblk jT0 186 cl bk n 9 [l0, l1] (.inl (jw (x * y)) :: st) w := rfl
theorem E186_9 (x : Int) (y : Int) (st : List jV) (l0 l1 : Option jV) (w : jH) : jblk jT0 186 cl bk (n + 1) 9 [l0, l1] (.inl y :: .inl x :: st) w = jblk jT0 186 cl bk n 10 [l0, l1] (.inl (jw (x + y)) :: st) w := rfl
theorem E186_10 (st : List jV) (l0 l1 : Option jV) (w : jH) : jblk jT0 186 cl bk (n + 1) 10 [l0, l1] st w = jblk jT0 186 cl bk n 11 [l0, l1] (.inl 0 :: st) w := rfl
theorem E186_11 (x : Int) (y : Int) (st : List jV) (l0 l1 : Option jV) (w : jH) : jblk jT0 186 cl bk (n + 1) 11 [l0, l1] (.inl y :: .inl x :: st) w = jblk jT0 186 cl bk n 12 [l0, l1] (.inl (jw (x + y)) :: st) w := rfl
theorem E186_12 (x : Int) (a : Nat) (st : List jV) (l0 l1 : Option jV) (w : jH) : jblk jT0 186 cl bk (n + 1) 12 [l0, l1] (.inl x :: jr a :: st) w = jlda w a x (fun z => jblk jT0 186 cl bk n 13 [l0, l1] (.inl z :: st) w) := rfl
theorem E186_13 (x : Int) (l0 l1 : Option jV) (w : jH) : jblk jT0 186 cl bk (n + 1) 13 [l0, l1] [.inl x] w = if jfits .int x = true then some (.inl (some (.inl x)), w) else none := rfl
end
theorem M177 (d : Nat) (r0 : Nat) (w : jH) : jme jT0 jMx (d + 1) 177 [jr r0] w = jblk jT0 177 (jme jT0 jMx d) (jlp jT0 177 (jme jT0 jMx d) 99999) 4000 0 [some (jr r0)] [] w := (show _ = jlp jT0 177 (jme jT0 jMx d) 100000 0 [some (jr r0)] [] w from rfl).trans jlp_s
theorem M178 (d : Nat) (r0 : Nat) (a1 : Int) (w : jH) : jme jT0 jMx (d + 1) 178 [jr r0, .inl a1] w = jblk jT0 178 (jme jT0 jMx d) (jlp jT0 178 (jme jT0 jMx d) 99999) 4000 0 [some (jr r0), some (.inl a1)] [] w := (show _ = jlp jT0 178 (jme jT0 jMx d) 100000 0 [some (jr r0), some (.inl a1)] [] w from rfl).trans jlp_s
theorem M179 (d : Nat) (r0 : Nat) (a1 : Int) (a2 : Int) (a3 : Int) (w : jH) : jme jT0 jMx (d + 1) 179 [jr r0, .inl a1, .inl a2, .inl a3] w = jblk jT0 179 (jme jT0 jMx d) (jlp jT0 179 (jme jT0 jMx d) 99999) 4000 0 [some (jr r0), some (.inl a1), some (.inl a2), some (.inl a3)] [] w := (show _ = jlp jT0 179 (jme jT0 jMx d) 100000 0 [some (jr r0), some (.inl a1), some (.inl a2), some (.inl a3)] [] w from rfl).trans jlp_s
theorem M180 (d : Nat) (a0 : Int) (a1 : Int) (a2 : Int) (w : jH) : jme jT0 jMx (d + 1) 180 [.inl a0, .inl a1, .inl a2] w = jblk jT0 180 (jme jT0 jMx d) (jlp jT0 180 (jme jT0 jMx d) 99999) 4000 0 [some (.inl a0), some (.inl a1), some (.inl a2)] [] w := (show _ = jlp jT0 180 (jme jT0 jMx d) 100000 0 [some (.inl a0), some (.inl a1), some (.inl a2)] [] w from rfl).trans jlp_s
theorem M181 (d : Nat) (a0 : Int) (a1 : Int) (w : jH) : jme jT0 jMx (d + 1) 181 [.inl a0, .inl a1] w = jblk jT0 181 (jme jT0 jMx d) (jlp jT0 181 (jme jT0 jMx d) 99999) 4000 0 [some (.inl a0), some (.inl a1)] [] w := (show _ = jlp jT0 181 (jme jT0 jMx d) 100000 0 [some (.inl a0), some (.inl a1)] [] w from rfl).trans jlp_s
theorem M184 (d : Nat) (r0 : Nat) (a1 : Int) (w : jH) : jme jT0 jMx (d + 1) 184 [jr r0, .inl a1] w = jblk jT0 184 (jme jT0 jMx d) (jlp jT0 184 (jme jT0 jMx d) 99999) 4000 0 [some (jr r0), some (.inl a1)] [] w := (show _ = jlp jT0 184 (jme jT0 jMx d) 100000 0 [some (jr r0), some (.inl a1)] [] w from rfl).trans jlp_s
theorem M185 (d : Nat) (r0 : Nat) (a1 : Int) (a2 : Int) (w : jH) : jme jT0 jMx (d + 1) 185 [jr r0, .inl a1, .inl a2] w = jblk jT0 185 (jme jT0 jMx d) (jlp jT0 185 (jme jT0 jMx d) 99999) 4000 0 [some (jr r0), some (.inl a1), some (.inl a2)] [] w := (show _ = jlp jT0 185 (jme jT0 jMx d) 100000 0 [some (jr r0), some (.inl a1), some (.inl a2)] [] w from rfl).trans jlp_s
theorem M186 (d : Nat) (r0 : Nat) (a1 : Int) (w : jH) : jme jT0 jMx (d + 1) 186 [jr r0, .inl a1] w = jblk jT0 186 (jme jT0 jMx d) (jlp jT0 186 (jme jT0 jMx d) 99999) 4000 0 [some (jr r0), some (.inl a1)] [] w := (show _ = jlp jT0 186 (jme jT0 jMx d) 100000 0 [some (jr r0), some (.inl a1)] [] w from rfl).trans jlp_s
def f_Mod_thrown (m : jMem) : Option Int := some (m 147 8)
section
variable {cf : jCf} {dv : UInt64}
set_option maxRecDepth 20000 in
set_option maxHeartbeats 4000000 in
theorem X177 (d : Nat) (m : jMem) (k : jM) : jme jT0 jMx (d + 1) 177 [jr (jn cf + 147)] (hp cf dv m, k) = l0 cf dv m k ijI (f_Mod_thrown m) := by
  simp only [M177, E177_0, E177_1, E177_4, gf_147_8, jsh_n, jsh_I, jsh_R, jsh_II, jsh_IR, jsh_RI, jsh_RR, jsh_III, jsh_IIR, jsh_IRI, jsh_IRR, jsh_RII, jsh_RIR, jsh_RRI, jsh_RRR, jsh_IIII, jsh_IIIR, jsh_IIRI, jsh_IIRR, jsh_IRII, jsh_IRIR, jsh_IRRI, jsh_IRRR, jsh_RIII, jsh_RIIR, jsh_RIRI, jsh_RIRR, jsh_RRII, jsh_RRIR, jsh_RRRI, jsh_RRRR, jthr_hp, jc_l0, jc_lW, jc_lX, jc_lXW, jc_lVW, jc_lVX, jpush_n, jpush_s, obt_0, obt_1, och_0, och_32, och_100, och_115, och_104, och_33, och_43, och_60, jint, jbit, jchr, ijI, ijR, ijD, ijF, ↓reduceIte, Int.reduceEq, Int.reduceLT, reduceCtorEq, l0_bind, l0_ite, l0_none, l0_oix, l0_obt, l0_och, l0_sel, l0_oel, l0_some, f_Mod_thrown]
end
def f_Mod_fails (m : jMem) (a1 : Int) : Option (Int × jMem) := if 0 < a1 then some (1, mset (mset m 147 8 a1) 147 7 0) else some (0, mset (mset m 147 8 a1) 147 7 0)
section
variable {cf : jCf} {dv : UInt64}
set_option maxRecDepth 20000 in
set_option maxHeartbeats 4000000 in
theorem X178 (d : Nat) (a1 : Int) (m : jMem) (k : jM) : jme jT0 jMx (d + 1) 178 [jr (jn cf + 147), .inl a1] (hp cf dv m, k) = lW cf dv k ijI (f_Mod_fails m a1) := by
  simp only [M178, E178_0, E178_1, E178_2, E178_5, E178_6, E178_7, E178_10, E178_11, E178_14, E178_15, E178_18, E178_19, pf_147_7, pf_147_8, jsh_n, jsh_I, jsh_R, jsh_II, jsh_IR, jsh_RI, jsh_RR, jsh_III, jsh_IIR, jsh_IRI, jsh_IRR, jsh_RII, jsh_RIR, jsh_RRI, jsh_RRR, jsh_IIII, jsh_IIIR, jsh_IIRI, jsh_IIRR, jsh_IRII, jsh_IRIR, jsh_IRRI, jsh_IRRR, jsh_RIII, jsh_RIIR, jsh_RIRI, jsh_RIRR, jsh_RRII, jsh_RRIR, jsh_RRRI, jsh_RRRR, jthr_hp, jc_l0, jc_lW, jc_lX, jc_lXW, jc_lVW, jc_lVX, jpush_n, jpush_s, obt_0, obt_1, och_0, och_32, och_100, och_115, och_104, och_33, och_43, och_60, jint, jbit, jchr, ijI, ijR, ijD, ijF, ↓reduceIte, Int.reduceEq, Int.reduceLT, reduceCtorEq, lW_bind, lW_ite, lW_none, lW_oix, lW_obt, lW_och, lW_sel, lW_oel, lW_some, f_Mod_fails]
end
def f_Mod_rejects (m : jMem) (a1 : Int) (a2 : Int) (a3 : Int) : Option (Int × jMem) := some (0, mset (mset (mset (mset (mset m 147 8 a1) 147 7 1) 147 9 a2) 147 10 a3) 147 11 0)
section
variable {cf : jCf} {dv : UInt64}
set_option maxRecDepth 20000 in
set_option maxHeartbeats 4000000 in
theorem X179 (d : Nat) (a1 : Int) (a2 : Int) (a3 : Int) (m : jMem) (k : jM) : jme jT0 jMx (d + 1) 179 [jr (jn cf + 147), .inl a1, .inl a2, .inl a3] (hp cf dv m, k) = lW cf dv k ijI (f_Mod_rejects m a1 a2 a3) := by
  simp only [M179, E179_0, E179_1, E179_2, E179_5, E179_6, E179_7, E179_10, E179_11, E179_12, E179_15, E179_16, E179_17, E179_20, E179_21, E179_22, E179_25, E179_26, pf_147_10, pf_147_11, pf_147_7, pf_147_8, pf_147_9, jsh_n, jsh_I, jsh_R, jsh_II, jsh_IR, jsh_RI, jsh_RR, jsh_III, jsh_IIR, jsh_IRI, jsh_IRR, jsh_RII, jsh_RIR, jsh_RRI, jsh_RRR, jsh_IIII, jsh_IIIR, jsh_IIRI, jsh_IIRR, jsh_IRII, jsh_IRIR, jsh_IRRI, jsh_IRRR, jsh_RIII, jsh_RIIR, jsh_RIRI, jsh_RIRR, jsh_RRII, jsh_RRIR, jsh_RRRI, jsh_RRRR, jthr_hp, jc_l0, jc_lW, jc_lX, jc_lXW, jc_lVW, jc_lVX, jpush_n, jpush_s, obt_0, obt_1, och_0, och_32, och_100, och_115, och_104, och_33, och_43, och_60, jint, jbit, jchr, ijI, ijR, ijD, ijF, ↓reduceIte, Int.reduceEq, Int.reduceLT, reduceCtorEq, lW_bind, lW_ite, lW_none, lW_oix, lW_obt, lW_och, lW_sel, lW_oel, lW_some, f_Mod_rejects]
end
def f_Mod_in (m : jMem) (a0 : Int) (a1 : Int) (a2 : Int) : Option Int := if a0 < a1 then some 0 else if a2 < a0 then some 0 else some 1
section
variable {cf : jCf} {dv : UInt64}
set_option maxRecDepth 20000 in
set_option maxHeartbeats 4000000 in
theorem X180 (d : Nat) (a0 : Int) (a1 : Int) (a2 : Int) (m : jMem) (k : jM) : jme jT0 jMx (d + 1) 180 [.inl a0, .inl a1, .inl a2] (hp cf dv m, k) = l0 cf dv m k ijI (f_Mod_in m a0 a1 a2) := by
  simp only [M180, E180_0, E180_1, E180_2, E180_5, E180_6, E180_7, E180_10, E180_11, E180_14, E180_15, jsh_n, jsh_I, jsh_R, jsh_II, jsh_IR, jsh_RI, jsh_RR, jsh_III, jsh_IIR, jsh_IRI, jsh_IRR, jsh_RII, jsh_RIR, jsh_RRI, jsh_RRR, jsh_IIII, jsh_IIIR, jsh_IIRI, jsh_IIRR, jsh_IRII, jsh_IRIR, jsh_IRRI, jsh_IRRR, jsh_RIII, jsh_RIIR, jsh_RIRI, jsh_RIRR, jsh_RRII, jsh_RRIR, jsh_RRRI, jsh_RRRR, jthr_hp, jc_l0, jc_lW, jc_lX, jc_lXW, jc_lVW, jc_lVX, jpush_n, jpush_s, obt_0, obt_1, och_0, och_32, och_100, och_115, och_104, och_33, och_43, och_60, jint, jbit, jchr, ijI, ijR, ijD, ijF, ↓reduceIte, Int.reduceEq, Int.reduceLT, reduceCtorEq, l0_bind, l0_ite, l0_none, l0_oix, l0_obt, l0_och, l0_sel, l0_oel, l0_some, f_Mod_in]
end
def f_Mod_least (m : jMem) (a0 : Int) (a1 : Int) : Option Int := if a0 < a1 then some a0 else some a1
section
variable {cf : jCf} {dv : UInt64}
set_option maxRecDepth 20000 in
set_option maxHeartbeats 4000000 in
theorem X181 (d : Nat) (a0 : Int) (a1 : Int) (m : jMem) (k : jM) : jme jT0 jMx (d + 1) 181 [.inl a0, .inl a1] (hp cf dv m, k) = l0 cf dv m k ijI (f_Mod_least m a0 a1) := by
  simp only [M181, E181_0, E181_1, E181_2, E181_5, E181_6, E181_9, E181_10, jsh_n, jsh_I, jsh_R, jsh_II, jsh_IR, jsh_RI, jsh_RR, jsh_III, jsh_IIR, jsh_IRI, jsh_IRR, jsh_RII, jsh_RIR, jsh_RRI, jsh_RRR, jsh_IIII, jsh_IIIR, jsh_IIRI, jsh_IIRR, jsh_IRII, jsh_IRIR, jsh_IRRI, jsh_IRRR, jsh_RIII, jsh_RIIR, jsh_RIRI, jsh_RIRR, jsh_RRII, jsh_RRIR, jsh_RRRI, jsh_RRRR, jthr_hp, jc_l0, jc_lW, jc_lX, jc_lXW, jc_lVW, jc_lVX, jpush_n, jpush_s, obt_0, obt_1, och_0, och_32, och_100, och_115, och_104, och_33, och_43, och_60, jint, jbit, jchr, ijI, ijR, ijD, ijF, ↓reduceIte, Int.reduceEq, Int.reduceLT, reduceCtorEq, l0_bind, l0_ite, l0_none, l0_oix, l0_obt, l0_och, l0_sel, l0_oel, l0_some, f_Mod_least]
end
def f_Mod_isPerson (m : jMem) (a1 : Int) : Option Int := oix (0 : Int) 138 ((f_Mod_in m a1 0 (jw ((m 148 (0 : Int).toNat) - 1))).bind fun x1 => obt x1 (some x1))
section
variable {cf : jCf} {dv : UInt64}
set_option maxRecDepth 20000 in
set_option maxHeartbeats 4000000 in
theorem X184 (d : Nat) (a1 : Int) (m : jMem) (k : jM) : jme jT0 jMx (d + 2) 184 [jr (jn cf + 147), .inl a1] (hp cf dv m, k) = l0 cf dv m k ijI (f_Mod_isPerson m a1) := by
  simp only [M184, E184_0, E184_1, E184_2, E184_3, E184_6, E184_7, E184_8, E184_9, E184_10, E184_13, ai_148, gf_147_0, X180, jsh_n, jsh_I, jsh_R, jsh_II, jsh_IR, jsh_RI, jsh_RR, jsh_III, jsh_IIR, jsh_IRI, jsh_IRR, jsh_RII, jsh_RIR, jsh_RRI, jsh_RRR, jsh_IIII, jsh_IIIR, jsh_IIRI, jsh_IIRR, jsh_IRII, jsh_IRIR, jsh_IRRI, jsh_IRRR, jsh_RIII, jsh_RIIR, jsh_RIRI, jsh_RIRR, jsh_RRII, jsh_RRIR, jsh_RRRI, jsh_RRRR, jthr_hp, jc_l0, jc_lW, jc_lX, jc_lXW, jc_lVW, jc_lVX, jpush_n, jpush_s, obt_0, obt_1, och_0, och_32, och_100, och_115, och_104, och_33, och_43, och_60, jint, jbit, jchr, ijI, ijR, ijD, ijF, ↓reduceIte, Int.reduceEq, Int.reduceLT, reduceCtorEq, l0_bind, l0_ite, l0_none, l0_oix, l0_obt, l0_och, l0_sel, l0_oel, l0_some, f_Mod_isPerson]
end
def f_Mod_arePeople (m : jMem) (a1 : Int) (a2 : Int) : Option Int := (f_Mod_isPerson m a1).bind fun x1 => if x1 = 0 then some 0 else (f_Mod_isPerson m a2).bind fun x2 => if x2 = 0 then some 0 else some 1
section
variable {cf : jCf} {dv : UInt64}
set_option maxRecDepth 20000 in
set_option maxHeartbeats 4000000 in
theorem X185 (d : Nat) (a1 : Int) (a2 : Int) (m : jMem) (k : jM) : jme jT0 jMx (d + 3) 185 [jr (jn cf + 147), .inl a1, .inl a2] (hp cf dv m, k) = l0 cf dv m k ijI (f_Mod_arePeople m a1 a2) := by
  simp only [M185, E185_0, E185_1, E185_2, E185_5, E185_8, E185_9, E185_10, E185_13, E185_16, E185_17, E185_20, E185_21, X184, go_147, jsh_n, jsh_I, jsh_R, jsh_II, jsh_IR, jsh_RI, jsh_RR, jsh_III, jsh_IIR, jsh_IRI, jsh_IRR, jsh_RII, jsh_RIR, jsh_RRI, jsh_RRR, jsh_IIII, jsh_IIIR, jsh_IIRI, jsh_IIRR, jsh_IRII, jsh_IRIR, jsh_IRRI, jsh_IRRR, jsh_RIII, jsh_RIIR, jsh_RIRI, jsh_RIRR, jsh_RRII, jsh_RRIR, jsh_RRRI, jsh_RRRR, jthr_hp, jc_l0, jc_lW, jc_lX, jc_lXW, jc_lVW, jc_lVX, jpush_n, jpush_s, obt_0, obt_1, och_0, och_32, och_100, och_115, och_104, och_33, och_43, och_60, jint, jbit, jchr, ijI, ijR, ijD, ijF, ↓reduceIte, Int.reduceEq, Int.reduceLT, reduceCtorEq, l0_bind, l0_ite, l0_none, l0_oix, l0_obt, l0_och, l0_sel, l0_oel, l0_some, f_Mod_arePeople]
end
def f_Mod_parent (m : jMem) (a1 : Int) : Option Int := oix (jw ((jw (6 + (jw (2 * a1)))) + 0)) 138 (some (m 148 (jw ((jw (6 + (jw (2 * a1)))) + 0)).toNat))
section
variable {cf : jCf} {dv : UInt64}
set_option maxRecDepth 20000 in
set_option maxHeartbeats 4000000 in
theorem X186 (d : Nat) (a1 : Int) (m : jMem) (k : jM) : jme jT0 jMx (d + 1) 186 [jr (jn cf + 147), .inl a1] (hp cf dv m, k) = l0 cf dv m k ijI (f_Mod_parent m a1) := by
  simp only [M186, E186_0, E186_1, E186_4, E186_6, E186_7, E186_8, E186_9, E186_10, E186_11, E186_12, E186_13, ai_148, gf_147_0, jsh_n, jsh_I, jsh_R, jsh_II, jsh_IR, jsh_RI, jsh_RR, jsh_III, jsh_IIR, jsh_IRI, jsh_IRR, jsh_RII, jsh_RIR, jsh_RRI, jsh_RRR, jsh_IIII, jsh_IIIR, jsh_IIRI, jsh_IIRR, jsh_IRII, jsh_IRIR, jsh_IRRI, jsh_IRRR, jsh_RIII, jsh_RIIR, jsh_RIRI, jsh_RIRR, jsh_RRII, jsh_RRIR, jsh_RRRI, jsh_RRRR, jthr_hp, jc_l0, jc_lW, jc_lX, jc_lXW, jc_lVW, jc_lVX, jpush_n, jpush_s, obt_0, obt_1, och_0, och_32, och_100, och_115, och_104, och_33, och_43, och_60, jint, jbit, jchr, ijI, ijR, ijD, ijF, ↓reduceIte, Int.reduceEq, Int.reduceLT, reduceCtorEq, l0_bind, l0_ite, l0_none, l0_oix, l0_obt, l0_och, l0_sel, l0_oel, l0_some, f_Mod_parent]
end

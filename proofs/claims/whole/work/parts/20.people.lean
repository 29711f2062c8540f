/-! ===== people ===== -/
section
variable (cl : Nat → List jV → jH → jR) (bk : Nat → jL → List jV → jH → jR) (n : Nat)
theorem E1_0 (x : Int) (st : List jV) (l0 : Option jV) (w : jH) : jblk jT0 1 cl bk (n + 1) 0 [l0, some (.inl x)] st w = jblk jT0 1 cl bk n 1 [l0, some (.inl x)] (.inl x :: st) w := rfl
theorem E1_1 (x : Int) (st : List jV) (l0 l1 : Option jV) (w : jH) : jblk jT0 1 cl bk (n + 1) 1 [l0, l1] (.inl x :: st) w = if x < 0 then jblk jT0 1 cl bk n 16 [l0, l1] st w else jblk jT0 1 cl bk n 4 [l0, l1] st w := rfl
theorem E1_4 (x : Int) (st : List jV) (l0 : Option jV) (w : jH) : jblk jT0 1 cl bk (n + 1) 4 [l0, some (.inl x)] st w = jblk jT0 1 cl bk n 5 [l0, some (.inl x)] (.inl x :: st) w := rfl
theorem E1_5 (a : Nat) (st : List jV) (l1 : Option jV) (w : jH) : jblk jT0 1 cl bk (n + 1) 5 [some (jr a), l1] st w = jblk jT0 1 cl bk n 6 [some (jr a), l1] (jr a :: st) w := rfl
theorem E1_6 (a : Nat) (st : List jV) (l0 l1 : Option jV) (w : jH) : jblk jT0 1 cl bk (n + 1) 6 [l0, l1] (jr a :: st) w = jgf w a 0 4 fun v => jblk jT0 1 cl bk n 9 [l0, l1] (v :: st) w := rfl
theorem E1_9 (x : Int) (y : Int) (st : List jV) (l0 l1 : Option jV) (w : jH) : jblk jT0 1 cl bk (n + 1) 9 [l0, l1] (.inl y :: .inl x :: st) w = if x < y then jblk jT0 1 cl bk n 12 [l0, l1] st w else jblk jT0 1 cl bk n 16 [l0, l1] st w := rfl
theorem E1_12 (st : List jV) (l0 l1 : Option jV) (w : jH) : jblk jT0 1 cl bk (n + 1) 12 [l0, l1] st w = jblk jT0 1 cl bk n 13 [l0, l1] (.inl 1 :: st) w := rfl
theorem E1_13 (st : List jV) (l0 l1 : Option jV) (w : jH) : jblk jT0 1 cl bk (n + 1) 13 [l0, l1] st w = jblk jT0 1 cl bk n 17 [l0, l1] st w := rfl
theorem E1_16 (st : List jV) (l0 l1 : Option jV) (w : jH) : jblk jT0 1 cl bk (n + 1) 16 [l0, l1] st w = jblk jT0 1 cl bk n 17 [l0, l1] (.inl 0 :: st) w := rfl
theorem E1_17 (x : Int) (l0 l1 : Option jV) (w : jH) : jblk jT0 1 cl bk (n + 1) 17 [l0, l1] [.inl x] w = if jfits .boolean x = true then some (.inl (some (.inl x)), w) else none := rfl
theorem E2_0 (x : Int) (st : List jV) (l0 : Option jV) (w : jH) : jblk jT0 2 cl bk (n + 1) 0 [l0, some (.inl x)] st w = jblk jT0 2 cl bk n 1 [l0, some (.inl x)] (.inl x :: st) w := rfl
theorem E2_1 (x : Int) (st : List jV) (l0 l1 : Option jV) (w : jH) : jblk jT0 2 cl bk (n + 1) 1 [l0, l1] (.inl x :: st) w = if x < 0 then jblk jT0 2 cl bk n 25 [l0, l1] st w else jblk jT0 2 cl bk n 4 [l0, l1] st w := rfl
theorem E2_4 (x : Int) (st : List jV) (l0 : Option jV) (w : jH) : jblk jT0 2 cl bk (n + 1) 4 [l0, some (.inl x)] st w = jblk jT0 2 cl bk n 5 [l0, some (.inl x)] (.inl x :: st) w := rfl
theorem E2_5 (a : Nat) (st : List jV) (l1 : Option jV) (w : jH) : jblk jT0 2 cl bk (n + 1) 5 [some (jr a), l1] st w = jblk jT0 2 cl bk n 6 [some (jr a), l1] (jr a :: st) w := rfl
theorem E2_6 (a : Nat) (st : List jV) (l0 l1 : Option jV) (w : jH) : jblk jT0 2 cl bk (n + 1) 6 [l0, l1] (jr a :: st) w = jgf w a 0 4 fun v => jblk jT0 2 cl bk n 9 [l0, l1] (v :: st) w := rfl
theorem E2_9 (x : Int) (y : Int) (st : List jV) (l0 l1 : Option jV) (w : jH) : jblk jT0 2 cl bk (n + 1) 9 [l0, l1] (.inl y :: .inl x :: st) w = if x < y then jblk jT0 2 cl bk n 12 [l0, l1] st w else jblk jT0 2 cl bk n 25 [l0, l1] st w := rfl
theorem E2_12 (a : Nat) (st : List jV) (l1 : Option jV) (w : jH) : jblk jT0 2 cl bk (n + 1) 12 [some (jr a), l1] st w = jblk jT0 2 cl bk n 13 [some (jr a), l1] (jr a :: st) w := rfl
theorem E2_13 (a : Nat) (st : List jV) (l0 l1 : Option jV) (w : jH) : jblk jT0 2 cl bk (n + 1) 13 [l0, l1] (jr a :: st) w = jgf w a 0 2 fun v => jblk jT0 2 cl bk n 16 [l0, l1] (v :: st) w := rfl
theorem E2_16 (x : Int) (st : List jV) (l0 : Option jV) (w : jH) : jblk jT0 2 cl bk (n + 1) 16 [l0, some (.inl x)] st w = jblk jT0 2 cl bk n 17 [l0, some (.inl x)] (.inl x :: st) w := rfl
theorem E2_17 (x : Int) (a : Nat) (st : List jV) (l0 l1 : Option jV) (w : jH) : jblk jT0 2 cl bk (n + 1) 17 [l0, l1] (.inl x :: jr a :: st) w = jgi w a .boolean x fun z => jblk jT0 2 cl bk n 18 [l0, l1] (.inl z :: st) w := rfl
theorem E2_18 (x : Int) (st : List jV) (l0 l1 : Option jV) (w : jH) : jblk jT0 2 cl bk (n + 1) 18 [l0, l1] (.inl x :: st) w = if x = 0 then jblk jT0 2 cl bk n 25 [l0, l1] st w else jblk jT0 2 cl bk n 21 [l0, l1] st w := rfl
theorem E2_21 (st : List jV) (l0 l1 : Option jV) (w : jH) : jblk jT0 2 cl bk (n + 1) 21 [l0, l1] st w = jblk jT0 2 cl bk n 22 [l0, l1] (.inl 1 :: st) w := rfl
theorem E2_22 (st : List jV) (l0 l1 : Option jV) (w : jH) : jblk jT0 2 cl bk (n + 1) 22 [l0, l1] st w = jblk jT0 2 cl bk n 26 [l0, l1] st w := rfl
theorem E2_25 (st : List jV) (l0 l1 : Option jV) (w : jH) : jblk jT0 2 cl bk (n + 1) 25 [l0, l1] st w = jblk jT0 2 cl bk n 26 [l0, l1] (.inl 0 :: st) w := rfl
theorem E2_26 (x : Int) (l0 l1 : Option jV) (w : jH) : jblk jT0 2 cl bk (n + 1) 26 [l0, l1] [.inl x] w = if jfits .boolean x = true then some (.inl (some (.inl x)), w) else none := rfl
theorem E3_0 (x : Int) (st : List jV) (l0 : Option jV) (w : jH) : jblk jT0 3 cl bk (n + 1) 0 [l0, some (.inl x)] st w = jblk jT0 3 cl bk n 1 [l0, some (.inl x)] (.inl x :: st) w := rfl
theorem E3_1 (x : Int) (st : List jV) (l0 l1 : Option jV) (w : jH) : jblk jT0 3 cl bk (n + 1) 1 [l0, l1] (.inl x :: st) w = if x < 0 then jblk jT0 3 cl bk n 21 [l0, l1] st w else jblk jT0 3 cl bk n 4 [l0, l1] st w := rfl
theorem E3_4 (x : Int) (st : List jV) (l0 : Option jV) (w : jH) : jblk jT0 3 cl bk (n + 1) 4 [l0, some (.inl x)] st w = jblk jT0 3 cl bk n 5 [l0, some (.inl x)] (.inl x :: st) w := rfl
theorem E3_5 (a : Nat) (st : List jV) (l1 : Option jV) (w : jH) : jblk jT0 3 cl bk (n + 1) 5 [some (jr a), l1] st w = jblk jT0 3 cl bk n 6 [some (jr a), l1] (jr a :: st) w := rfl
theorem E3_6 (a : Nat) (st : List jV) (l0 l1 : Option jV) (w : jH) : jblk jT0 3 cl bk (n + 1) 6 [l0, l1] (jr a :: st) w = jgf w a 0 4 fun v => jblk jT0 3 cl bk n 9 [l0, l1] (v :: st) w := rfl
theorem E3_9 (x : Int) (y : Int) (st : List jV) (l0 l1 : Option jV) (w : jH) : jblk jT0 3 cl bk (n + 1) 9 [l0, l1] (.inl y :: .inl x :: st) w = if x < y then jblk jT0 3 cl bk n 12 [l0, l1] st w else jblk jT0 3 cl bk n 21 [l0, l1] st w := rfl
theorem E3_12 (a : Nat) (st : List jV) (l1 : Option jV) (w : jH) : jblk jT0 3 cl bk (n + 1) 12 [some (jr a), l1] st w = jblk jT0 3 cl bk n 13 [some (jr a), l1] (jr a :: st) w := rfl
theorem E3_13 (a : Nat) (st : List jV) (l0 l1 : Option jV) (w : jH) : jblk jT0 3 cl bk (n + 1) 13 [l0, l1] (jr a :: st) w = jgf w a 0 0 fun v => jblk jT0 3 cl bk n 16 [l0, l1] (v :: st) w := rfl
theorem E3_16 (x : Int) (st : List jV) (l0 : Option jV) (w : jH) : jblk jT0 3 cl bk (n + 1) 16 [l0, some (.inl x)] st w = jblk jT0 3 cl bk n 17 [l0, some (.inl x)] (.inl x :: st) w := rfl
theorem E3_17 (x : Int) (a : Nat) (st : List jV) (l0 l1 : Option jV) (w : jH) : jblk jT0 3 cl bk (n + 1) 17 [l0, l1] (.inl x :: jr a :: st) w = jlda w a x (fun z => jblk jT0 3 cl bk n 18 [l0, l1] (.inl z :: st) w) := rfl
theorem E3_18 (st : List jV) (l0 l1 : Option jV) (w : jH) : jblk jT0 3 cl bk (n + 1) 18 [l0, l1] st w = jblk jT0 3 cl bk n 22 [l0, l1] st w := rfl
theorem E3_21 (st : List jV) (l0 l1 : Option jV) (w : jH) : jblk jT0 3 cl bk (n + 1) 21 [l0, l1] st w = jblk jT0 3 cl bk n 22 [l0, l1] (.inl (-1) :: st) w := rfl
theorem E3_22 (x : Int) (l0 l1 : Option jV) (w : jH) : jblk jT0 3 cl bk (n + 1) 22 [l0, l1] [.inl x] w = if jfits .int x = true then some (.inl (some (.inl x)), w) else none := rfl
theorem E4_0 (x : Int) (st : List jV) (l0 : Option jV) (w : jH) : jblk jT0 4 cl bk (n + 1) 0 [l0, some (.inl x)] st w = jblk jT0 4 cl bk n 1 [l0, some (.inl x)] (.inl x :: st) w := rfl
theorem E4_1 (x : Int) (st : List jV) (l0 l1 : Option jV) (w : jH) : jblk jT0 4 cl bk (n + 1) 1 [l0, l1] (.inl x :: st) w = if x < 0 then jblk jT0 4 cl bk n 21 [l0, l1] st w else jblk jT0 4 cl bk n 4 [l0, l1] st w := rfl
theorem E4_4 (x : Int) (st : List jV) (l0 : Option jV) (w : jH) : jblk jT0 4 cl bk (n + 1) 4 [l0, some (.inl x)] st w = jblk jT0 4 cl bk n 5 [l0, some (.inl x)] (.inl x :: st) w := rfl
theorem E4_5 (a : Nat) (st : List jV) (l1 : Option jV) (w : jH) : jblk jT0 4 cl bk (n + 1) 5 [some (jr a), l1] st w = jblk jT0 4 cl bk n 6 [some (jr a), l1] (jr a :: st) w := rfl
theorem E4_6 (a : Nat) (st : List jV) (l0 l1 : Option jV) (w : jH) : jblk jT0 4 cl bk (n + 1) 6 [l0, l1] (jr a :: st) w = jgf w a 0 4 fun v => jblk jT0 4 cl bk n 9 [l0, l1] (v :: st) w := rfl
theorem E4_9 (x : Int) (y : Int) (st : List jV) (l0 l1 : Option jV) (w : jH) : jblk jT0 4 cl bk (n + 1) 9 [l0, l1] (.inl y :: .inl x :: st) w = if x < y then jblk jT0 4 cl bk n 12 [l0, l1] st w else jblk jT0 4 cl bk n 21 [l0, l1] st w := rfl
theorem E4_12 (a : Nat) (st : List jV) (l1 : Option jV) (w : jH) : jblk jT0 4 cl bk (n + 1) 12 [some (jr a), l1] st w = jblk jT0 4 cl bk n 13 [some (jr a), l1] (jr a :: st) w := rfl
theorem E4_13 (a : Nat) (st : List jV) (l0 l1 : Option jV) (w : jH) : jblk jT0 4 cl bk (n + 1) 13 [l0, l1] (jr a :: st) w = jgf w a 0 1 fun v => jblk jT0 4 cl bk n 16 [l0, l1] (v :: st) w := rfl
theorem E4_16 (x : Int) (st : List jV) (l0 : Option jV) (w : jH) : jblk jT0 4 cl bk (n + 1) 16 [l0, some (.inl x)] st w = jblk jT0 4 cl bk n 17 [l0, some (.inl x)] (.inl x :: st) w := rfl
theorem E4_17 (x : Int) (a : Nat) (st : List jV) (l0 l1 : Option jV) (w : jH) : jblk jT0 4 cl bk (n + 1) 17 [l0, l1] (.inl x :: jr a :: st) w = jlda w a x (fun z => jblk jT0 4 cl bk n 18 [l0, l1] (.inl z :: st) w) := rfl
theorem E4_18 (st : List jV) (l0 l1 : Option jV) (w : jH) : jblk jT0 4 cl bk (n + 1) 18 [l0, l1] st w = jblk jT0 4 cl bk n 22 [l0, l1] st w := rfl
theorem E4_21 (st : List jV) (l0 l1 : Option jV) (w : jH) : jblk jT0 4 cl bk (n + 1) 21 [l0, l1] st w = jblk jT0 4 cl bk n 22 [l0, l1] (.inl (-1) :: st) w := rfl
theorem E4_22 (x : Int) (l0 l1 : Option jV) (w : jH) : jblk jT0 4 cl bk (n + 1) 22 [l0, l1] [.inl x] w = if jfits .int x = true then some (.inl (some (.inl x)), w) else none := rfl
theorem E5_0 (x : Int) (st : List jV) (l0 : Option jV) (w : jH) : jblk jT0 5 cl bk (n + 1) 0 [l0, some (.inl x)] st w = jblk jT0 5 cl bk n 1 [l0, some (.inl x)] (.inl x :: st) w := rfl
theorem E5_1 (x : Int) (st : List jV) (l0 l1 : Option jV) (w : jH) : jblk jT0 5 cl bk (n + 1) 1 [l0, l1] (.inl x :: st) w = if x < 0 then jblk jT0 5 cl bk n 21 [l0, l1] st w else jblk jT0 5 cl bk n 4 [l0, l1] st w := rfl
theorem E5_4 (x : Int) (st : List jV) (l0 : Option jV) (w : jH) : jblk jT0 5 cl bk (n + 1) 4 [l0, some (.inl x)] st w = jblk jT0 5 cl bk n 5 [l0, some (.inl x)] (.inl x :: st) w := rfl
theorem E5_5 (a : Nat) (st : List jV) (l1 : Option jV) (w : jH) : jblk jT0 5 cl bk (n + 1) 5 [some (jr a), l1] st w = jblk jT0 5 cl bk n 6 [some (jr a), l1] (jr a :: st) w := rfl
theorem E5_6 (a : Nat) (st : List jV) (l0 l1 : Option jV) (w : jH) : jblk jT0 5 cl bk (n + 1) 6 [l0, l1] (jr a :: st) w = jgf w a 0 4 fun v => jblk jT0 5 cl bk n 9 [l0, l1] (v :: st) w := rfl
theorem E5_9 (x : Int) (y : Int) (st : List jV) (l0 l1 : Option jV) (w : jH) : jblk jT0 5 cl bk (n + 1) 9 [l0, l1] (.inl y :: .inl x :: st) w = if x < y then jblk jT0 5 cl bk n 12 [l0, l1] st w else jblk jT0 5 cl bk n 21 [l0, l1] st w := rfl
theorem E5_12 (a : Nat) (st : List jV) (l1 : Option jV) (w : jH) : jblk jT0 5 cl bk (n + 1) 12 [some (jr a), l1] st w = jblk jT0 5 cl bk n 13 [some (jr a), l1] (jr a :: st) w := rfl
theorem E5_13 (a : Nat) (st : List jV) (l0 l1 : Option jV) (w : jH) : jblk jT0 5 cl bk (n + 1) 13 [l0, l1] (jr a :: st) w = jgf w a 0 3 fun v => jblk jT0 5 cl bk n 16 [l0, l1] (v :: st) w := rfl
theorem E5_16 (x : Int) (st : List jV) (l0 : Option jV) (w : jH) : jblk jT0 5 cl bk (n + 1) 16 [l0, some (.inl x)] st w = jblk jT0 5 cl bk n 17 [l0, some (.inl x)] (.inl x :: st) w := rfl
theorem E5_17 (x : Int) (a : Nat) (st : List jV) (l0 l1 : Option jV) (w : jH) : jblk jT0 5 cl bk (n + 1) 17 [l0, l1] (.inl x :: jr a :: st) w = jlda w a x (fun z => jblk jT0 5 cl bk n 18 [l0, l1] (.inl z :: st) w) := rfl
theorem E5_18 (st : List jV) (l0 l1 : Option jV) (w : jH) : jblk jT0 5 cl bk (n + 1) 18 [l0, l1] st w = jblk jT0 5 cl bk n 22 [l0, l1] st w := rfl
theorem E5_21 (st : List jV) (l0 l1 : Option jV) (w : jH) : jblk jT0 5 cl bk (n + 1) 21 [l0, l1] st w = jblk jT0 5 cl bk n 22 [l0, l1] (.inl (-1) :: st) w := rfl
theorem E5_22 (x : Int) (l0 l1 : Option jV) (w : jH) : jblk jT0 5 cl bk (n + 1) 22 [l0, l1] [.inl x] w = if jfits .int x = true then some (.inl (some (.inl x)), w) else none := rfl
theorem E6_0 (st : List jV) (l0 l1 l2 : Option jV) (w : jH) : jblk jT0 6 cl bk (n + 1) 0 [l0, l1, l2] st w = jblk jT0 6 cl bk n 1 [l0, l1, l2] (.inl 0 :: st) w := rfl
theorem E6_1 (x : Int) (st : List jV) (l0 l1 l2 : Option jV) (w : jH) : jblk jT0 6 cl bk (n + 1) 1 [l0, l1, l2] (.inl x :: st) w = bk 2 [l0, l1, some (.inl x)] st w := rfl
theorem E6_2 (x : Int) (st : List jV) (l0 l1 : Option jV) (w : jH) : jblk jT0 6 cl bk (n + 1) 2 [l0, l1, some (.inl x)] st w = jblk jT0 6 cl bk n 3 [l0, l1, some (.inl x)] (.inl x :: st) w := rfl
theorem E6_3 (a : Nat) (st : List jV) (l1 l2 : Option jV) (w : jH) : jblk jT0 6 cl bk (n + 1) 3 [some (jr a), l1, l2] st w = jblk jT0 6 cl bk n 4 [some (jr a), l1, l2] (jr a :: st) w := rfl
theorem E6_4 (a : Nat) (st : List jV) (l0 l1 l2 : Option jV) (w : jH) : jblk jT0 6 cl bk (n + 1) 4 [l0, l1, l2] (jr a :: st) w = jgf w a 0 4 fun v => jblk jT0 6 cl bk n 7 [l0, l1, l2] (v :: st) w := rfl
theorem E6_7 (x : Int) (y : Int) (st : List jV) (l0 l1 l2 : Option jV) (w : jH) : jblk jT0 6 cl bk (n + 1) 7 [l0, l1, l2] (.inl y :: .inl x :: st) w = if x < y then jblk jT0 6 cl bk n 10 [l0, l1, l2] st w else jblk jT0 6 cl bk n 26 [l0, l1, l2] st w := rfl
theorem E6_10 (a : Nat) (st : List jV) (l1 l2 : Option jV) (w : jH) : jblk jT0 6 cl bk (n + 1) 10 [some (jr a), l1, l2] st w = jblk jT0 6 cl bk n 11 [some (jr a), l1, l2] (jr a :: st) w := rfl
theorem E6_11 (a : Nat) (st : List jV) (l0 l1 l2 : Option jV) (w : jH) : jblk jT0 6 cl bk (n + 1) 11 [l0, l1, l2] (jr a :: st) w = jgf w a 0 3 fun v => jblk jT0 6 cl bk n 14 [l0, l1, l2] (v :: st) w := rfl
theorem E6_14 (x : Int) (st : List jV) (l0 l1 : Option jV) (w : jH) : jblk jT0 6 cl bk (n + 1) 14 [l0, l1, some (.inl x)] st w = jblk jT0 6 cl bk n 15 [l0, l1, some (.inl x)] (.inl x :: st) w := rfl
theorem E6_15 (x : Int) (a : Nat) (st : List jV) (l0 l1 l2 : Option jV) (w : jH) : jblk jT0 6 cl bk (n + 1) 15 [l0, l1, l2] (.inl x :: jr a :: st) w = jlda w a x (fun z => jblk jT0 6 cl bk n 16 [l0, l1, l2] (.inl z :: st) w) := rfl
theorem E6_16 (x : Int) (st : List jV) (l0 l2 : Option jV) (w : jH) : jblk jT0 6 cl bk (n + 1) 16 [l0, some (.inl x), l2] st w = jblk jT0 6 cl bk n 17 [l0, some (.inl x), l2] (.inl x :: st) w := rfl
theorem E6_17 (x : Int) (y : Int) (st : List jV) (l0 l1 l2 : Option jV) (w : jH) : jblk jT0 6 cl bk (n + 1) 17 [l0, l1, l2] (.inl y :: .inl x :: st) w = if x = y then jblk jT0 6 cl bk n 26 [l0, l1, l2] st w else jblk jT0 6 cl bk n 20 [l0, l1, l2] st w := rfl
theorem E6_20 (x : Int) (st : List jV) (l0 l1 : Option jV) (w : jH) : jblk jT0 6 cl bk (n + 1) 20 [l0, l1, some (.inl x)] st w = jblk jT0 6 cl bk n 23 [l0, l1, some (.inl (jw (x + 1)))] st w := rfl
theorem E6_23 (st : List jV) (l0 l1 l2 : Option jV) (w : jH) : jblk jT0 6 cl bk (n + 1) 23 [l0, l1, l2] st w = bk 2 [l0, l1, l2] st w := rfl
theorem E6_26 (x : Int) (st : List jV) (l0 l1 : Option jV) (w : jH) : jblk jT0 6 cl bk (n + 1) 26 [l0, l1, some (.inl x)] st w = jblk jT0 6 cl bk n 27 [l0, l1, some (.inl x)] (.inl x :: st) w := rfl
theorem E6_27 (x : Int) (l0 l1 l2 : Option jV) (w : jH) : jblk jT0 6 cl bk (n + 1) 27 [l0, l1, l2] [.inl x] w = if jfits .int x = true then some (.inl (some (.inl x)), w) else none := rfl
theorem E7_0 (a : Nat) (st : List jV) (l1 l2 : Option jV) (w : jH) : jblk jT0 7 cl bk (n + 1) 0 [some (jr a), l1, l2] st w = jblk jT0 7 cl bk n 1 [some (jr a), l1, l2] (jr a :: st) w := rfl
theorem E7_1 (x : Int) (st : List jV) (l0 l2 : Option jV) (w : jH) : jblk jT0 7 cl bk (n + 1) 1 [l0, some (.inl x), l2] st w = jblk jT0 7 cl bk n 2 [l0, some (.inl x), l2] (.inl x :: st) w := rfl
theorem E7_2 (a : Nat) (v0 : jV) (st : List jV) (l0 l1 l2 : Option jV) (w : jH) : jblk jT0 7 cl bk (n + 1) 2 [l0, l1, l2] (v0 :: jr a :: st) w = jsh st (jgo w a 0 fun _ => jcl (cl 6 [jr a, v0] w) (fun v w' => jblk jT0 7 cl bk n 5 [l0, l1, l2] (jpush v st) w') (fun E w' => some (.inr E, w'))) := rfl
theorem E7_5 (st : List jV) (l0 l1 l2 : Option jV) (w : jH) : jblk jT0 7 cl bk (n + 1) 5 [l0, l1, l2] st w = jblk jT0 7 cl bk n 6 [l0, l1, l2] (.inl 1 :: st) w := rfl
theorem E7_6 (x : Int) (y : Int) (st : List jV) (l0 l1 l2 : Option jV) (w : jH) : jblk jT0 7 cl bk (n + 1) 6 [l0, l1, l2] (.inl y :: .inl x :: st) w = jblk jT0 7 cl bk n 7 [l0, l1, l2] (.inl (jw (x + y)) :: st) w := rfl
theorem E7_7 (x : Int) (st : List jV) (l0 l1 l2 : Option jV) (w : jH) : jblk jT0 7 cl bk (n + 1) 7 [l0, l1, l2] (.inl x :: st) w = bk 8 [l0, l1, some (.inl x)] st w := rfl
theorem E7_8 (x : Int) (st : List jV) (l0 l1 : Option jV) (w : jH) : jblk jT0 7 cl bk (n + 1) 8 [l0, l1, some (.inl x)] st w = jblk jT0 7 cl bk n 9 [l0, l1, some (.inl x)] (.inl x :: st) w := rfl
theorem E7_9 (a : Nat) (st : List jV) (l1 l2 : Option jV) (w : jH) : jblk jT0 7 cl bk (n + 1) 9 [some (jr a), l1, l2] st w = jblk jT0 7 cl bk n 10 [some (jr a), l1, l2] (jr a :: st) w := rfl
theorem E7_10 (a : Nat) (st : List jV) (l0 l1 l2 : Option jV) (w : jH) : jblk jT0 7 cl bk (n + 1) 10 [l0, l1, l2] (jr a :: st) w = jgf w a 0 4 fun v => jblk jT0 7 cl bk n 13 [l0, l1, l2] (v :: st) w := rfl
theorem E7_13 (x : Int) (y : Int) (st : List jV) (l0 l1 l2 : Option jV) (w : jH) : jblk jT0 7 cl bk (n + 1) 13 [l0, l1, l2] (.inl y :: .inl x :: st) w = if x < y then jblk jT0 7 cl bk n 16 [l0, l1, l2] st w else jblk jT0 7 cl bk n 40 [l0, l1, l2] st w := rfl
theorem E7_16 (a : Nat) (st : List jV) (l1 l2 : Option jV) (w : jH) : jblk jT0 7 cl bk (n + 1) 16 [some (jr a), l1, l2] st w = jblk jT0 7 cl bk n 17 [some (jr a), l1, l2] (jr a :: st) w := rfl
theorem E7_17 (a : Nat) (st : List jV) (l1 l2 : Option jV) (w : jH) : jblk jT0 7 cl bk (n + 1) 17 [some (jr a), l1, l2] st w = jblk jT0 7 cl bk n 18 [some (jr a), l1, l2] (jr a :: st) w := rfl
theorem E7_18 (a : Nat) (st : List jV) (l0 l1 l2 : Option jV) (w : jH) : jblk jT0 7 cl bk (n + 1) 18 [l0, l1, l2] (jr a :: st) w = jgf w a 0 3 fun v => jblk jT0 7 cl bk n 21 [l0, l1, l2] (v :: st) w := rfl
theorem E7_21 (x : Int) (st : List jV) (l0 l1 : Option jV) (w : jH) : jblk jT0 7 cl bk (n + 1) 21 [l0, l1, some (.inl x)] st w = jblk jT0 7 cl bk n 22 [l0, l1, some (.inl x)] (.inl x :: st) w := rfl
theorem E7_22 (x : Int) (a : Nat) (st : List jV) (l0 l1 l2 : Option jV) (w : jH) : jblk jT0 7 cl bk (n + 1) 22 [l0, l1, l2] (.inl x :: jr a :: st) w = jlda w a x (fun z => jblk jT0 7 cl bk n 23 [l0, l1, l2] (.inl z :: st) w) := rfl
theorem E7_23 (a : Nat) (v0 : jV) (st : List jV) (l0 l1 l2 : Option jV) (w : jH) : jblk jT0 7 cl bk (n + 1) 23 [l0, l1, l2] (v0 :: jr a :: st) w = jsh st (jgo w a 0 fun _ => jcl (cl 4 [jr a, v0] w) (fun v w' => jblk jT0 7 cl bk n 26 [l0, l1, l2] (jpush v st) w') (fun E w' => some (.inr E, w'))) := rfl
theorem E7_26 (a : Nat) (st : List jV) (l1 l2 : Option jV) (w : jH) : jblk jT0 7 cl bk (n + 1) 26 [some (jr a), l1, l2] st w = jblk jT0 7 cl bk n 27 [some (jr a), l1, l2] (jr a :: st) w := rfl
theorem E7_27 (x : Int) (st : List jV) (l0 l2 : Option jV) (w : jH) : jblk jT0 7 cl bk (n + 1) 27 [l0, some (.inl x), l2] st w = jblk jT0 7 cl bk n 28 [l0, some (.inl x), l2] (.inl x :: st) w := rfl
theorem E7_28 (a : Nat) (v0 : jV) (st : List jV) (l0 l1 l2 : Option jV) (w : jH) : jblk jT0 7 cl bk (n + 1) 28 [l0, l1, l2] (v0 :: jr a :: st) w = jsh st (jgo w a 0 fun _ => jcl (cl 4 [jr a, v0] w) (fun v w' => jblk jT0 7 cl bk n 31 [l0, l1, l2] (jpush v st) w') (fun E w' => some (.inr E, w'))) := rfl
theorem E7_31 (x : Int) (y : Int) (st : List jV) (l0 l1 l2 : Option jV) (w : jH) : jblk jT0 7 cl bk (n + 1) 31 [l0, l1, l2] (.inl y :: .inl x :: st) w = if y < x then jblk jT0 7 cl bk n 34 [l0, l1, l2] st w else jblk jT0 7 cl bk n 40 [l0, l1, l2] st w := rfl
theorem E7_34 (x : Int) (st : List jV) (l0 l1 : Option jV) (w : jH) : jblk jT0 7 cl bk (n + 1) 34 [l0, l1, some (.inl x)] st w = jblk jT0 7 cl bk n 37 [l0, l1, some (.inl (jw (x + 1)))] st w := rfl
theorem E7_37 (st : List jV) (l0 l1 l2 : Option jV) (w : jH) : jblk jT0 7 cl bk (n + 1) 37 [l0, l1, l2] st w = bk 8 [l0, l1, l2] st w := rfl
theorem E7_40 (x : Int) (st : List jV) (l0 l1 : Option jV) (w : jH) : jblk jT0 7 cl bk (n + 1) 40 [l0, l1, some (.inl x)] st w = jblk jT0 7 cl bk n 41 [l0, l1, some (.inl x)] (.inl x :: st) w := rfl
theorem E7_41 (x : Int) (l0 l1 l2 : Option jV) (w : jH) : jblk jT0 7 cl bk (n + 1) 41 [l0, l1, l2] [.inl x] w = if jfits .int x = true then some (.inl (some (.inl x)), w) else none := rfl
theorem E8_0 (a : Nat) (st : List jV) (l1 l2 l3 l4 : Option jV) (w : jH) : jblk jT0 8 cl bk (n + 1) 0 [some (jr a), l1, l2, l3, l4] st w = jblk jT0 8 cl bk n 1 [some (jr a), l1, l2, l3, l4] (jr a :: st) w := rfl
theorem E8_1 (a : Nat) (st : List jV) (l0 l1 l2 l3 l4 : Option jV) (w : jH) : jblk jT0 8 cl bk (n + 1) 1 [l0, l1, l2, l3, l4] (jr a :: st) w = jgf w a 0 4 fun v => jblk jT0 8 cl bk n 4 [l0, l1, l2, l3, l4] (v :: st) w := rfl
theorem E8_4 (st : List jV) (l0 l1 l2 l3 l4 : Option jV) (w : jH) : jblk jT0 8 cl bk (n + 1) 4 [l0, l1, l2, l3, l4] st w = jblk jT0 8 cl bk n 6 [l0, l1, l2, l3, l4] (.inl 16 :: st) w := rfl
theorem E8_6 (x : Int) (y : Int) (st : List jV) (l0 l1 l2 l3 l4 : Option jV) (w : jH) : jblk jT0 8 cl bk (n + 1) 6 [l0, l1, l2, l3, l4] (.inl y :: .inl x :: st) w = if x < y then jblk jT0 8 cl bk n 11 [l0, l1, l2, l3, l4] st w else jblk jT0 8 cl bk n 9 [l0, l1, l2, l3, l4] st w := rfl
theorem E8_9 (st : List jV) (l0 l1 l2 l3 l4 : Option jV) (w : jH) : jblk jT0 8 cl bk (n + 1) 9 [l0, l1, l2, l3, l4] st w = jblk jT0 8 cl bk n 10 [l0, l1, l2, l3, l4] (.inl (-1) :: st) w := rfl
theorem E8_10 (x : Int) (l0 l1 l2 l3 l4 : Option jV) (w : jH) : jblk jT0 8 cl bk (n + 1) 10 [l0, l1, l2, l3, l4] [.inl x] w = if jfits .int x = true then some (.inl (some (.inl x)), w) else none := rfl
theorem E8_11 (a : Nat) (st : List jV) (l1 l2 l3 l4 : Option jV) (w : jH) : jblk jT0 8 cl bk (n + 1) 11 [some (jr a), l1, l2, l3, l4] st w = jblk jT0 8 cl bk n 12 [some (jr a), l1, l2, l3, l4] (jr a :: st) w := rfl
theorem E8_12 (a : Nat) (st : List jV) (l0 l1 l2 l3 l4 : Option jV) (w : jH) : jblk jT0 8 cl bk (n + 1) 12 [l0, l1, l2, l3, l4] (jr a :: st) w = jgf w a 0 4 fun v => jblk jT0 8 cl bk n 15 [l0, l1, l2, l3, l4] (v :: st) w := rfl
theorem E8_15 (x : Int) (st : List jV) (l0 l1 l2 l3 l4 : Option jV) (w : jH) : jblk jT0 8 cl bk (n + 1) 15 [l0, l1, l2, l3, l4] (.inl x :: st) w = jblk jT0 8 cl bk n 16 [l0, l1, some (.inl x), l3, l4] st w := rfl
theorem E8_16 (x : Int) (st : List jV) (l0 l2 l3 l4 : Option jV) (w : jH) : jblk jT0 8 cl bk (n + 1) 16 [l0, some (.inl x), l2, l3, l4] st w = jblk jT0 8 cl bk n 17 [l0, some (.inl x), l2, l3, l4] (.inl x :: st) w := rfl
theorem E8_17 (st : List jV) (l0 l1 l2 l3 l4 : Option jV) (w : jH) : jblk jT0 8 cl bk (n + 1) 17 [l0, l1, l2, l3, l4] st w = jblk jT0 8 cl bk n 18 [l0, l1, l2, l3, l4] (.inl (-1) :: st) w := rfl
theorem E8_18 (x : Int) (y : Int) (st : List jV) (l0 l1 l2 l3 l4 : Option jV) (w : jH) : jblk jT0 8 cl bk (n + 1) 18 [l0, l1, l2, l3, l4] (.inl y :: .inl x :: st) w = if x = y then jblk jT0 8 cl bk n 21 [l0, l1, l2, l3, l4] st w else jblk jT0 8 cl bk n 28 [l0, l1, l2, l3, l4] st w := rfl
theorem E8_21 (a : Nat) (st : List jV) (l1 l2 l3 l4 : Option jV) (w : jH) : jblk jT0 8 cl bk (n + 1) 21 [some (jr a), l1, l2, l3, l4] st w = jblk jT0 8 cl bk n 22 [some (jr a), l1, l2, l3, l4] (jr a :: st) w := rfl
theorem E8_22 (a : Nat) (st : List jV) (l0 l1 l2 l3 l4 : Option jV) (w : jH) : jblk jT0 8 cl bk (n + 1) 22 [l0, l1, l2, l3, l4] (jr a :: st) w = jgf w a 0 4 fun v => jblk jT0 8 cl bk n 25 [l0, l1, l2, l3, l4] (v :: st) w := rfl
theorem E8_25 (st : List jV) (l0 l1 l2 l3 l4 : Option jV) (w : jH) : jblk jT0 8 cl bk (n + 1) 25 [l0, l1, l2, l3, l4] st w = jblk jT0 8 cl bk n 40 [l0, l1, l2, l3, l4] st w := rfl
theorem E8_28 (a : Nat) (st : List jV) (l1 l2 l3 l4 : Option jV) (w : jH) : jblk jT0 8 cl bk (n + 1) 28 [some (jr a), l1, l2, l3, l4] st w = jblk jT0 8 cl bk n 29 [some (jr a), l1, l2, l3, l4] (jr a :: st) w := rfl
theorem E8_29 (x : Int) (st : List jV) (l0 l2 l3 l4 : Option jV) (w : jH) : jblk jT0 8 cl bk (n + 1) 29 [l0, some (.inl x), l2, l3, l4] st w = jblk jT0 8 cl bk n 30 [l0, some (.inl x), l2, l3, l4] (.inl x :: st) w := rfl
theorem E8_30 (a : Nat) (v0 : jV) (st : List jV) (l0 l1 l2 l3 l4 : Option jV) (w : jH) : jblk jT0 8 cl bk (n + 1) 30 [l0, l1, l2, l3, l4] (v0 :: jr a :: st) w = jsh st (jgo w a 0 fun _ => jcl (cl 7 [jr a, v0] w) (fun v w' => jblk jT0 8 cl bk n 33 [l0, l1, l2, l3, l4] (jpush v st) w') (fun E w' => some (.inr E, w'))) := rfl
theorem E8_33 (a : Nat) (st : List jV) (l1 l2 l3 l4 : Option jV) (w : jH) : jblk jT0 8 cl bk (n + 1) 33 [some (jr a), l1, l2, l3, l4] st w = jblk jT0 8 cl bk n 34 [some (jr a), l1, l2, l3, l4] (jr a :: st) w := rfl
theorem E8_34 (a : Nat) (st : List jV) (l0 l1 l2 l3 l4 : Option jV) (w : jH) : jblk jT0 8 cl bk (n + 1) 34 [l0, l1, l2, l3, l4] (jr a :: st) w = jgf w a 0 4 fun v => jblk jT0 8 cl bk n 37 [l0, l1, l2, l3, l4] (v :: st) w := rfl
theorem E8_37 (x : Int) (y : Int) (st : List jV) (l0 l1 l2 l3 l4 : Option jV) (w : jH) : jblk jT0 8 cl bk (n + 1) 37 [l0, l1, l2, l3, l4] (.inl y :: .inl x :: st) w = jsh st (jblk jT0 8 cl bk n 40 [l0, l1, l2, l3, l4] (.inl (if y < x then y else x) :: st) w) := rfl
theorem E8_40 (x : Int) (st : List jV) (l0 l1 l2 l3 l4 : Option jV) (w : jH) : jblk jT0 8 cl bk (n + 1) 40 [l0, l1, l2, l3, l4] (.inl x :: st) w = jblk jT0 8 cl bk n 41 [l0, l1, l2, some (.inl x), l4] st w := rfl
theorem E8_41 (a : Nat) (st : List jV) (l1 l2 l3 l4 : Option jV) (w : jH) : jblk jT0 8 cl bk (n + 1) 41 [some (jr a), l1, l2, l3, l4] st w = jblk jT0 8 cl bk n 42 [some (jr a), l1, l2, l3, l4] (jr a :: st) w := rfl
theorem E8_42 (a : Nat) (st : List jV) (l0 l1 l2 l3 l4 : Option jV) (w : jH) : jblk jT0 8 cl bk (n + 1) 42 [l0, l1, l2, l3, l4] (jr a :: st) w = jgf w a 0 4 fun v => jblk jT0 8 cl bk n 45 [l0, l1, l2, l3, l4] (v :: st) w := rfl
theorem E8_45 (x : Int) (st : List jV) (l0 l1 l2 l3 l4 : Option jV) (w : jH) : jblk jT0 8 cl bk (n + 1) 45 [l0, l1, l2, l3, l4] (.inl x :: st) w = bk 47 [l0, l1, l2, l3, some (.inl x)] st w := rfl
theorem E8_47 (x : Int) (st : List jV) (l0 l1 l2 l3 : Option jV) (w : jH) : jblk jT0 8 cl bk (n + 1) 47 [l0, l1, l2, l3, some (.inl x)] st w = jblk jT0 8 cl bk n 49 [l0, l1, l2, l3, some (.inl x)] (.inl x :: st) w := rfl
theorem E8_49 (x : Int) (st : List jV) (l0 l1 l2 l4 : Option jV) (w : jH) : jblk jT0 8 cl bk (n + 1) 49 [l0, l1, l2, some (.inl x), l4] st w = jblk jT0 8 cl bk n 50 [l0, l1, l2, some (.inl x), l4] (.inl x :: st) w := rfl
theorem E8_50 (x : Int) (y : Int) (st : List jV) (l0 l1 l2 l3 l4 : Option jV) (w : jH) : jblk jT0 8 cl bk (n + 1) 50 [l0, l1, l2, l3, l4] (.inl y :: .inl x :: st) w = if y < x then jblk jT0 8 cl bk n 53 [l0, l1, l2, l3, l4] st w else jblk jT0 8 cl bk n 75 [l0, l1, l2, l3, l4] st w := rfl
theorem E8_53 (a : Nat) (st : List jV) (l1 l2 l3 l4 : Option jV) (w : jH) : jblk jT0 8 cl bk (n + 1) 53 [some (jr a), l1, l2, l3, l4] st w = jblk jT0 8 cl bk n 54 [some (jr a), l1, l2, l3, l4] (jr a :: st) w := rfl
theorem E8_54 (a : Nat) (st : List jV) (l0 l1 l2 l3 l4 : Option jV) (w : jH) : jblk jT0 8 cl bk (n + 1) 54 [l0, l1, l2, l3, l4] (jr a :: st) w = jgf w a 0 3 fun v => jblk jT0 8 cl bk n 57 [l0, l1, l2, l3, l4] (v :: st) w := rfl
theorem E8_57 (x : Int) (st : List jV) (l0 l1 l2 l3 : Option jV) (w : jH) : jblk jT0 8 cl bk (n + 1) 57 [l0, l1, l2, l3, some (.inl x)] st w = jblk jT0 8 cl bk n 59 [l0, l1, l2, l3, some (.inl x)] (.inl x :: st) w := rfl
theorem E8_59 (a : Nat) (st : List jV) (l1 l2 l3 l4 : Option jV) (w : jH) : jblk jT0 8 cl bk (n + 1) 59 [some (jr a), l1, l2, l3, l4] st w = jblk jT0 8 cl bk n 60 [some (jr a), l1, l2, l3, l4] (jr a :: st) w := rfl
theorem E8_60 (a : Nat) (st : List jV) (l0 l1 l2 l3 l4 : Option jV) (w : jH) : jblk jT0 8 cl bk (n + 1) 60 [l0, l1, l2, l3, l4] (jr a :: st) w = jgf w a 0 3 fun v => jblk jT0 8 cl bk n 63 [l0, l1, l2, l3, l4] (v :: st) w := rfl
theorem E8_63 (x : Int) (st : List jV) (l0 l1 l2 l3 : Option jV) (w : jH) : jblk jT0 8 cl bk (n + 1) 63 [l0, l1, l2, l3, some (.inl x)] st w = jblk jT0 8 cl bk n 65 [l0, l1, l2, l3, some (.inl x)] (.inl x :: st) w := rfl
theorem E8_65 (st : List jV) (l0 l1 l2 l3 l4 : Option jV) (w : jH) : jblk jT0 8 cl bk (n + 1) 65 [l0, l1, l2, l3, l4] st w = jblk jT0 8 cl bk n 66 [l0, l1, l2, l3, l4] (.inl 1 :: st) w := rfl
theorem E8_66 (x : Int) (y : Int) (st : List jV) (l0 l1 l2 l3 l4 : Option jV) (w : jH) : jblk jT0 8 cl bk (n + 1) 66 [l0, l1, l2, l3, l4] (.inl y :: .inl x :: st) w = jblk jT0 8 cl bk n 67 [l0, l1, l2, l3, l4] (.inl (jw (x - y)) :: st) w := rfl
theorem E8_67 (x : Int) (a : Nat) (st : List jV) (l0 l1 l2 l3 l4 : Option jV) (w : jH) : jblk jT0 8 cl bk (n + 1) 67 [l0, l1, l2, l3, l4] (.inl x :: jr a :: st) w = jlda w a x (fun z => jblk jT0 8 cl bk n 68 [l0, l1, l2, l3, l4] (.inl z :: st) w) := rfl
theorem E8_68 (x : Int) (y : Int) (a : Nat) (st : List jV) (l0 l1 l2 l3 l4 : Option jV) (w : jH) : jblk jT0 8 cl bk (n + 1) 68 [l0, l1, l2, l3, l4] (.inl y :: .inl x :: jr a :: st) w = jai w a .int x y fun w' => jblk jT0 8 cl bk n 69 [l0, l1, l2, l3, l4] st w' := rfl
theorem E8_69 (x : Int) (st : List jV) (l0 l1 l2 l3 : Option jV) (w : jH) : jblk jT0 8 cl bk (n + 1) 69 [l0, l1, l2, l3, some (.inl x)] st w = jblk jT0 8 cl bk n 72 [l0, l1, l2, l3, some (.inl (jw (x + (-1))))] st w := rfl
theorem E8_72 (st : List jV) (l0 l1 l2 l3 l4 : Option jV) (w : jH) : jblk jT0 8 cl bk (n + 1) 72 [l0, l1, l2, l3, l4] st w = bk 47 [l0, l1, l2, l3, l4] st w := rfl
theorem E8_75 (a : Nat) (st : List jV) (l1 l2 l3 l4 : Option jV) (w : jH) : jblk jT0 8 cl bk (n + 1) 75 [some (jr a), l1, l2, l3, l4] st w = jblk jT0 8 cl bk n 76 [some (jr a), l1, l2, l3, l4] (jr a :: st) w := rfl
theorem E8_76 (a : Nat) (st : List jV) (l0 l1 l2 l3 l4 : Option jV) (w : jH) : jblk jT0 8 cl bk (n + 1) 76 [l0, l1, l2, l3, l4] (jr a :: st) w = jgf w a 0 3 fun v => jblk jT0 8 cl bk n 79 [l0, l1, l2, l3, l4] (v :: st) w := rfl
theorem E8_79 (x : Int) (st : List jV) (l0 l1 l2 l4 : Option jV) (w : jH) : jblk jT0 8 cl bk (n + 1) 79 [l0, l1, l2, some (.inl x), l4] st w = jblk jT0 8 cl bk n 80 [l0, l1, l2, some (.inl x), l4] (.inl x :: st) w := rfl
theorem E8_80 (x : Int) (st : List jV) (l0 l1 l3 l4 : Option jV) (w : jH) : jblk jT0 8 cl bk (n + 1) 80 [l0, l1, some (.inl x), l3, l4] st w = jblk jT0 8 cl bk n 81 [l0, l1, some (.inl x), l3, l4] (.inl x :: st) w := rfl
theorem E8_81 (x : Int) (y : Int) (a : Nat) (st : List jV) (l0 l1 l2 l3 l4 : Option jV) (w : jH) : jblk jT0 8 cl bk (n + 1) 81 [l0, l1, l2, l3, l4] (.inl y :: .inl x :: jr a :: st) w = jai w a .int x y fun w' => jblk jT0 8 cl bk n 82 [l0, l1, l2, l3, l4] st w' := rfl
theorem E8_82 (a : Nat) (st : List jV) (l1 l2 l3 l4 : Option jV) (w : jH) : jblk jT0 8 cl bk (n + 1) 82 [some (jr a), l1, l2, l3, l4] st w = jblk jT0 8 cl bk n 83 [some (jr a), l1, l2, l3, l4] (jr a :: st) w := rfl
theorem E8_83 (a : Nat) (st : List jV) (l0 l1 l2 l3 l4 : Option jV) (w : jH) : jblk jT0 8 cl bk (n + 1) 83 [l0, l1, l2, l3, l4] (jr a :: st) w = jgf w a 0 0 fun v => jblk jT0 8 cl bk n 86 [l0, l1, l2, l3, l4] (v :: st) w := rfl
theorem E8_86 (x : Int) (st : List jV) (l0 l1 l3 l4 : Option jV) (w : jH) : jblk jT0 8 cl bk (n + 1) 86 [l0, l1, some (.inl x), l3, l4] st w = jblk jT0 8 cl bk n 87 [l0, l1, some (.inl x), l3, l4] (.inl x :: st) w := rfl
theorem E8_87 (x : Int) (st : List jV) (l0 l2 l3 l4 : Option jV) (w : jH) : jblk jT0 8 cl bk (n + 1) 87 [l0, some (.inl x), l2, l3, l4] st w = jblk jT0 8 cl bk n 88 [l0, some (.inl x), l2, l3, l4] (.inl x :: st) w := rfl
theorem E8_88 (x : Int) (y : Int) (a : Nat) (st : List jV) (l0 l1 l2 l3 l4 : Option jV) (w : jH) : jblk jT0 8 cl bk (n + 1) 88 [l0, l1, l2, l3, l4] (.inl y :: .inl x :: jr a :: st) w = jai w a .int x y fun w' => jblk jT0 8 cl bk n 89 [l0, l1, l2, l3, l4] st w' := rfl
theorem E8_89 (a : Nat) (st : List jV) (l1 l2 l3 l4 : Option jV) (w : jH) : jblk jT0 8 cl bk (n + 1) 89 [some (jr a), l1, l2, l3, l4] st w = jblk jT0 8 cl bk n 90 [some (jr a), l1, l2, l3, l4] (jr a :: st) w := rfl
theorem E8_90 (a : Nat) (st : List jV) (l0 l1 l2 l3 l4 : Option jV) (w : jH) : jblk jT0 8 cl bk (n + 1) 90 [l0, l1, l2, l3, l4] (jr a :: st) w = jgf w a 0 1 fun v => jblk jT0 8 cl bk n 93 [l0, l1, l2, l3, l4] (v :: st) w := rfl
theorem E8_93 (x : Int) (st : List jV) (l0 l1 l3 l4 : Option jV) (w : jH) : jblk jT0 8 cl bk (n + 1) 93 [l0, l1, some (.inl x), l3, l4] st w = jblk jT0 8 cl bk n 94 [l0, l1, some (.inl x), l3, l4] (.inl x :: st) w := rfl
theorem E8_94 (a : Nat) (st : List jV) (l1 l2 l3 l4 : Option jV) (w : jH) : jblk jT0 8 cl bk (n + 1) 94 [some (jr a), l1, l2, l3, l4] st w = jblk jT0 8 cl bk n 95 [some (jr a), l1, l2, l3, l4] (jr a :: st) w := rfl
theorem E8_95 (x : Int) (st : List jV) (l0 l2 l3 l4 : Option jV) (w : jH) : jblk jT0 8 cl bk (n + 1) 95 [l0, some (.inl x), l2, l3, l4] st w = jblk jT0 8 cl bk n 96 [l0, some (.inl x), l2, l3, l4] (.inl x :: st) w := rfl
theorem E8_96 (a : Nat) (v0 : jV) (st : List jV) (l0 l1 l2 l3 l4 : Option jV) (w : jH) : jblk jT0 8 cl bk (n + 1) 96 [l0, l1, l2, l3, l4] (v0 :: jr a :: st) w = jsh st (jgo w a 0 fun _ => jcl (cl 4 [jr a, v0] w) (fun v w' => jblk jT0 8 cl bk n 99 [l0, l1, l2, l3, l4] (jpush v st) w') (fun E w' => some (.inr E, w'))) := rfl
theorem E8_99 (st : List jV) (l0 l1 l2 l3 l4 : Option jV) (w : jH) : jblk jT0 8 cl bk (n + 1) 99 [l0, l1, l2, l3, l4] st w = jblk jT0 8 cl bk n 100 [l0, l1, l2, l3, l4] (.inl 1 :: st) w := rfl
theorem E8_100 (x : Int) (y : Int) (st : List jV) (l0 l1 l2 l3 l4 : Option jV) (w : jH) : jblk jT0 8 cl bk (n + 1) 100 [l0, l1, l2, l3, l4] (.inl y :: .inl x :: st) w = jblk jT0 8 cl bk n 101 [l0, l1, l2, l3, l4] (.inl (jw (x + y)) :: st) w := rfl
theorem E8_101 (x : Int) (y : Int) (a : Nat) (st : List jV) (l0 l1 l2 l3 l4 : Option jV) (w : jH) : jblk jT0 8 cl bk (n + 1) 101 [l0, l1, l2, l3, l4] (.inl y :: .inl x :: jr a :: st) w = jai w a .int x y fun w' => jblk jT0 8 cl bk n 102 [l0, l1, l2, l3, l4] st w' := rfl
theorem E8_102 (a : Nat) (st : List jV) (l1 l2 l3 l4 : Option jV) (w : jH) : jblk jT0 8 cl bk (n + 1) 102 [some (jr a), l1, l2, l3, l4] st w = jblk jT0 8 cl bk n 103 [some (jr a), l1, l2, l3, l4] (jr a :: st) w := rfl
theorem E8_103 (a : Nat) (st : List jV) (l0 l1 l2 l3 l4 : Option jV) (w : jH) : jblk jT0 8 cl bk (n + 1) 103 [l0, l1, l2, l3, l4] (jr a :: st) w = jgf w a 0 2 fun v => jblk jT0 8 cl bk n 106 [l0, l1, l2, l3, l4] (v :: st) w := rfl
theorem E8_106 (x : Int) (st : List jV) (l0 l1 l3 l4 : Option jV) (w : jH) : jblk jT0 8 cl bk (n + 1) 106 [l0, l1, some (.inl x), l3, l4] st w = jblk jT0 8 cl bk n 107 [l0, l1, some (.inl x), l3, l4] (.inl x :: st) w := rfl
theorem E8_107 (st : List jV) (l0 l1 l2 l3 l4 : Option jV) (w : jH) : jblk jT0 8 cl bk (n + 1) 107 [l0, l1, l2, l3, l4] st w = jblk jT0 8 cl bk n 108 [l0, l1, l2, l3, l4] (.inl 1 :: st) w := rfl
theorem E8_108 (x : Int) (y : Int) (a : Nat) (st : List jV) (l0 l1 l2 l3 l4 : Option jV) (w : jH) : jblk jT0 8 cl bk (n + 1) 108 [l0, l1, l2, l3, l4] (.inl y :: .inl x :: jr a :: st) w = jai w a .boolean x y fun w' => jblk jT0 8 cl bk n 109 [l0, l1, l2, l3, l4] st w' := rfl
theorem E8_109 (a : Nat) (st : List jV) (l1 l2 l3 l4 : Option jV) (w : jH) : jblk jT0 8 cl bk (n + 1) 109 [some (jr a), l1, l2, l3, l4] st w = jblk jT0 8 cl bk n 110 [some (jr a), l1, l2, l3, l4] (jr a :: st) w := rfl
theorem E8_110_0 (x : Int) (st : List jV) (l0 l1 l2 l3 l4 : Option jV) (w : jH) : jblk jT0 8 cl bk (n + 1) 110 [l0, l1, l2, l3, l4] (.inl x :: st) w = jblk jT0 8 cl bk n 111 [l0, l1, l2, l3, l4] (.inl x :: .inl x :: st) w := rfl
theorem E8_110_1 (a : Nat) (st : List jV) (l0 l1 l2 l3 l4 : Option jV) (w : jH) : jblk jT0 8 cl bk (n + 1) 110 [l0, l1, l2, l3, l4] (jr a :: st) w = jblk jT0 8 cl bk n 111 [l0, l1, l2, l3, l4] (jr a :: jr a :: st) w := rfl
theorem E8_111 (a : Nat) (st : List jV) (l0 l1 l2 l3 l4 : Option jV) (w : jH) : jblk jT0 8 cl bk (n + 1) 111 [l0, l1, l2, l3, l4] (jr a :: st) w = jgf w a 0 4 fun v => jblk jT0 8 cl bk n 114 [l0, l1, l2, l3, l4] (v :: st) w := rfl
theorem E8_114 (st : List jV) (l0 l1 l2 l3 l4 : Option jV) (w : jH) : jblk jT0 8 cl bk (n + 1) 114 [l0, l1, l2, l3, l4] st w = jblk jT0 8 cl bk n 115 [l0, l1, l2, l3, l4] (.inl 1 :: st) w := rfl
theorem E8_115 (x : Int) (y : Int) (st : List jV) (l0 l1 l2 l3 l4 : Option jV) (w : jH) : jblk jT0 8 cl bk (n + 1) 115 [l0, l1, l2, l3, l4] (.inl y :: .inl x :: st) w = jblk jT0 8 cl bk n 116 [l0, l1, l2, l3, l4] (.inl (jw (x + y)) :: st) w := rfl
theorem E8_116 (a : Nat) (v : jV) (st : List jV) (l0 l1 l2 l3 l4 : Option jV) (w : jH) : jblk jT0 8 cl bk (n + 1) 116 [l0, l1, l2, l3, l4] (v :: jr a :: st) w = jpf w a 0 4 .int v fun w' => jblk jT0 8 cl bk n 119 [l0, l1, l2, l3, l4] st w' := rfl
theorem E8_119 (x : Int) (st : List jV) (l0 l1 l3 l4 : Option jV) (w : jH) : jblk jT0 8 cl bk (n + 1) 119 [l0, l1, some (.inl x), l3, l4] st w = jblk jT0 8 cl bk n 120 [l0, l1, some (.inl x), l3, l4] (.inl x :: st) w := rfl
theorem E8_120 (x : Int) (l0 l1 l2 l3 l4 : Option jV) (w : jH) : jblk jT0 8 cl bk (n + 1) 120 [l0, l1, l2, l3, l4] [.inl x] w = if jfits .int x = true then some (.inl (some (.inl x)), w) else none := rfl
theorem E9_0 (a : Nat) (st : List jV) (l1 : Option jV) (w : jH) : jblk jT0 9 cl bk (n + 1) 0 [some (jr a), l1] st w = jblk jT0 9 cl bk n 1 [some (jr a), l1] (jr a :: st) w := rfl
theorem E9_1 (x : Int) (st : List jV) (l0 : Option jV) (w : jH) : jblk jT0 9 cl bk (n + 1) 1 [l0, some (.inl x)] st w = jblk jT0 9 cl bk n 2 [l0, some (.inl x)] (.inl x :: st) w := rfl
theorem E9_2 (a : Nat) (v0 : jV) (st : List jV) (l0 l1 : Option jV) (w : jH) : jblk jT0 9 cl bk (n + 1) 2 [l0, l1] (v0 :: jr a :: st) w = jsh st (jgo w a 0 fun _ => jcl (cl 1 [jr a, v0] w) (fun v w' => jblk jT0 9 cl bk n 5 [l0, l1] (jpush v st) w') (fun E w' => some (.inr E, w'))) := rfl
theorem E9_5 (x : Int) (st : List jV) (l0 l1 : Option jV) (w : jH) : jblk jT0 9 cl bk (n + 1) 5 [l0, l1] (.inl x :: st) w = if x = 0 then jblk jT0 9 cl bk n 15 [l0, l1] st w else jblk jT0 9 cl bk n 8 [l0, l1] st w := rfl
theorem E9_8 (a : Nat) (st : List jV) (l1 : Option jV) (w : jH) : jblk jT0 9 cl bk (n + 1) 8 [some (jr a), l1] st w = jblk jT0 9 cl bk n 9 [some (jr a), l1] (jr a :: st) w := rfl
theorem E9_9 (a : Nat) (st : List jV) (l0 l1 : Option jV) (w : jH) : jblk jT0 9 cl bk (n + 1) 9 [l0, l1] (jr a :: st) w = jgf w a 0 2 fun v => jblk jT0 9 cl bk n 12 [l0, l1] (v :: st) w := rfl
theorem E9_12 (x : Int) (st : List jV) (l0 : Option jV) (w : jH) : jblk jT0 9 cl bk (n + 1) 12 [l0, some (.inl x)] st w = jblk jT0 9 cl bk n 13 [l0, some (.inl x)] (.inl x :: st) w := rfl
theorem E9_13 (st : List jV) (l0 l1 : Option jV) (w : jH) : jblk jT0 9 cl bk (n + 1) 13 [l0, l1] st w = jblk jT0 9 cl bk n 14 [l0, l1] (.inl 0 :: st) w := rfl
theorem E9_14 (x : Int) (y : Int) (a : Nat) (st : List jV) (l0 l1 : Option jV) (w : jH) : jblk jT0 9 cl bk (n + 1) 14 [l0, l1] (.inl y :: .inl x :: jr a :: st) w = jai w a .boolean x y fun w' => jblk jT0 9 cl bk n 15 [l0, l1] st w' := rfl
theorem E9_15 (l0 l1 : Option jV) (w : jH) : jblk jT0 9 cl bk (n + 1) 15 [l0, l1] [] w = some (.inl none, w) := rfl
theorem E10_0 (st : List jV) (l0 l1 l2 : Option jV) (w : jH) : jblk jT0 10 cl bk (n + 1) 0 [l0, l1, l2] st w = jblk jT0 10 cl bk n 1 [l0, l1, l2] (.inl 0 :: st) w := rfl
theorem E10_1 (x : Int) (st : List jV) (l0 l1 l2 : Option jV) (w : jH) : jblk jT0 10 cl bk (n + 1) 1 [l0, l1, l2] (.inl x :: st) w = jblk jT0 10 cl bk n 2 [l0, some (.inl x), l2] st w := rfl
theorem E10_2 (st : List jV) (l0 l1 l2 : Option jV) (w : jH) : jblk jT0 10 cl bk (n + 1) 2 [l0, l1, l2] st w = jblk jT0 10 cl bk n 3 [l0, l1, l2] (.inl 0 :: st) w := rfl
theorem E10_3 (x : Int) (st : List jV) (l0 l1 l2 : Option jV) (w : jH) : jblk jT0 10 cl bk (n + 1) 3 [l0, l1, l2] (.inl x :: st) w = bk 4 [l0, l1, some (.inl x)] st w := rfl
theorem E10_4 (x : Int) (st : List jV) (l0 l1 : Option jV) (w : jH) : jblk jT0 10 cl bk (n + 1) 4 [l0, l1, some (.inl x)] st w = jblk jT0 10 cl bk n 5 [l0, l1, some (.inl x)] (.inl x :: st) w := rfl
theorem E10_5 (a : Nat) (st : List jV) (l1 l2 : Option jV) (w : jH) : jblk jT0 10 cl bk (n + 1) 5 [some (jr a), l1, l2] st w = jblk jT0 10 cl bk n 6 [some (jr a), l1, l2] (jr a :: st) w := rfl
theorem E10_6 (a : Nat) (st : List jV) (l0 l1 l2 : Option jV) (w : jH) : jblk jT0 10 cl bk (n + 1) 6 [l0, l1, l2] (jr a :: st) w = jgf w a 0 4 fun v => jblk jT0 10 cl bk n 9 [l0, l1, l2] (v :: st) w := rfl
theorem E10_9 (x : Int) (y : Int) (st : List jV) (l0 l1 l2 : Option jV) (w : jH) : jblk jT0 10 cl bk (n + 1) 9 [l0, l1, l2] (.inl y :: .inl x :: st) w = if x < y then jblk jT0 10 cl bk n 12 [l0, l1, l2] st w else jblk jT0 10 cl bk n 30 [l0, l1, l2] st w := rfl
theorem E10_12 (a : Nat) (st : List jV) (l1 l2 : Option jV) (w : jH) : jblk jT0 10 cl bk (n + 1) 12 [some (jr a), l1, l2] st w = jblk jT0 10 cl bk n 13 [some (jr a), l1, l2] (jr a :: st) w := rfl
theorem E10_13 (a : Nat) (st : List jV) (l0 l1 l2 : Option jV) (w : jH) : jblk jT0 10 cl bk (n + 1) 13 [l0, l1, l2] (jr a :: st) w = jgf w a 0 2 fun v => jblk jT0 10 cl bk n 16 [l0, l1, l2] (v :: st) w := rfl
theorem E10_16 (x : Int) (st : List jV) (l0 l1 : Option jV) (w : jH) : jblk jT0 10 cl bk (n + 1) 16 [l0, l1, some (.inl x)] st w = jblk jT0 10 cl bk n 17 [l0, l1, some (.inl x)] (.inl x :: st) w := rfl
theorem E10_17 (x : Int) (a : Nat) (st : List jV) (l0 l1 l2 : Option jV) (w : jH) : jblk jT0 10 cl bk (n + 1) 17 [l0, l1, l2] (.inl x :: jr a :: st) w = jgi w a .boolean x fun z => jblk jT0 10 cl bk n 18 [l0, l1, l2] (.inl z :: st) w := rfl
theorem E10_18 (x : Int) (st : List jV) (l0 l1 l2 : Option jV) (w : jH) : jblk jT0 10 cl bk (n + 1) 18 [l0, l1, l2] (.inl x :: st) w = if x = 0 then jblk jT0 10 cl bk n 24 [l0, l1, l2] st w else jblk jT0 10 cl bk n 21 [l0, l1, l2] st w := rfl
theorem E10_21 (x : Int) (st : List jV) (l0 l2 : Option jV) (w : jH) : jblk jT0 10 cl bk (n + 1) 21 [l0, some (.inl x), l2] st w = jblk jT0 10 cl bk n 24 [l0, some (.inl (jw (x + 1))), l2] st w := rfl
theorem E10_24 (x : Int) (st : List jV) (l0 l1 : Option jV) (w : jH) : jblk jT0 10 cl bk (n + 1) 24 [l0, l1, some (.inl x)] st w = jblk jT0 10 cl bk n 27 [l0, l1, some (.inl (jw (x + 1)))] st w := rfl
theorem E10_27 (st : List jV) (l0 l1 l2 : Option jV) (w : jH) : jblk jT0 10 cl bk (n + 1) 27 [l0, l1, l2] st w = bk 4 [l0, l1, l2] st w := rfl
theorem E10_30 (x : Int) (st : List jV) (l0 l2 : Option jV) (w : jH) : jblk jT0 10 cl bk (n + 1) 30 [l0, some (.inl x), l2] st w = jblk jT0 10 cl bk n 31 [l0, some (.inl x), l2] (.inl x :: st) w := rfl
theorem E10_31 (x : Int) (l0 l1 l2 : Option jV) (w : jH) : jblk jT0 10 cl bk (n + 1) 31 [l0, l1, l2] [.inl x] w = if jfits .int x = true then some (.inl (some (.inl x)), w) else none := rfl
theorem E11_0 (st : List jV) (l0 l1 l2 l3 : Option jV) (w : jH) : jblk jT0 11 cl bk (n + 1) 0 [l0, l1, l2, l3] st w = jblk jT0 11 cl bk n 1 [l0, l1, l2, l3] (.inl 0 :: st) w := rfl
theorem E11_1 (x : Int) (st : List jV) (l0 l1 l2 l3 : Option jV) (w : jH) : jblk jT0 11 cl bk (n + 1) 1 [l0, l1, l2, l3] (.inl x :: st) w = jblk jT0 11 cl bk n 2 [l0, l1, some (.inl x), l3] st w := rfl
theorem E11_2 (st : List jV) (l0 l1 l2 l3 : Option jV) (w : jH) : jblk jT0 11 cl bk (n + 1) 2 [l0, l1, l2, l3] st w = jblk jT0 11 cl bk n 3 [l0, l1, l2, l3] (.inl 0 :: st) w := rfl
theorem E11_3 (x : Int) (st : List jV) (l0 l1 l2 l3 : Option jV) (w : jH) : jblk jT0 11 cl bk (n + 1) 3 [l0, l1, l2, l3] (.inl x :: st) w = bk 4 [l0, l1, l2, some (.inl x)] st w := rfl
theorem E11_4 (x : Int) (st : List jV) (l0 l1 l2 : Option jV) (w : jH) : jblk jT0 11 cl bk (n + 1) 4 [l0, l1, l2, some (.inl x)] st w = jblk jT0 11 cl bk n 5 [l0, l1, l2, some (.inl x)] (.inl x :: st) w := rfl
theorem E11_5 (a : Nat) (st : List jV) (l1 l2 l3 : Option jV) (w : jH) : jblk jT0 11 cl bk (n + 1) 5 [some (jr a), l1, l2, l3] st w = jblk jT0 11 cl bk n 6 [some (jr a), l1, l2, l3] (jr a :: st) w := rfl
theorem E11_6 (a : Nat) (st : List jV) (l0 l1 l2 l3 : Option jV) (w : jH) : jblk jT0 11 cl bk (n + 1) 6 [l0, l1, l2, l3] (jr a :: st) w = jgf w a 0 4 fun v => jblk jT0 11 cl bk n 9 [l0, l1, l2, l3] (v :: st) w := rfl
theorem E11_9 (x : Int) (y : Int) (st : List jV) (l0 l1 l2 l3 : Option jV) (w : jH) : jblk jT0 11 cl bk (n + 1) 9 [l0, l1, l2, l3] (.inl y :: .inl x :: st) w = if x < y then jblk jT0 11 cl bk n 12 [l0, l1, l2, l3] st w else jblk jT0 11 cl bk n 31 [l0, l1, l2, l3] st w := rfl
theorem E11_12 (a : Nat) (st : List jV) (l1 l2 l3 : Option jV) (w : jH) : jblk jT0 11 cl bk (n + 1) 12 [some (jr a), l1, l2, l3] st w = jblk jT0 11 cl bk n 13 [some (jr a), l1, l2, l3] (jr a :: st) w := rfl
theorem E11_13 (a : Nat) (st : List jV) (l0 l1 l2 l3 : Option jV) (w : jH) : jblk jT0 11 cl bk (n + 1) 13 [l0, l1, l2, l3] (jr a :: st) w = jgf w a 0 0 fun v => jblk jT0 11 cl bk n 16 [l0, l1, l2, l3] (v :: st) w := rfl
theorem E11_16 (x : Int) (st : List jV) (l0 l1 l2 : Option jV) (w : jH) : jblk jT0 11 cl bk (n + 1) 16 [l0, l1, l2, some (.inl x)] st w = jblk jT0 11 cl bk n 17 [l0, l1, l2, some (.inl x)] (.inl x :: st) w := rfl
theorem E11_17 (x : Int) (a : Nat) (st : List jV) (l0 l1 l2 l3 : Option jV) (w : jH) : jblk jT0 11 cl bk (n + 1) 17 [l0, l1, l2, l3] (.inl x :: jr a :: st) w = jlda w a x (fun z => jblk jT0 11 cl bk n 18 [l0, l1, l2, l3] (.inl z :: st) w) := rfl
theorem E11_18 (x : Int) (st : List jV) (l0 l2 l3 : Option jV) (w : jH) : jblk jT0 11 cl bk (n + 1) 18 [l0, some (.inl x), l2, l3] st w = jblk jT0 11 cl bk n 19 [l0, some (.inl x), l2, l3] (.inl x :: st) w := rfl
theorem E11_19 (x : Int) (y : Int) (st : List jV) (l0 l1 l2 l3 : Option jV) (w : jH) : jblk jT0 11 cl bk (n + 1) 19 [l0, l1, l2, l3] (.inl y :: .inl x :: st) w = if x = y then jblk jT0 11 cl bk n 22 [l0, l1, l2, l3] st w else jblk jT0 11 cl bk n 25 [l0, l1, l2, l3] st w := rfl
theorem E11_22 (x : Int) (st : List jV) (l0 l1 l3 : Option jV) (w : jH) : jblk jT0 11 cl bk (n + 1) 22 [l0, l1, some (.inl x), l3] st w = jblk jT0 11 cl bk n 25 [l0, l1, some (.inl (jw (x + 1))), l3] st w := rfl
theorem E11_25 (x : Int) (st : List jV) (l0 l1 l2 : Option jV) (w : jH) : jblk jT0 11 cl bk (n + 1) 25 [l0, l1, l2, some (.inl x)] st w = jblk jT0 11 cl bk n 28 [l0, l1, l2, some (.inl (jw (x + 1)))] st w := rfl
theorem E11_28 (st : List jV) (l0 l1 l2 l3 : Option jV) (w : jH) : jblk jT0 11 cl bk (n + 1) 28 [l0, l1, l2, l3] st w = bk 4 [l0, l1, l2, l3] st w := rfl
theorem E11_31 (x : Int) (st : List jV) (l0 l1 l3 : Option jV) (w : jH) : jblk jT0 11 cl bk (n + 1) 31 [l0, l1, some (.inl x), l3] st w = jblk jT0 11 cl bk n 32 [l0, l1, some (.inl x), l3] (.inl x :: st) w := rfl
theorem E11_32 (x : Int) (l0 l1 l2 l3 : Option jV) (w : jH) : jblk jT0 11 cl bk (n + 1) 32 [l0, l1, l2, l3] [.inl x] w = if jfits .int x = true then some (.inl (some (.inl x)), w) else none := rfl
theorem E12_0 (st : List jV) (l0 l1 l2 l3 l4 : Option jV) (w : jH) : jblk jT0 12 cl bk (n + 1) 0 [l0, l1, l2, l3, l4] st w = jblk jT0 12 cl bk n 1 [l0, l1, l2, l3, l4] (.inl 0 :: st) w := rfl
theorem E12_1 (x : Int) (st : List jV) (l0 l1 l2 l3 l4 : Option jV) (w : jH) : jblk jT0 12 cl bk (n + 1) 1 [l0, l1, l2, l3, l4] (.inl x :: st) w = jblk jT0 12 cl bk n 2 [l0, l1, l2, some (.inl x), l4] st w := rfl
theorem E12_2 (st : List jV) (l0 l1 l2 l3 l4 : Option jV) (w : jH) : jblk jT0 12 cl bk (n + 1) 2 [l0, l1, l2, l3, l4] st w = jblk jT0 12 cl bk n 3 [l0, l1, l2, l3, l4] (.inl 0 :: st) w := rfl
theorem E12_3 (x : Int) (st : List jV) (l0 l1 l2 l3 l4 : Option jV) (w : jH) : jblk jT0 12 cl bk (n + 1) 3 [l0, l1, l2, l3, l4] (.inl x :: st) w = bk 5 [l0, l1, l2, l3, some (.inl x)] st w := rfl
theorem E12_5 (x : Int) (st : List jV) (l0 l1 l2 l3 : Option jV) (w : jH) : jblk jT0 12 cl bk (n + 1) 5 [l0, l1, l2, l3, some (.inl x)] st w = jblk jT0 12 cl bk n 7 [l0, l1, l2, l3, some (.inl x)] (.inl x :: st) w := rfl
theorem E12_7 (a : Nat) (st : List jV) (l1 l2 l3 l4 : Option jV) (w : jH) : jblk jT0 12 cl bk (n + 1) 7 [some (jr a), l1, l2, l3, l4] st w = jblk jT0 12 cl bk n 8 [some (jr a), l1, l2, l3, l4] (jr a :: st) w := rfl
theorem E12_8 (a : Nat) (st : List jV) (l0 l1 l2 l3 l4 : Option jV) (w : jH) : jblk jT0 12 cl bk (n + 1) 8 [l0, l1, l2, l3, l4] (jr a :: st) w = jgf w a 0 4 fun v => jblk jT0 12 cl bk n 11 [l0, l1, l2, l3, l4] (v :: st) w := rfl
theorem E12_11 (x : Int) (y : Int) (st : List jV) (l0 l1 l2 l3 l4 : Option jV) (w : jH) : jblk jT0 12 cl bk (n + 1) 11 [l0, l1, l2, l3, l4] (.inl y :: .inl x :: st) w = if x < y then jblk jT0 12 cl bk n 14 [l0, l1, l2, l3, l4] st w else jblk jT0 12 cl bk n 42 [l0, l1, l2, l3, l4] st w := rfl
theorem E12_14 (a : Nat) (st : List jV) (l1 l2 l3 l4 : Option jV) (w : jH) : jblk jT0 12 cl bk (n + 1) 14 [some (jr a), l1, l2, l3, l4] st w = jblk jT0 12 cl bk n 15 [some (jr a), l1, l2, l3, l4] (jr a :: st) w := rfl
theorem E12_15 (a : Nat) (st : List jV) (l0 l1 l2 l3 l4 : Option jV) (w : jH) : jblk jT0 12 cl bk (n + 1) 15 [l0, l1, l2, l3, l4] (jr a :: st) w = jgf w a 0 0 fun v => jblk jT0 12 cl bk n 18 [l0, l1, l2, l3, l4] (v :: st) w := rfl
theorem E12_18 (x : Int) (st : List jV) (l0 l1 l2 l3 : Option jV) (w : jH) : jblk jT0 12 cl bk (n + 1) 18 [l0, l1, l2, l3, some (.inl x)] st w = jblk jT0 12 cl bk n 20 [l0, l1, l2, l3, some (.inl x)] (.inl x :: st) w := rfl
theorem E12_20 (x : Int) (a : Nat) (st : List jV) (l0 l1 l2 l3 l4 : Option jV) (w : jH) : jblk jT0 12 cl bk (n + 1) 20 [l0, l1, l2, l3, l4] (.inl x :: jr a :: st) w = jlda w a x (fun z => jblk jT0 12 cl bk n 21 [l0, l1, l2, l3, l4] (.inl z :: st) w) := rfl
theorem E12_21 (x : Int) (st : List jV) (l0 l2 l3 l4 : Option jV) (w : jH) : jblk jT0 12 cl bk (n + 1) 21 [l0, some (.inl x), l2, l3, l4] st w = jblk jT0 12 cl bk n 22 [l0, some (.inl x), l2, l3, l4] (.inl x :: st) w := rfl
theorem E12_22 (x : Int) (y : Int) (st : List jV) (l0 l1 l2 l3 l4 : Option jV) (w : jH) : jblk jT0 12 cl bk (n + 1) 22 [l0, l1, l2, l3, l4] (.inl y :: .inl x :: st) w = if x = y then jblk jT0 12 cl bk n 25 [l0, l1, l2, l3, l4] st w else jblk jT0 12 cl bk n 36 [l0, l1, l2, l3, l4] st w := rfl
theorem E12_25 (x : Int) (st : List jV) (l0 l1 l2 l4 : Option jV) (w : jH) : jblk jT0 12 cl bk (n + 1) 25 [l0, l1, l2, some (.inl x), l4] st w = jblk jT0 12 cl bk n 26 [l0, l1, l2, some (.inl x), l4] (.inl x :: st) w := rfl
theorem E12_26 (x : Int) (st : List jV) (l0 l1 l3 l4 : Option jV) (w : jH) : jblk jT0 12 cl bk (n + 1) 26 [l0, l1, some (.inl x), l3, l4] st w = jblk jT0 12 cl bk n 27 [l0, l1, some (.inl x), l3, l4] (.inl x :: st) w := rfl
theorem E12_27 (x : Int) (y : Int) (st : List jV) (l0 l1 l2 l3 l4 : Option jV) (w : jH) : jblk jT0 12 cl bk (n + 1) 27 [l0, l1, l2, l3, l4] (.inl y :: .inl x :: st) w = if x = y then jblk jT0 12 cl bk n 30 [l0, l1, l2, l3, l4] st w else jblk jT0 12 cl bk n 33 [l0, l1, l2, l3, l4] st w := rfl
theorem E12_30 (x : Int) (st : List jV) (l0 l1 l2 l3 : Option jV) (w : jH) : jblk jT0 12 cl bk (n + 1) 30 [l0, l1, l2, l3, some (.inl x)] st w = jblk jT0 12 cl bk n 32 [l0, l1, l2, l3, some (.inl x)] (.inl x :: st) w := rfl
theorem E12_32 (x : Int) (l0 l1 l2 l3 l4 : Option jV) (w : jH) : jblk jT0 12 cl bk (n + 1) 32 [l0, l1, l2, l3, l4] [.inl x] w = if jfits .int x = true then some (.inl (some (.inl x)), w) else none := rfl
theorem E12_33 (x : Int) (st : List jV) (l0 l1 l2 l4 : Option jV) (w : jH) : jblk jT0 12 cl bk (n + 1) 33 [l0, l1, l2, some (.inl x), l4] st w = jblk jT0 12 cl bk n 36 [l0, l1, l2, some (.inl (jw (x + 1))), l4] st w := rfl
theorem E12_36 (x : Int) (st : List jV) (l0 l1 l2 l3 : Option jV) (w : jH) : jblk jT0 12 cl bk (n + 1) 36 [l0, l1, l2, l3, some (.inl x)] st w = jblk jT0 12 cl bk n 39 [l0, l1, l2, l3, some (.inl (jw (x + 1)))] st w := rfl
theorem E12_39 (st : List jV) (l0 l1 l2 l3 l4 : Option jV) (w : jH) : jblk jT0 12 cl bk (n + 1) 39 [l0, l1, l2, l3, l4] st w = bk 5 [l0, l1, l2, l3, l4] st w := rfl
theorem E12_42 (st : List jV) (l0 l1 l2 l3 l4 : Option jV) (w : jH) : jblk jT0 12 cl bk (n + 1) 42 [l0, l1, l2, l3, l4] st w = jblk jT0 12 cl bk n 43 [l0, l1, l2, l3, l4] (.inl (-1) :: st) w := rfl
theorem E12_43 (x : Int) (l0 l1 l2 l3 l4 : Option jV) (w : jH) : jblk jT0 12 cl bk (n + 1) 43 [l0, l1, l2, l3, l4] [.inl x] w = if jfits .int x = true then some (.inl (some (.inl x)), w) else none := rfl
theorem E13_0 (st : List jV) (l0 l1 l2 l3 l4 : Option jV) (w : jH) : jblk jT0 13 cl bk (n + 1) 0 [l0, l1, l2, l3, l4] st w = jblk jT0 13 cl bk n 1 [l0, l1, l2, l3, l4] (.inl 0 :: st) w := rfl
theorem E13_1 (x : Int) (st : List jV) (l0 l1 l2 l3 l4 : Option jV) (w : jH) : jblk jT0 13 cl bk (n + 1) 1 [l0, l1, l2, l3, l4] (.inl x :: st) w = jblk jT0 13 cl bk n 2 [l0, l1, some (.inl x), l3, l4] st w := rfl
theorem E13_2 (a : Nat) (st : List jV) (l1 l2 l3 l4 : Option jV) (w : jH) : jblk jT0 13 cl bk (n + 1) 2 [some (jr a), l1, l2, l3, l4] st w = jblk jT0 13 cl bk n 3 [some (jr a), l1, l2, l3, l4] (jr a :: st) w := rfl
theorem E13_3 (x : Int) (st : List jV) (l0 l2 l3 l4 : Option jV) (w : jH) : jblk jT0 13 cl bk (n + 1) 3 [l0, some (.inl x), l2, l3, l4] st w = jblk jT0 13 cl bk n 4 [l0, some (.inl x), l2, l3, l4] (.inl x :: st) w := rfl
theorem E13_4 (a : Nat) (v0 : jV) (st : List jV) (l0 l1 l2 l3 l4 : Option jV) (w : jH) : jblk jT0 13 cl bk (n + 1) 4 [l0, l1, l2, l3, l4] (v0 :: jr a :: st) w = jsh st (jgo w a 0 fun _ => jcl (cl 7 [jr a, v0] w) (fun v w' => jblk jT0 13 cl bk n 7 [l0, l1, l2, l3, l4] (jpush v st) w') (fun E w' => some (.inr E, w'))) := rfl
theorem E13_7 (x : Int) (st : List jV) (l0 l1 l2 l3 l4 : Option jV) (w : jH) : jblk jT0 13 cl bk (n + 1) 7 [l0, l1, l2, l3, l4] (.inl x :: st) w = jblk jT0 13 cl bk n 8 [l0, l1, l2, some (.inl x), l4] st w := rfl
theorem E13_8 (a : Nat) (st : List jV) (l1 l2 l3 l4 : Option jV) (w : jH) : jblk jT0 13 cl bk (n + 1) 8 [some (jr a), l1, l2, l3, l4] st w = jblk jT0 13 cl bk n 9 [some (jr a), l1, l2, l3, l4] (jr a :: st) w := rfl
theorem E13_9 (x : Int) (st : List jV) (l0 l2 l3 l4 : Option jV) (w : jH) : jblk jT0 13 cl bk (n + 1) 9 [l0, some (.inl x), l2, l3, l4] st w = jblk jT0 13 cl bk n 10 [l0, some (.inl x), l2, l3, l4] (.inl x :: st) w := rfl
theorem E13_10 (a : Nat) (v0 : jV) (st : List jV) (l0 l1 l2 l3 l4 : Option jV) (w : jH) : jblk jT0 13 cl bk (n + 1) 10 [l0, l1, l2, l3, l4] (v0 :: jr a :: st) w = jsh st (jgo w a 0 fun _ => jcl (cl 6 [jr a, v0] w) (fun v w' => jblk jT0 13 cl bk n 13 [l0, l1, l2, l3, l4] (jpush v st) w') (fun E w' => some (.inr E, w'))) := rfl
theorem E13_13 (st : List jV) (l0 l1 l2 l3 l4 : Option jV) (w : jH) : jblk jT0 13 cl bk (n + 1) 13 [l0, l1, l2, l3, l4] st w = jblk jT0 13 cl bk n 14 [l0, l1, l2, l3, l4] (.inl 1 :: st) w := rfl
theorem E13_14 (x : Int) (y : Int) (st : List jV) (l0 l1 l2 l3 l4 : Option jV) (w : jH) : jblk jT0 13 cl bk (n + 1) 14 [l0, l1, l2, l3, l4] (.inl y :: .inl x :: st) w = jblk jT0 13 cl bk n 15 [l0, l1, l2, l3, l4] (.inl (jw (x + y)) :: st) w := rfl
theorem E13_15 (x : Int) (st : List jV) (l0 l1 l2 l3 l4 : Option jV) (w : jH) : jblk jT0 13 cl bk (n + 1) 15 [l0, l1, l2, l3, l4] (.inl x :: st) w = bk 17 [l0, l1, l2, l3, some (.inl x)] st w := rfl
theorem E13_17 (x : Int) (st : List jV) (l0 l1 l2 l3 : Option jV) (w : jH) : jblk jT0 13 cl bk (n + 1) 17 [l0, l1, l2, l3, some (.inl x)] st w = jblk jT0 13 cl bk n 19 [l0, l1, l2, l3, some (.inl x)] (.inl x :: st) w := rfl
theorem E13_19 (x : Int) (st : List jV) (l0 l1 l2 l4 : Option jV) (w : jH) : jblk jT0 13 cl bk (n + 1) 19 [l0, l1, l2, some (.inl x), l4] st w = jblk jT0 13 cl bk n 20 [l0, l1, l2, some (.inl x), l4] (.inl x :: st) w := rfl
theorem E13_20 (x : Int) (y : Int) (st : List jV) (l0 l1 l2 l3 l4 : Option jV) (w : jH) : jblk jT0 13 cl bk (n + 1) 20 [l0, l1, l2, l3, l4] (.inl y :: .inl x :: st) w = if x < y then jblk jT0 13 cl bk n 23 [l0, l1, l2, l3, l4] st w else jblk jT0 13 cl bk n 45 [l0, l1, l2, l3, l4] st w := rfl
theorem E13_23 (a : Nat) (st : List jV) (l1 l2 l3 l4 : Option jV) (w : jH) : jblk jT0 13 cl bk (n + 1) 23 [some (jr a), l1, l2, l3, l4] st w = jblk jT0 13 cl bk n 24 [some (jr a), l1, l2, l3, l4] (jr a :: st) w := rfl
theorem E13_24 (a : Nat) (st : List jV) (l1 l2 l3 l4 : Option jV) (w : jH) : jblk jT0 13 cl bk (n + 1) 24 [some (jr a), l1, l2, l3, l4] st w = jblk jT0 13 cl bk n 25 [some (jr a), l1, l2, l3, l4] (jr a :: st) w := rfl
theorem E13_25 (x : Int) (st : List jV) (l0 l1 l2 l3 : Option jV) (w : jH) : jblk jT0 13 cl bk (n + 1) 25 [l0, l1, l2, l3, some (.inl x)] st w = jblk jT0 13 cl bk n 27 [l0, l1, l2, l3, some (.inl x)] (.inl x :: st) w := rfl
theorem E13_27 (a : Nat) (v0 : jV) (st : List jV) (l0 l1 l2 l3 l4 : Option jV) (w : jH) : jblk jT0 13 cl bk (n + 1) 27 [l0, l1, l2, l3, l4] (v0 :: jr a :: st) w = jsh st (jgo w a 0 fun _ => jcl (cl 5 [jr a, v0] w) (fun v w' => jblk jT0 13 cl bk n 30 [l0, l1, l2, l3, l4] (jpush v st) w') (fun E w' => some (.inr E, w'))) := rfl
theorem E13_30 (a : Nat) (v0 : jV) (st : List jV) (l0 l1 l2 l3 l4 : Option jV) (w : jH) : jblk jT0 13 cl bk (n + 1) 30 [l0, l1, l2, l3, l4] (v0 :: jr a :: st) w = jsh st (jgo w a 0 fun _ => jcl (cl 2 [jr a, v0] w) (fun v w' => jblk jT0 13 cl bk n 33 [l0, l1, l2, l3, l4] (jpush v st) w') (fun E w' => some (.inr E, w'))) := rfl
theorem E13_33 (x : Int) (st : List jV) (l0 l1 l2 l3 l4 : Option jV) (w : jH) : jblk jT0 13 cl bk (n + 1) 33 [l0, l1, l2, l3, l4] (.inl x :: st) w = if x = 0 then jblk jT0 13 cl bk n 39 [l0, l1, l2, l3, l4] st w else jblk jT0 13 cl bk n 36 [l0, l1, l2, l3, l4] st w := rfl
theorem E13_36 (x : Int) (st : List jV) (l0 l1 l3 l4 : Option jV) (w : jH) : jblk jT0 13 cl bk (n + 1) 36 [l0, l1, some (.inl x), l3, l4] st w = jblk jT0 13 cl bk n 39 [l0, l1, some (.inl (jw (x + 1))), l3, l4] st w := rfl
theorem E13_39 (x : Int) (st : List jV) (l0 l1 l2 l3 : Option jV) (w : jH) : jblk jT0 13 cl bk (n + 1) 39 [l0, l1, l2, l3, some (.inl x)] st w = jblk jT0 13 cl bk n 42 [l0, l1, l2, l3, some (.inl (jw (x + 1)))] st w := rfl
theorem E13_42 (st : List jV) (l0 l1 l2 l3 l4 : Option jV) (w : jH) : jblk jT0 13 cl bk (n + 1) 42 [l0, l1, l2, l3, l4] st w = bk 17 [l0, l1, l2, l3, l4] st w := rfl
theorem E13_45 (x : Int) (st : List jV) (l0 l1 l3 l4 : Option jV) (w : jH) : jblk jT0 13 cl bk (n + 1) 45 [l0, l1, some (.inl x), l3, l4] st w = jblk jT0 13 cl bk n 46 [l0, l1, some (.inl x), l3, l4] (.inl x :: st) w := rfl
theorem E13_46 (x : Int) (l0 l1 l2 l3 l4 : Option jV) (w : jH) : jblk jT0 13 cl bk (n + 1) 46 [l0, l1, l2, l3, l4] [.inl x] w = if jfits .int x = true then some (.inl (some (.inl x)), w) else none := rfl
theorem E14_0 (a : Nat) (st : List jV) (l1 l2 l3 l4 l5 : Option jV) (w : jH) : jblk jT0 14 cl bk (n + 1) 0 [some (jr a), l1, l2, l3, l4, l5] st w = jblk jT0 14 cl bk n 1 [some (jr a), l1, l2, l3, l4, l5] (jr a :: st) w := rfl
theorem E14_1 (x : Int) (st : List jV) (l0 l2 l3 l4 l5 : Option jV) (w : jH) : jblk jT0 14 cl bk (n + 1) 1 [l0, some (.inl x), l2, l3, l4, l5] st w = jblk jT0 14 cl bk n 2 [l0, some (.inl x), l2, l3, l4, l5] (.inl x :: st) w := rfl
theorem E14_2 (a : Nat) (v0 : jV) (st : List jV) (l0 l1 l2 l3 l4 l5 : Option jV) (w : jH) : jblk jT0 14 cl bk (n + 1) 2 [l0, l1, l2, l3, l4, l5] (v0 :: jr a :: st) w = jsh st (jgo w a 0 fun _ => jcl (cl 7 [jr a, v0] w) (fun v w' => jblk jT0 14 cl bk n 5 [l0, l1, l2, l3, l4, l5] (jpush v st) w') (fun E w' => some (.inr E, w'))) := rfl
theorem E14_5 (x : Int) (st : List jV) (l0 l1 l2 l3 l4 l5 : Option jV) (w : jH) : jblk jT0 14 cl bk (n + 1) 5 [l0, l1, l2, l3, l4, l5] (.inl x :: st) w = jblk jT0 14 cl bk n 6 [l0, l1, l2, some (.inl x), l4, l5] st w := rfl
theorem E14_6 (a : Nat) (st : List jV) (l1 l2 l3 l4 l5 : Option jV) (w : jH) : jblk jT0 14 cl bk (n + 1) 6 [some (jr a), l1, l2, l3, l4, l5] st w = jblk jT0 14 cl bk n 7 [some (jr a), l1, l2, l3, l4, l5] (jr a :: st) w := rfl
theorem E14_7 (x : Int) (st : List jV) (l0 l2 l3 l4 l5 : Option jV) (w : jH) : jblk jT0 14 cl bk (n + 1) 7 [l0, some (.inl x), l2, l3, l4, l5] st w = jblk jT0 14 cl bk n 8 [l0, some (.inl x), l2, l3, l4, l5] (.inl x :: st) w := rfl
theorem E14_8 (a : Nat) (v0 : jV) (st : List jV) (l0 l1 l2 l3 l4 l5 : Option jV) (w : jH) : jblk jT0 14 cl bk (n + 1) 8 [l0, l1, l2, l3, l4, l5] (v0 :: jr a :: st) w = jsh st (jgo w a 0 fun _ => jcl (cl 6 [jr a, v0] w) (fun v w' => jblk jT0 14 cl bk n 11 [l0, l1, l2, l3, l4, l5] (jpush v st) w') (fun E w' => some (.inr E, w'))) := rfl
theorem E14_11 (st : List jV) (l0 l1 l2 l3 l4 l5 : Option jV) (w : jH) : jblk jT0 14 cl bk (n + 1) 11 [l0, l1, l2, l3, l4, l5] st w = jblk jT0 14 cl bk n 12 [l0, l1, l2, l3, l4, l5] (.inl 1 :: st) w := rfl
theorem E14_12 (x : Int) (y : Int) (st : List jV) (l0 l1 l2 l3 l4 l5 : Option jV) (w : jH) : jblk jT0 14 cl bk (n + 1) 12 [l0, l1, l2, l3, l4, l5] (.inl y :: .inl x :: st) w = jblk jT0 14 cl bk n 13 [l0, l1, l2, l3, l4, l5] (.inl (jw (x + y)) :: st) w := rfl
theorem E14_13 (x : Int) (st : List jV) (l0 l1 l2 l3 l4 l5 : Option jV) (w : jH) : jblk jT0 14 cl bk (n + 1) 13 [l0, l1, l2, l3, l4, l5] (.inl x :: st) w = bk 15 [l0, l1, l2, l3, some (.inl x), l5] st w := rfl
theorem E14_15 (x : Int) (st : List jV) (l0 l1 l2 l3 l5 : Option jV) (w : jH) : jblk jT0 14 cl bk (n + 1) 15 [l0, l1, l2, l3, some (.inl x), l5] st w = jblk jT0 14 cl bk n 17 [l0, l1, l2, l3, some (.inl x), l5] (.inl x :: st) w := rfl
theorem E14_17 (x : Int) (st : List jV) (l0 l1 l2 l4 l5 : Option jV) (w : jH) : jblk jT0 14 cl bk (n + 1) 17 [l0, l1, l2, some (.inl x), l4, l5] st w = jblk jT0 14 cl bk n 18 [l0, l1, l2, some (.inl x), l4, l5] (.inl x :: st) w := rfl
theorem E14_18 (x : Int) (y : Int) (st : List jV) (l0 l1 l2 l3 l4 l5 : Option jV) (w : jH) : jblk jT0 14 cl bk (n + 1) 18 [l0, l1, l2, l3, l4, l5] (.inl y :: .inl x :: st) w = if x < y then jblk jT0 14 cl bk n 21 [l0, l1, l2, l3, l4, l5] st w else jblk jT0 14 cl bk n 53 [l0, l1, l2, l3, l4, l5] st w := rfl
theorem E14_21 (a : Nat) (st : List jV) (l1 l2 l3 l4 l5 : Option jV) (w : jH) : jblk jT0 14 cl bk (n + 1) 21 [some (jr a), l1, l2, l3, l4, l5] st w = jblk jT0 14 cl bk n 22 [some (jr a), l1, l2, l3, l4, l5] (jr a :: st) w := rfl
theorem E14_22 (x : Int) (st : List jV) (l0 l1 l2 l3 l5 : Option jV) (w : jH) : jblk jT0 14 cl bk (n + 1) 22 [l0, l1, l2, l3, some (.inl x), l5] st w = jblk jT0 14 cl bk n 24 [l0, l1, l2, l3, some (.inl x), l5] (.inl x :: st) w := rfl
theorem E14_24 (a : Nat) (v0 : jV) (st : List jV) (l0 l1 l2 l3 l4 l5 : Option jV) (w : jH) : jblk jT0 14 cl bk (n + 1) 24 [l0, l1, l2, l3, l4, l5] (v0 :: jr a :: st) w = jsh st (jgo w a 0 fun _ => jcl (cl 5 [jr a, v0] w) (fun v w' => jblk jT0 14 cl bk n 27 [l0, l1, l2, l3, l4, l5] (jpush v st) w') (fun E w' => some (.inr E, w'))) := rfl
theorem E14_27 (x : Int) (st : List jV) (l0 l1 l2 l3 l4 l5 : Option jV) (w : jH) : jblk jT0 14 cl bk (n + 1) 27 [l0, l1, l2, l3, l4, l5] (.inl x :: st) w = jblk jT0 14 cl bk n 29 [l0, l1, l2, l3, l4, some (.inl x)] st w := rfl
theorem E14_29 (x : Int) (st : List jV) (l0 l1 l2 l3 l4 : Option jV) (w : jH) : jblk jT0 14 cl bk (n + 1) 29 [l0, l1, l2, l3, l4, some (.inl x)] st w = jblk jT0 14 cl bk n 31 [l0, l1, l2, l3, l4, some (.inl x)] (.inl x :: st) w := rfl
theorem E14_31 (x : Int) (st : List jV) (l0 l1 l3 l4 l5 : Option jV) (w : jH) : jblk jT0 14 cl bk (n + 1) 31 [l0, l1, some (.inl x), l3, l4, l5] st w = jblk jT0 14 cl bk n 32 [l0, l1, some (.inl x), l3, l4, l5] (.inl x :: st) w := rfl
theorem E14_32 (x : Int) (y : Int) (st : List jV) (l0 l1 l2 l3 l4 l5 : Option jV) (w : jH) : jblk jT0 14 cl bk (n + 1) 32 [l0, l1, l2, l3, l4, l5] (.inl y :: .inl x :: st) w = if x = y then jblk jT0 14 cl bk n 47 [l0, l1, l2, l3, l4, l5] st w else jblk jT0 14 cl bk n 35 [l0, l1, l2, l3, l4, l5] st w := rfl
theorem E14_35 (a : Nat) (st : List jV) (l1 l2 l3 l4 l5 : Option jV) (w : jH) : jblk jT0 14 cl bk (n + 1) 35 [some (jr a), l1, l2, l3, l4, l5] st w = jblk jT0 14 cl bk n 36 [some (jr a), l1, l2, l3, l4, l5] (jr a :: st) w := rfl
theorem E14_36 (x : Int) (st : List jV) (l0 l1 l2 l3 l4 : Option jV) (w : jH) : jblk jT0 14 cl bk (n + 1) 36 [l0, l1, l2, l3, l4, some (.inl x)] st w = jblk jT0 14 cl bk n 38 [l0, l1, l2, l3, l4, some (.inl x)] (.inl x :: st) w := rfl
theorem E14_38 (a : Nat) (v0 : jV) (st : List jV) (l0 l1 l2 l3 l4 l5 : Option jV) (w : jH) : jblk jT0 14 cl bk (n + 1) 38 [l0, l1, l2, l3, l4, l5] (v0 :: jr a :: st) w = jsh st (jgo w a 0 fun _ => jcl (cl 2 [jr a, v0] w) (fun v w' => jblk jT0 14 cl bk n 41 [l0, l1, l2, l3, l4, l5] (jpush v st) w') (fun E w' => some (.inr E, w'))) := rfl
theorem E14_41 (x : Int) (st : List jV) (l0 l1 l2 l3 l4 l5 : Option jV) (w : jH) : jblk jT0 14 cl bk (n + 1) 41 [l0, l1, l2, l3, l4, l5] (.inl x :: st) w = if x = 0 then jblk jT0 14 cl bk n 47 [l0, l1, l2, l3, l4, l5] st w else jblk jT0 14 cl bk n 44 [l0, l1, l2, l3, l4, l5] st w := rfl
theorem E14_44 (x : Int) (st : List jV) (l0 l1 l2 l3 l4 : Option jV) (w : jH) : jblk jT0 14 cl bk (n + 1) 44 [l0, l1, l2, l3, l4, some (.inl x)] st w = jblk jT0 14 cl bk n 46 [l0, l1, l2, l3, l4, some (.inl x)] (.inl x :: st) w := rfl
theorem E14_46 (x : Int) (l0 l1 l2 l3 l4 l5 : Option jV) (w : jH) : jblk jT0 14 cl bk (n + 1) 46 [l0, l1, l2, l3, l4, l5] [.inl x] w = if jfits .int x = true then some (.inl (some (.inl x)), w) else none := rfl
theorem E14_47 (x : Int) (st : List jV) (l0 l1 l2 l3 l5 : Option jV) (w : jH) : jblk jT0 14 cl bk (n + 1) 47 [l0, l1, l2, l3, some (.inl x), l5] st w = jblk jT0 14 cl bk n 50 [l0, l1, l2, l3, some (.inl (jw (x + 1))), l5] st w := rfl
theorem E14_50 (st : List jV) (l0 l1 l2 l3 l4 l5 : Option jV) (w : jH) : jblk jT0 14 cl bk (n + 1) 50 [l0, l1, l2, l3, l4, l5] st w = bk 15 [l0, l1, l2, l3, l4, l5] st w := rfl
theorem E14_53 (st : List jV) (l0 l1 l2 l3 l4 l5 : Option jV) (w : jH) : jblk jT0 14 cl bk (n + 1) 53 [l0, l1, l2, l3, l4, l5] st w = jblk jT0 14 cl bk n 54 [l0, l1, l2, l3, l4, l5] (.inl (-1) :: st) w := rfl
theorem E14_54 (x : Int) (l0 l1 l2 l3 l4 l5 : Option jV) (w : jH) : jblk jT0 14 cl bk (n + 1) 54 [l0, l1, l2, l3, l4, l5] [.inl x] w = if jfits .int x = true then some (.inl (some (.inl x)), w) else none := rfl
theorem E15_0 (x : Int) (st : List jV) (l0 l2 l3 l4 l5 : Option jV) (w : jH) : jblk jT0 15 cl bk (n + 1) 0 [l0, some (.inl x), l2, l3, l4, l5] st w = jblk jT0 15 cl bk n 1 [l0, some (.inl x), l2, l3, l4, l5] (.inl x :: st) w := rfl
theorem E15_1 (x : Int) (st : List jV) (l0 l1 l2 l3 l4 l5 : Option jV) (w : jH) : jblk jT0 15 cl bk (n + 1) 1 [l0, l1, l2, l3, l4, l5] (.inl x :: st) w = jblk jT0 15 cl bk n 2 [l0, l1, l2, some (.inl x), l4, l5] st w := rfl
theorem E15_2 (x : Int) (st : List jV) (l0 l1 l3 l4 l5 : Option jV) (w : jH) : jblk jT0 15 cl bk (n + 1) 2 [l0, l1, some (.inl x), l3, l4, l5] st w = jblk jT0 15 cl bk n 3 [l0, l1, some (.inl x), l3, l4, l5] (.inl x :: st) w := rfl
theorem E15_3 (x : Int) (st : List jV) (l0 l1 l2 l3 l4 l5 : Option jV) (w : jH) : jblk jT0 15 cl bk (n + 1) 3 [l0, l1, l2, l3, l4, l5] (.inl x :: st) w = jblk jT0 15 cl bk n 5 [l0, l1, l2, l3, some (.inl x), l5] st w := rfl
theorem E15_5 (st : List jV) (l0 l1 l2 l3 l4 l5 : Option jV) (w : jH) : jblk jT0 15 cl bk (n + 1) 5 [l0, l1, l2, l3, l4, l5] st w = jblk jT0 15 cl bk n 6 [l0, l1, l2, l3, l4, l5] (.inl 0 :: st) w := rfl
theorem E15_6 (x : Int) (st : List jV) (l0 l1 l2 l3 l4 l5 : Option jV) (w : jH) : jblk jT0 15 cl bk (n + 1) 6 [l0, l1, l2, l3, l4, l5] (.inl x :: st) w = bk 8 [l0, l1, l2, l3, l4, some (.inl x)] st w := rfl
theorem E15_8 (x : Int) (st : List jV) (l0 l1 l2 l3 l4 : Option jV) (w : jH) : jblk jT0 15 cl bk (n + 1) 8 [l0, l1, l2, l3, l4, some (.inl x)] st w = jblk jT0 15 cl bk n 10 [l0, l1, l2, l3, l4, some (.inl x)] (.inl x :: st) w := rfl
theorem E15_10 (st : List jV) (l0 l1 l2 l3 l4 l5 : Option jV) (w : jH) : jblk jT0 15 cl bk (n + 1) 10 [l0, l1, l2, l3, l4, l5] st w = jblk jT0 15 cl bk n 12 [l0, l1, l2, l3, l4, l5] (.inl 32 :: st) w := rfl
theorem E15_12 (x : Int) (y : Int) (st : List jV) (l0 l1 l2 l3 l4 l5 : Option jV) (w : jH) : jblk jT0 15 cl bk (n + 1) 12 [l0, l1, l2, l3, l4, l5] (.inl y :: .inl x :: st) w = if x < y then jblk jT0 15 cl bk n 15 [l0, l1, l2, l3, l4, l5] st w else jblk jT0 15 cl bk n 58 [l0, l1, l2, l3, l4, l5] st w := rfl
theorem E15_15 (x : Int) (st : List jV) (l0 l1 l2 l4 l5 : Option jV) (w : jH) : jblk jT0 15 cl bk (n + 1) 15 [l0, l1, l2, some (.inl x), l4, l5] st w = jblk jT0 15 cl bk n 16 [l0, l1, l2, some (.inl x), l4, l5] (.inl x :: st) w := rfl
theorem E15_16 (x : Int) (st : List jV) (l0 l1 l2 l3 l5 : Option jV) (w : jH) : jblk jT0 15 cl bk (n + 1) 16 [l0, l1, l2, l3, some (.inl x), l5] st w = jblk jT0 15 cl bk n 18 [l0, l1, l2, l3, some (.inl x), l5] (.inl x :: st) w := rfl
theorem E15_18 (x : Int) (y : Int) (st : List jV) (l0 l1 l2 l3 l4 l5 : Option jV) (w : jH) : jblk jT0 15 cl bk (n + 1) 18 [l0, l1, l2, l3, l4, l5] (.inl y :: .inl x :: st) w = if x = y then jblk jT0 15 cl bk n 58 [l0, l1, l2, l3, l4, l5] st w else jblk jT0 15 cl bk n 21 [l0, l1, l2, l3, l4, l5] st w := rfl
theorem E15_21 (a : Nat) (st : List jV) (l1 l2 l3 l4 l5 : Option jV) (w : jH) : jblk jT0 15 cl bk (n + 1) 21 [some (jr a), l1, l2, l3, l4, l5] st w = jblk jT0 15 cl bk n 22 [some (jr a), l1, l2, l3, l4, l5] (jr a :: st) w := rfl
theorem E15_22 (x : Int) (st : List jV) (l0 l1 l2 l4 l5 : Option jV) (w : jH) : jblk jT0 15 cl bk (n + 1) 22 [l0, l1, l2, some (.inl x), l4, l5] st w = jblk jT0 15 cl bk n 23 [l0, l1, l2, some (.inl x), l4, l5] (.inl x :: st) w := rfl
theorem E15_23 (a : Nat) (v0 : jV) (st : List jV) (l0 l1 l2 l3 l4 l5 : Option jV) (w : jH) : jblk jT0 15 cl bk (n + 1) 23 [l0, l1, l2, l3, l4, l5] (v0 :: jr a :: st) w = jsh st (jgo w a 0 fun _ => jcl (cl 4 [jr a, v0] w) (fun v w' => jblk jT0 15 cl bk n 26 [l0, l1, l2, l3, l4, l5] (jpush v st) w') (fun E w' => some (.inr E, w'))) := rfl
theorem E15_26 (a : Nat) (st : List jV) (l1 l2 l3 l4 l5 : Option jV) (w : jH) : jblk jT0 15 cl bk (n + 1) 26 [some (jr a), l1, l2, l3, l4, l5] st w = jblk jT0 15 cl bk n 27 [some (jr a), l1, l2, l3, l4, l5] (jr a :: st) w := rfl
theorem E15_27 (x : Int) (st : List jV) (l0 l1 l2 l3 l5 : Option jV) (w : jH) : jblk jT0 15 cl bk (n + 1) 27 [l0, l1, l2, l3, some (.inl x), l5] st w = jblk jT0 15 cl bk n 29 [l0, l1, l2, l3, some (.inl x), l5] (.inl x :: st) w := rfl
theorem E15_29 (a : Nat) (v0 : jV) (st : List jV) (l0 l1 l2 l3 l4 l5 : Option jV) (w : jH) : jblk jT0 15 cl bk (n + 1) 29 [l0, l1, l2, l3, l4, l5] (v0 :: jr a :: st) w = jsh st (jgo w a 0 fun _ => jcl (cl 4 [jr a, v0] w) (fun v w' => jblk jT0 15 cl bk n 32 [l0, l1, l2, l3, l4, l5] (jpush v st) w') (fun E w' => some (.inr E, w'))) := rfl
theorem E15_32 (x : Int) (y : Int) (st : List jV) (l0 l1 l2 l3 l4 l5 : Option jV) (w : jH) : jblk jT0 15 cl bk (n + 1) 32 [l0, l1, l2, l3, l4, l5] (.inl y :: .inl x :: st) w = if x < y then jblk jT0 15 cl bk n 44 [l0, l1, l2, l3, l4, l5] st w else jblk jT0 15 cl bk n 35 [l0, l1, l2, l3, l4, l5] st w := rfl
theorem E15_35 (a : Nat) (st : List jV) (l1 l2 l3 l4 l5 : Option jV) (w : jH) : jblk jT0 15 cl bk (n + 1) 35 [some (jr a), l1, l2, l3, l4, l5] st w = jblk jT0 15 cl bk n 36 [some (jr a), l1, l2, l3, l4, l5] (jr a :: st) w := rfl
theorem E15_36 (x : Int) (st : List jV) (l0 l1 l2 l4 l5 : Option jV) (w : jH) : jblk jT0 15 cl bk (n + 1) 36 [l0, l1, l2, some (.inl x), l4, l5] st w = jblk jT0 15 cl bk n 37 [l0, l1, l2, some (.inl x), l4, l5] (.inl x :: st) w := rfl
theorem E15_37 (a : Nat) (v0 : jV) (st : List jV) (l0 l1 l2 l3 l4 l5 : Option jV) (w : jH) : jblk jT0 15 cl bk (n + 1) 37 [l0, l1, l2, l3, l4, l5] (v0 :: jr a :: st) w = jsh st (jgo w a 0 fun _ => jcl (cl 3 [jr a, v0] w) (fun v w' => jblk jT0 15 cl bk n 40 [l0, l1, l2, l3, l4, l5] (jpush v st) w') (fun E w' => some (.inr E, w'))) := rfl
theorem E15_40 (x : Int) (st : List jV) (l0 l1 l2 l3 l4 l5 : Option jV) (w : jH) : jblk jT0 15 cl bk (n + 1) 40 [l0, l1, l2, l3, l4, l5] (.inl x :: st) w = jblk jT0 15 cl bk n 41 [l0, l1, l2, some (.inl x), l4, l5] st w := rfl
theorem E15_41 (st : List jV) (l0 l1 l2 l3 l4 l5 : Option jV) (w : jH) : jblk jT0 15 cl bk (n + 1) 41 [l0, l1, l2, l3, l4, l5] st w = jblk jT0 15 cl bk n 52 [l0, l1, l2, l3, l4, l5] st w := rfl
theorem E15_44 (a : Nat) (st : List jV) (l1 l2 l3 l4 l5 : Option jV) (w : jH) : jblk jT0 15 cl bk (n + 1) 44 [some (jr a), l1, l2, l3, l4, l5] st w = jblk jT0 15 cl bk n 45 [some (jr a), l1, l2, l3, l4, l5] (jr a :: st) w := rfl
theorem E15_45 (x : Int) (st : List jV) (l0 l1 l2 l3 l5 : Option jV) (w : jH) : jblk jT0 15 cl bk (n + 1) 45 [l0, l1, l2, l3, some (.inl x), l5] st w = jblk jT0 15 cl bk n 47 [l0, l1, l2, l3, some (.inl x), l5] (.inl x :: st) w := rfl
theorem E15_47 (a : Nat) (v0 : jV) (st : List jV) (l0 l1 l2 l3 l4 l5 : Option jV) (w : jH) : jblk jT0 15 cl bk (n + 1) 47 [l0, l1, l2, l3, l4, l5] (v0 :: jr a :: st) w = jsh st (jgo w a 0 fun _ => jcl (cl 3 [jr a, v0] w) (fun v w' => jblk jT0 15 cl bk n 50 [l0, l1, l2, l3, l4, l5] (jpush v st) w') (fun E w' => some (.inr E, w'))) := rfl
theorem E15_50 (x : Int) (st : List jV) (l0 l1 l2 l3 l4 l5 : Option jV) (w : jH) : jblk jT0 15 cl bk (n + 1) 50 [l0, l1, l2, l3, l4, l5] (.inl x :: st) w = jblk jT0 15 cl bk n 52 [l0, l1, l2, l3, some (.inl x), l5] st w := rfl
theorem E15_52 (x : Int) (st : List jV) (l0 l1 l2 l3 l4 : Option jV) (w : jH) : jblk jT0 15 cl bk (n + 1) 52 [l0, l1, l2, l3, l4, some (.inl x)] st w = jblk jT0 15 cl bk n 55 [l0, l1, l2, l3, l4, some (.inl (jw (x + 1)))] st w := rfl
theorem E15_55 (st : List jV) (l0 l1 l2 l3 l4 l5 : Option jV) (w : jH) : jblk jT0 15 cl bk (n + 1) 55 [l0, l1, l2, l3, l4, l5] st w = bk 8 [l0, l1, l2, l3, l4, l5] st w := rfl
theorem E15_58 (x : Int) (st : List jV) (l0 l1 l2 l4 l5 : Option jV) (w : jH) : jblk jT0 15 cl bk (n + 1) 58 [l0, l1, l2, some (.inl x), l4, l5] st w = jblk jT0 15 cl bk n 59 [l0, l1, l2, some (.inl x), l4, l5] (.inl x :: st) w := rfl
theorem E15_59 (x : Int) (st : List jV) (l0 l1 l2 l3 l5 : Option jV) (w : jH) : jblk jT0 15 cl bk (n + 1) 59 [l0, l1, l2, l3, some (.inl x), l5] st w = jblk jT0 15 cl bk n 61 [l0, l1, l2, l3, some (.inl x), l5] (.inl x :: st) w := rfl
theorem E15_61 (x : Int) (y : Int) (st : List jV) (l0 l1 l2 l3 l4 l5 : Option jV) (w : jH) : jblk jT0 15 cl bk (n + 1) 61 [l0, l1, l2, l3, l4, l5] (.inl y :: .inl x :: st) w = if x = y then jblk jT0 15 cl bk n 64 [l0, l1, l2, l3, l4, l5] st w else jblk jT0 15 cl bk n 68 [l0, l1, l2, l3, l4, l5] st w := rfl
theorem E15_64 (x : Int) (st : List jV) (l0 l1 l2 l4 l5 : Option jV) (w : jH) : jblk jT0 15 cl bk (n + 1) 64 [l0, l1, l2, some (.inl x), l4, l5] st w = jblk jT0 15 cl bk n 65 [l0, l1, l2, some (.inl x), l4, l5] (.inl x :: st) w := rfl
theorem E15_65 (st : List jV) (l0 l1 l2 l3 l4 l5 : Option jV) (w : jH) : jblk jT0 15 cl bk (n + 1) 65 [l0, l1, l2, l3, l4, l5] st w = jblk jT0 15 cl bk n 69 [l0, l1, l2, l3, l4, l5] st w := rfl
theorem E15_68 (st : List jV) (l0 l1 l2 l3 l4 l5 : Option jV) (w : jH) : jblk jT0 15 cl bk (n + 1) 68 [l0, l1, l2, l3, l4, l5] st w = jblk jT0 15 cl bk n 69 [l0, l1, l2, l3, l4, l5] (.inl (-1) :: st) w := rfl
theorem E15_69 (x : Int) (l0 l1 l2 l3 l4 l5 : Option jV) (w : jH) : jblk jT0 15 cl bk (n + 1) 69 [l0, l1, l2, l3, l4, l5] [.inl x] w = if jfits .int x = true then some (.inl (some (.inl x)), w) else none := rfl
theorem E16_0 (a : Nat) (st : List jV) (l1 l2 l3 : Option jV) (w : jH) : jblk jT0 16 cl bk (n + 1) 0 [some (jr a), l1, l2, l3] st w = jblk jT0 16 cl bk n 1 [some (jr a), l1, l2, l3] (jr a :: st) w := rfl
theorem E16_1 (x : Int) (st : List jV) (l0 l2 l3 : Option jV) (w : jH) : jblk jT0 16 cl bk (n + 1) 1 [l0, some (.inl x), l2, l3] st w = jblk jT0 16 cl bk n 2 [l0, some (.inl x), l2, l3] (.inl x :: st) w := rfl
theorem E16_2 (x : Int) (st : List jV) (l0 l1 l3 : Option jV) (w : jH) : jblk jT0 16 cl bk (n + 1) 2 [l0, l1, some (.inl x), l3] st w = jblk jT0 16 cl bk n 3 [l0, l1, some (.inl x), l3] (.inl x :: st) w := rfl
theorem E16_3 (a : Nat) (v0 : jV) (v1 : jV) (st : List jV) (l0 l1 l2 l3 : Option jV) (w : jH) : jblk jT0 16 cl bk (n + 1) 3 [l0, l1, l2, l3] (v1 :: v0 :: jr a :: st) w = jsh st (jgo w a 0 fun _ => jcl (cl 15 [jr a, v0, v1] w) (fun v w' => jblk jT0 16 cl bk n 6 [l0, l1, l2, l3] (jpush v st) w') (fun E w' => some (.inr E, w'))) := rfl
theorem E16_6 (x : Int) (st : List jV) (l0 l1 l2 l3 : Option jV) (w : jH) : jblk jT0 16 cl bk (n + 1) 6 [l0, l1, l2, l3] (.inl x :: st) w = jblk jT0 16 cl bk n 7 [l0, l1, l2, some (.inl x)] st w := rfl
theorem E16_7 (x : Int) (st : List jV) (l0 l1 l2 : Option jV) (w : jH) : jblk jT0 16 cl bk (n + 1) 7 [l0, l1, l2, some (.inl x)] st w = jblk jT0 16 cl bk n 8 [l0, l1, l2, some (.inl x)] (.inl x :: st) w := rfl
theorem E16_8 (st : List jV) (l0 l1 l2 l3 : Option jV) (w : jH) : jblk jT0 16 cl bk (n + 1) 8 [l0, l1, l2, l3] st w = jblk jT0 16 cl bk n 9 [l0, l1, l2, l3] (.inl (-1) :: st) w := rfl
theorem E16_9 (x : Int) (y : Int) (st : List jV) (l0 l1 l2 l3 : Option jV) (w : jH) : jblk jT0 16 cl bk (n + 1) 9 [l0, l1, l2, l3] (.inl y :: .inl x :: st) w = if x = y then jblk jT0 16 cl bk n 12 [l0, l1, l2, l3] st w else jblk jT0 16 cl bk n 16 [l0, l1, l2, l3] st w := rfl
theorem E16_12 (st : List jV) (l0 l1 l2 l3 : Option jV) (w : jH) : jblk jT0 16 cl bk (n + 1) 12 [l0, l1, l2, l3] st w = jblk jT0 16 cl bk n 13 [l0, l1, l2, l3] (.inl (-1) :: st) w := rfl
theorem E16_13 (st : List jV) (l0 l1 l2 l3 : Option jV) (w : jH) : jblk jT0 16 cl bk (n + 1) 13 [l0, l1, l2, l3] st w = jblk jT0 16 cl bk n 35 [l0, l1, l2, l3] st w := rfl
theorem E16_16 (a : Nat) (st : List jV) (l1 l2 l3 : Option jV) (w : jH) : jblk jT0 16 cl bk (n + 1) 16 [some (jr a), l1, l2, l3] st w = jblk jT0 16 cl bk n 17 [some (jr a), l1, l2, l3] (jr a :: st) w := rfl
theorem E16_17 (x : Int) (st : List jV) (l0 l2 l3 : Option jV) (w : jH) : jblk jT0 16 cl bk (n + 1) 17 [l0, some (.inl x), l2, l3] st w = jblk jT0 16 cl bk n 18 [l0, some (.inl x), l2, l3] (.inl x :: st) w := rfl
theorem E16_18 (a : Nat) (v0 : jV) (st : List jV) (l0 l1 l2 l3 : Option jV) (w : jH) : jblk jT0 16 cl bk (n + 1) 18 [l0, l1, l2, l3] (v0 :: jr a :: st) w = jsh st (jgo w a 0 fun _ => jcl (cl 4 [jr a, v0] w) (fun v w' => jblk jT0 16 cl bk n 21 [l0, l1, l2, l3] (jpush v st) w') (fun E w' => some (.inr E, w'))) := rfl
theorem E16_21 (a : Nat) (st : List jV) (l1 l2 l3 : Option jV) (w : jH) : jblk jT0 16 cl bk (n + 1) 21 [some (jr a), l1, l2, l3] st w = jblk jT0 16 cl bk n 22 [some (jr a), l1, l2, l3] (jr a :: st) w := rfl
theorem E16_22 (x : Int) (st : List jV) (l0 l1 l3 : Option jV) (w : jH) : jblk jT0 16 cl bk (n + 1) 22 [l0, l1, some (.inl x), l3] st w = jblk jT0 16 cl bk n 23 [l0, l1, some (.inl x), l3] (.inl x :: st) w := rfl
theorem E16_23 (a : Nat) (v0 : jV) (st : List jV) (l0 l1 l2 l3 : Option jV) (w : jH) : jblk jT0 16 cl bk (n + 1) 23 [l0, l1, l2, l3] (v0 :: jr a :: st) w = jsh st (jgo w a 0 fun _ => jcl (cl 4 [jr a, v0] w) (fun v w' => jblk jT0 16 cl bk n 26 [l0, l1, l2, l3] (jpush v st) w') (fun E w' => some (.inr E, w'))) := rfl
theorem E16_26 (x : Int) (y : Int) (st : List jV) (l0 l1 l2 l3 : Option jV) (w : jH) : jblk jT0 16 cl bk (n + 1) 26 [l0, l1, l2, l3] (.inl y :: .inl x :: st) w = jblk jT0 16 cl bk n 27 [l0, l1, l2, l3] (.inl (jw (x + y)) :: st) w := rfl
theorem E16_27 (st : List jV) (l0 l1 l2 l3 : Option jV) (w : jH) : jblk jT0 16 cl bk (n + 1) 27 [l0, l1, l2, l3] st w = jblk jT0 16 cl bk n 28 [l0, l1, l2, l3] (.inl 2 :: st) w := rfl
theorem E16_28 (a : Nat) (st : List jV) (l1 l2 l3 : Option jV) (w : jH) : jblk jT0 16 cl bk (n + 1) 28 [some (jr a), l1, l2, l3] st w = jblk jT0 16 cl bk n 29 [some (jr a), l1, l2, l3] (jr a :: st) w := rfl
theorem E16_29 (x : Int) (st : List jV) (l0 l1 l2 : Option jV) (w : jH) : jblk jT0 16 cl bk (n + 1) 29 [l0, l1, l2, some (.inl x)] st w = jblk jT0 16 cl bk n 30 [l0, l1, l2, some (.inl x)] (.inl x :: st) w := rfl
theorem E16_30 (a : Nat) (v0 : jV) (st : List jV) (l0 l1 l2 l3 : Option jV) (w : jH) : jblk jT0 16 cl bk (n + 1) 30 [l0, l1, l2, l3] (v0 :: jr a :: st) w = jsh st (jgo w a 0 fun _ => jcl (cl 4 [jr a, v0] w) (fun v w' => jblk jT0 16 cl bk n 33 [l0, l1, l2, l3] (jpush v st) w') (fun E w' => some (.inr E, w'))) := rfl
theorem E16_33 (x : Int) (y : Int) (st : List jV) (l0 l1 l2 l3 : Option jV) (w : jH) : jblk jT0 16 cl bk (n + 1) 33 [l0, l1, l2, l3] (.inl y :: .inl x :: st) w = jblk jT0 16 cl bk n 34 [l0, l1, l2, l3] (.inl (jw (x * y)) :: st) w := rfl
theorem E16_34 (x : Int) (y : Int) (st : List jV) (l0 l1 l2 l3 : Option jV) (w : jH) : jblk jT0 16 cl bk (n + 1) 34 [l0, l1, l2, l3] (.inl y :: .inl x :: st) w = jblk jT0 16 cl bk n 35 [l0, l1, l2, l3] (.inl (jw (x - y)) :: st) w := rfl
theorem E16_35 (x : Int) (l0 l1 l2 l3 : Option jV) (w : jH) : jblk jT0 16 cl bk (n + 1) 35 [l0, l1, l2, l3] [.inl x] w = if jfits .int x = true then some (.inl (some (.inl x)), w) else none := rfl
theorem E17_0 (a : Nat) (st : List jV) (l1 l2 : Option jV) (w : jH) : jblk jT0 17 cl bk (n + 1) 0 [some (jr a), l1, l2] st w = jblk jT0 17 cl bk n 1 [some (jr a), l1, l2] (jr a :: st) w := rfl
theorem E17_1 (x : Int) (st : List jV) (l0 l2 : Option jV) (w : jH) : jblk jT0 17 cl bk (n + 1) 1 [l0, some (.inl x), l2] st w = jblk jT0 17 cl bk n 2 [l0, some (.inl x), l2] (.inl x :: st) w := rfl
theorem E17_2 (a : Nat) (v0 : jV) (st : List jV) (l0 l1 l2 : Option jV) (w : jH) : jblk jT0 17 cl bk (n + 1) 2 [l0, l1, l2] (v0 :: jr a :: st) w = jsh st (jgo w a 0 fun _ => jcl (cl 3 [jr a, v0] w) (fun v w' => jblk jT0 17 cl bk n 5 [l0, l1, l2] (jpush v st) w') (fun E w' => some (.inr E, w'))) := rfl
theorem E17_5 (x : Int) (st : List jV) (l0 l1 : Option jV) (w : jH) : jblk jT0 17 cl bk (n + 1) 5 [l0, l1, some (.inl x)] st w = jblk jT0 17 cl bk n 6 [l0, l1, some (.inl x)] (.inl x :: st) w := rfl
theorem E17_6 (x : Int) (y : Int) (st : List jV) (l0 l1 l2 : Option jV) (w : jH) : jblk jT0 17 cl bk (n + 1) 6 [l0, l1, l2] (.inl y :: .inl x :: st) w = if x = y then jblk jT0 17 cl bk n 18 [l0, l1, l2] st w else jblk jT0 17 cl bk n 9 [l0, l1, l2] st w := rfl
theorem E17_9 (a : Nat) (st : List jV) (l1 l2 : Option jV) (w : jH) : jblk jT0 17 cl bk (n + 1) 9 [some (jr a), l1, l2] st w = jblk jT0 17 cl bk n 10 [some (jr a), l1, l2] (jr a :: st) w := rfl
theorem E17_10 (x : Int) (st : List jV) (l0 l1 : Option jV) (w : jH) : jblk jT0 17 cl bk (n + 1) 10 [l0, l1, some (.inl x)] st w = jblk jT0 17 cl bk n 11 [l0, l1, some (.inl x)] (.inl x :: st) w := rfl
theorem E17_11 (a : Nat) (v0 : jV) (st : List jV) (l0 l1 l2 : Option jV) (w : jH) : jblk jT0 17 cl bk (n + 1) 11 [l0, l1, l2] (v0 :: jr a :: st) w = jsh st (jgo w a 0 fun _ => jcl (cl 3 [jr a, v0] w) (fun v w' => jblk jT0 17 cl bk n 14 [l0, l1, l2] (jpush v st) w') (fun E w' => some (.inr E, w'))) := rfl
theorem E17_14 (x : Int) (st : List jV) (l0 l2 : Option jV) (w : jH) : jblk jT0 17 cl bk (n + 1) 14 [l0, some (.inl x), l2] st w = jblk jT0 17 cl bk n 15 [l0, some (.inl x), l2] (.inl x :: st) w := rfl
theorem E17_15 (x : Int) (y : Int) (st : List jV) (l0 l1 l2 : Option jV) (w : jH) : jblk jT0 17 cl bk (n + 1) 15 [l0, l1, l2] (.inl y :: .inl x :: st) w = if x = y then jblk jT0 17 cl bk n 18 [l0, l1, l2] st w else jblk jT0 17 cl bk n 22 [l0, l1, l2] st w := rfl
theorem E17_18 (st : List jV) (l0 l1 l2 : Option jV) (w : jH) : jblk jT0 17 cl bk (n + 1) 18 [l0, l1, l2] st w = jblk jT0 17 cl bk n 19 [l0, l1, l2] (.inl 1 :: st) w := rfl
theorem E17_19 (st : List jV) (l0 l1 l2 : Option jV) (w : jH) : jblk jT0 17 cl bk (n + 1) 19 [l0, l1, l2] st w = jblk jT0 17 cl bk n 23 [l0, l1, l2] st w := rfl
theorem E17_22 (st : List jV) (l0 l1 l2 : Option jV) (w : jH) : jblk jT0 17 cl bk (n + 1) 22 [l0, l1, l2] st w = jblk jT0 17 cl bk n 23 [l0, l1, l2] (.inl 0 :: st) w := rfl
theorem E17_23 (x : Int) (l0 l1 l2 : Option jV) (w : jH) : jblk jT0 17 cl bk (n + 1) 23 [l0, l1, l2] [.inl x] w = if jfits .boolean x = true then some (.inl (some (.inl x)), w) else none := rfl
theorem E18_0 (a : Nat) (st : List jV) (l1 l2 l3 : Option jV) (w : jH) : jblk jT0 18 cl bk (n + 1) 0 [some (jr a), l1, l2, l3] st w = jblk jT0 18 cl bk n 1 [some (jr a), l1, l2, l3] (jr a :: st) w := rfl
theorem E18_1 (x : Int) (st : List jV) (l0 l2 l3 : Option jV) (w : jH) : jblk jT0 18 cl bk (n + 1) 1 [l0, some (.inl x), l2, l3] st w = jblk jT0 18 cl bk n 2 [l0, some (.inl x), l2, l3] (.inl x :: st) w := rfl
theorem E18_2 (a : Nat) (v0 : jV) (st : List jV) (l0 l1 l2 l3 : Option jV) (w : jH) : jblk jT0 18 cl bk (n + 1) 2 [l0, l1, l2, l3] (v0 :: jr a :: st) w = jsh st (jgo w a 0 fun _ => jcl (cl 6 [jr a, v0] w) (fun v w' => jblk jT0 18 cl bk n 5 [l0, l1, l2, l3] (jpush v st) w') (fun E w' => some (.inr E, w'))) := rfl
theorem E18_5 (x : Int) (st : List jV) (l0 l1 l2 l3 : Option jV) (w : jH) : jblk jT0 18 cl bk (n + 1) 5 [l0, l1, l2, l3] (.inl x :: st) w = jblk jT0 18 cl bk n 6 [l0, l1, some (.inl x), l3] st w := rfl
theorem E18_6 (x : Int) (st : List jV) (l0 l1 l3 : Option jV) (w : jH) : jblk jT0 18 cl bk (n + 1) 6 [l0, l1, some (.inl x), l3] st w = jblk jT0 18 cl bk n 7 [l0, l1, some (.inl x), l3] (.inl x :: st) w := rfl
theorem E18_7 (x : Int) (st : List jV) (l0 l1 l2 l3 : Option jV) (w : jH) : jblk jT0 18 cl bk (n + 1) 7 [l0, l1, l2, l3] (.inl x :: st) w = bk 8 [l0, l1, l2, some (.inl x)] st w := rfl
theorem E18_8 (x : Int) (st : List jV) (l0 l1 l2 : Option jV) (w : jH) : jblk jT0 18 cl bk (n + 1) 8 [l0, l1, l2, some (.inl x)] st w = jblk jT0 18 cl bk n 9 [l0, l1, l2, some (.inl x)] (.inl x :: st) w := rfl
theorem E18_9 (x : Int) (st : List jV) (l0 l1 l2 l3 : Option jV) (w : jH) : jblk jT0 18 cl bk (n + 1) 9 [l0, l1, l2, l3] (.inl x :: st) w = if 0 < x then jblk jT0 18 cl bk n 12 [l0, l1, l2, l3] st w else jblk jT0 18 cl bk n 30 [l0, l1, l2, l3] st w := rfl
theorem E18_12 (a : Nat) (st : List jV) (l1 l2 l3 : Option jV) (w : jH) : jblk jT0 18 cl bk (n + 1) 12 [some (jr a), l1, l2, l3] st w = jblk jT0 18 cl bk n 13 [some (jr a), l1, l2, l3] (jr a :: st) w := rfl
theorem E18_13 (a : Nat) (st : List jV) (l1 l2 l3 : Option jV) (w : jH) : jblk jT0 18 cl bk (n + 1) 13 [some (jr a), l1, l2, l3] st w = jblk jT0 18 cl bk n 14 [some (jr a), l1, l2, l3] (jr a :: st) w := rfl
theorem E18_14 (x : Int) (st : List jV) (l0 l1 l2 : Option jV) (w : jH) : jblk jT0 18 cl bk (n + 1) 14 [l0, l1, l2, some (.inl x)] st w = jblk jT0 18 cl bk n 15 [l0, l1, l2, some (.inl x)] (.inl x :: st) w := rfl
theorem E18_15 (a : Nat) (v0 : jV) (st : List jV) (l0 l1 l2 l3 : Option jV) (w : jH) : jblk jT0 18 cl bk (n + 1) 15 [l0, l1, l2, l3] (v0 :: jr a :: st) w = jsh st (jgo w a 0 fun _ => jcl (cl 5 [jr a, v0] w) (fun v w' => jblk jT0 18 cl bk n 18 [l0, l1, l2, l3] (jpush v st) w') (fun E w' => some (.inr E, w'))) := rfl
theorem E18_18 (a : Nat) (v0 : jV) (st : List jV) (l0 l1 l2 l3 : Option jV) (w : jH) : jblk jT0 18 cl bk (n + 1) 18 [l0, l1, l2, l3] (v0 :: jr a :: st) w = jsh st (jgo w a 0 fun _ => jcl (cl 4 [jr a, v0] w) (fun v w' => jblk jT0 18 cl bk n 21 [l0, l1, l2, l3] (jpush v st) w') (fun E w' => some (.inr E, w'))) := rfl
theorem E18_21 (x : Int) (st : List jV) (l0 l1 l2 l3 : Option jV) (w : jH) : jblk jT0 18 cl bk (n + 1) 21 [l0, l1, l2, l3] (.inl x :: st) w = if 0 < x then jblk jT0 18 cl bk n 24 [l0, l1, l2, l3] st w else jblk jT0 18 cl bk n 30 [l0, l1, l2, l3] st w := rfl
theorem E18_24 (x : Int) (st : List jV) (l0 l1 l2 : Option jV) (w : jH) : jblk jT0 18 cl bk (n + 1) 24 [l0, l1, l2, some (.inl x)] st w = jblk jT0 18 cl bk n 27 [l0, l1, l2, some (.inl (jw (x + (-1))))] st w := rfl
theorem E18_27 (st : List jV) (l0 l1 l2 l3 : Option jV) (w : jH) : jblk jT0 18 cl bk (n + 1) 27 [l0, l1, l2, l3] st w = bk 8 [l0, l1, l2, l3] st w := rfl
theorem E18_30 (x : Int) (st : List jV) (l0 l1 l3 : Option jV) (w : jH) : jblk jT0 18 cl bk (n + 1) 30 [l0, l1, some (.inl x), l3] st w = jblk jT0 18 cl bk n 31 [l0, l1, some (.inl x), l3] (.inl x :: st) w := rfl
theorem E18_31 (x : Int) (st : List jV) (l0 l1 l2 : Option jV) (w : jH) : jblk jT0 18 cl bk (n + 1) 31 [l0, l1, l2, some (.inl x)] st w = jblk jT0 18 cl bk n 32 [l0, l1, l2, some (.inl x)] (.inl x :: st) w := rfl
theorem E18_32 (x : Int) (y : Int) (st : List jV) (l0 l1 l2 l3 : Option jV) (w : jH) : jblk jT0 18 cl bk (n + 1) 32 [l0, l1, l2, l3] (.inl y :: .inl x :: st) w = jblk jT0 18 cl bk n 33 [l0, l1, l2, l3] (.inl (jw (x - y)) :: st) w := rfl
theorem E18_33 (x : Int) (l0 l1 l2 l3 : Option jV) (w : jH) : jblk jT0 18 cl bk (n + 1) 33 [l0, l1, l2, l3] [.inl x] w = if jfits .int x = true then some (.inl (some (.inl x)), w) else none := rfl
theorem E19_0 (a : Nat) (st : List jV) (l1 : Option jV) (w : jH) : jblk jT0 19 cl bk (n + 1) 0 [some (jr a), l1] st w = jblk jT0 19 cl bk n 1 [some (jr a), l1] (jr a :: st) w := rfl
theorem E19_1 (x : Int) (st : List jV) (l0 : Option jV) (w : jH) : jblk jT0 19 cl bk (n + 1) 1 [l0, some (.inl x)] st w = jblk jT0 19 cl bk n 2 [l0, some (.inl x)] (.inl x :: st) w := rfl
theorem E19_2 (st : List jV) (l0 l1 : Option jV) (w : jH) : jblk jT0 19 cl bk (n + 1) 2 [l0, l1] st w = jblk jT0 19 cl bk n 3 [l0, l1] (.inl (-1) :: st) w := rfl
theorem E19_3 (a : Nat) (v0 : jV) (v1 : jV) (st : List jV) (l0 l1 : Option jV) (w : jH) : jblk jT0 19 cl bk (n + 1) 3 [l0, l1] (v1 :: v0 :: jr a :: st) w = jsh st (jgo w a 0 fun _ => jcl (cl 14 [jr a, v0, v1] w) (fun v w' => jblk jT0 19 cl bk n 6 [l0, l1] (jpush v st) w') (fun E w' => some (.inr E, w'))) := rfl
theorem E19_6 (x : Int) (l0 l1 : Option jV) (w : jH) : jblk jT0 19 cl bk (n + 1) 6 [l0, l1] [.inl x] w = if jfits .int x = true then some (.inl (some (.inl x)), w) else none := rfl
theorem E20_0 (a : Nat) (st : List jV) (l1 l2 l3 l4 : Option jV) (w : jH) : jblk jT0 20 cl bk (n + 1) 0 [some (jr a), l1, l2, l3, l4] st w = jblk jT0 20 cl bk n 1 [some (jr a), l1, l2, l3, l4] (jr a :: st) w := rfl
theorem E20_1 (x : Int) (st : List jV) (l0 l2 l3 l4 : Option jV) (w : jH) : jblk jT0 20 cl bk (n + 1) 1 [l0, some (.inl x), l2, l3, l4] st w = jblk jT0 20 cl bk n 2 [l0, some (.inl x), l2, l3, l4] (.inl x :: st) w := rfl
theorem E20_2 (st : List jV) (l0 l1 l2 l3 l4 : Option jV) (w : jH) : jblk jT0 20 cl bk (n + 1) 2 [l0, l1, l2, l3, l4] st w = jblk jT0 20 cl bk n 3 [l0, l1, l2, l3, l4] (.inl (-1) :: st) w := rfl
theorem E20_3 (a : Nat) (v0 : jV) (v1 : jV) (st : List jV) (l0 l1 l2 l3 l4 : Option jV) (w : jH) : jblk jT0 20 cl bk (n + 1) 3 [l0, l1, l2, l3, l4] (v1 :: v0 :: jr a :: st) w = jsh st (jgo w a 0 fun _ => jcl (cl 14 [jr a, v0, v1] w) (fun v w' => jblk jT0 20 cl bk n 6 [l0, l1, l2, l3, l4] (jpush v st) w') (fun E w' => some (.inr E, w'))) := rfl
theorem E20_6 (x : Int) (st : List jV) (l0 l1 l2 l3 l4 : Option jV) (w : jH) : jblk jT0 20 cl bk (n + 1) 6 [l0, l1, l2, l3, l4] (.inl x :: st) w = jblk jT0 20 cl bk n 7 [l0, l1, some (.inl x), l3, l4] st w := rfl
theorem E20_7 (a : Nat) (st : List jV) (l1 l2 l3 l4 : Option jV) (w : jH) : jblk jT0 20 cl bk (n + 1) 7 [some (jr a), l1, l2, l3, l4] st w = jblk jT0 20 cl bk n 8 [some (jr a), l1, l2, l3, l4] (jr a :: st) w := rfl
theorem E20_8 (x : Int) (st : List jV) (l0 l2 l3 l4 : Option jV) (w : jH) : jblk jT0 20 cl bk (n + 1) 8 [l0, some (.inl x), l2, l3, l4] st w = jblk jT0 20 cl bk n 9 [l0, some (.inl x), l2, l3, l4] (.inl x :: st) w := rfl
theorem E20_9 (a : Nat) (v0 : jV) (st : List jV) (l0 l1 l2 l3 l4 : Option jV) (w : jH) : jblk jT0 20 cl bk (n + 1) 9 [l0, l1, l2, l3, l4] (v0 :: jr a :: st) w = jsh st (jgo w a 0 fun _ => jcl (cl 3 [jr a, v0] w) (fun v w' => jblk jT0 20 cl bk n 12 [l0, l1, l2, l3, l4] (jpush v st) w') (fun E w' => some (.inr E, w'))) := rfl
theorem E20_12 (x : Int) (st : List jV) (l0 l1 l2 l3 l4 : Option jV) (w : jH) : jblk jT0 20 cl bk (n + 1) 12 [l0, l1, l2, l3, l4] (.inl x :: st) w = jblk jT0 20 cl bk n 13 [l0, l1, l2, some (.inl x), l4] st w := rfl
theorem E20_13 (st : List jV) (l0 l1 l2 l3 l4 : Option jV) (w : jH) : jblk jT0 20 cl bk (n + 1) 13 [l0, l1, l2, l3, l4] st w = jblk jT0 20 cl bk n 14 [l0, l1, l2, l3, l4] (.inl 0 :: st) w := rfl
theorem E20_14 (x : Int) (st : List jV) (l0 l1 l2 l3 l4 : Option jV) (w : jH) : jblk jT0 20 cl bk (n + 1) 14 [l0, l1, l2, l3, l4] (.inl x :: st) w = bk 16 [l0, l1, l2, l3, some (.inl x)] st w := rfl
theorem E20_16 (x : Int) (st : List jV) (l0 l1 l2 l3 : Option jV) (w : jH) : jblk jT0 20 cl bk (n + 1) 16 [l0, l1, l2, l3, some (.inl x)] st w = jblk jT0 20 cl bk n 18 [l0, l1, l2, l3, some (.inl x)] (.inl x :: st) w := rfl
theorem E20_18 (st : List jV) (l0 l1 l2 l3 l4 : Option jV) (w : jH) : jblk jT0 20 cl bk (n + 1) 18 [l0, l1, l2, l3, l4] st w = jblk jT0 20 cl bk n 20 [l0, l1, l2, l3, l4] (.inl 16 :: st) w := rfl
theorem E20_20 (x : Int) (y : Int) (st : List jV) (l0 l1 l2 l3 l4 : Option jV) (w : jH) : jblk jT0 20 cl bk (n + 1) 20 [l0, l1, l2, l3, l4] (.inl y :: .inl x :: st) w = if x < y then jblk jT0 20 cl bk n 23 [l0, l1, l2, l3, l4] st w else jblk jT0 20 cl bk n 64 [l0, l1, l2, l3, l4] st w := rfl
theorem E20_23 (x : Int) (st : List jV) (l0 l1 l3 l4 : Option jV) (w : jH) : jblk jT0 20 cl bk (n + 1) 23 [l0, l1, some (.inl x), l3, l4] st w = jblk jT0 20 cl bk n 24 [l0, l1, some (.inl x), l3, l4] (.inl x :: st) w := rfl
theorem E20_24 (st : List jV) (l0 l1 l2 l3 l4 : Option jV) (w : jH) : jblk jT0 20 cl bk (n + 1) 24 [l0, l1, l2, l3, l4] st w = jblk jT0 20 cl bk n 25 [l0, l1, l2, l3, l4] (.inl (-1) :: st) w := rfl
theorem E20_25 (x : Int) (y : Int) (st : List jV) (l0 l1 l2 l3 l4 : Option jV) (w : jH) : jblk jT0 20 cl bk (n + 1) 25 [l0, l1, l2, l3, l4] (.inl y :: .inl x :: st) w = if x = y then jblk jT0 20 cl bk n 28 [l0, l1, l2, l3, l4] st w else jblk jT0 20 cl bk n 64 [l0, l1, l2, l3, l4] st w := rfl
theorem E20_28 (x : Int) (st : List jV) (l0 l1 l2 l4 : Option jV) (w : jH) : jblk jT0 20 cl bk (n + 1) 28 [l0, l1, l2, some (.inl x), l4] st w = jblk jT0 20 cl bk n 29 [l0, l1, l2, some (.inl x), l4] (.inl x :: st) w := rfl
theorem E20_29 (st : List jV) (l0 l1 l2 l3 l4 : Option jV) (w : jH) : jblk jT0 20 cl bk (n + 1) 29 [l0, l1, l2, l3, l4] st w = jblk jT0 20 cl bk n 30 [l0, l1, l2, l3, l4] (.inl (-1) :: st) w := rfl
theorem E20_30 (x : Int) (y : Int) (st : List jV) (l0 l1 l2 l3 l4 : Option jV) (w : jH) : jblk jT0 20 cl bk (n + 1) 30 [l0, l1, l2, l3, l4] (.inl y :: .inl x :: st) w = if x = y then jblk jT0 20 cl bk n 64 [l0, l1, l2, l3, l4] st w else jblk jT0 20 cl bk n 33 [l0, l1, l2, l3, l4] st w := rfl
theorem E20_33 (a : Nat) (st : List jV) (l1 l2 l3 l4 : Option jV) (w : jH) : jblk jT0 20 cl bk (n + 1) 33 [some (jr a), l1, l2, l3, l4] st w = jblk jT0 20 cl bk n 34 [some (jr a), l1, l2, l3, l4] (jr a :: st) w := rfl
theorem E20_34 (x : Int) (st : List jV) (l0 l1 l2 l4 : Option jV) (w : jH) : jblk jT0 20 cl bk (n + 1) 34 [l0, l1, l2, some (.inl x), l4] st w = jblk jT0 20 cl bk n 35 [l0, l1, l2, some (.inl x), l4] (.inl x :: st) w := rfl
theorem E20_35 (a : Nat) (v0 : jV) (st : List jV) (l0 l1 l2 l3 l4 : Option jV) (w : jH) : jblk jT0 20 cl bk (n + 1) 35 [l0, l1, l2, l3, l4] (v0 :: jr a :: st) w = jsh st (jgo w a 0 fun _ => jcl (cl 2 [jr a, v0] w) (fun v w' => jblk jT0 20 cl bk n 38 [l0, l1, l2, l3, l4] (jpush v st) w') (fun E w' => some (.inr E, w'))) := rfl
theorem E20_38 (x : Int) (st : List jV) (l0 l1 l2 l3 l4 : Option jV) (w : jH) : jblk jT0 20 cl bk (n + 1) 38 [l0, l1, l2, l3, l4] (.inl x :: st) w = if x = 0 then jblk jT0 20 cl bk n 45 [l0, l1, l2, l3, l4] st w else jblk jT0 20 cl bk n 41 [l0, l1, l2, l3, l4] st w := rfl
theorem E20_41 (x : Int) (st : List jV) (l0 l1 l2 l4 : Option jV) (w : jH) : jblk jT0 20 cl bk (n + 1) 41 [l0, l1, l2, some (.inl x), l4] st w = jblk jT0 20 cl bk n 42 [l0, l1, l2, some (.inl x), l4] (.inl x :: st) w := rfl
theorem E20_42 (st : List jV) (l0 l1 l2 l3 l4 : Option jV) (w : jH) : jblk jT0 20 cl bk (n + 1) 42 [l0, l1, l2, l3, l4] st w = jblk jT0 20 cl bk n 51 [l0, l1, l2, l3, l4] st w := rfl
theorem E20_45 (a : Nat) (st : List jV) (l1 l2 l3 l4 : Option jV) (w : jH) : jblk jT0 20 cl bk (n + 1) 45 [some (jr a), l1, l2, l3, l4] st w = jblk jT0 20 cl bk n 46 [some (jr a), l1, l2, l3, l4] (jr a :: st) w := rfl
theorem E20_46 (x : Int) (st : List jV) (l0 l1 l2 l4 : Option jV) (w : jH) : jblk jT0 20 cl bk (n + 1) 46 [l0, l1, l2, some (.inl x), l4] st w = jblk jT0 20 cl bk n 47 [l0, l1, l2, some (.inl x), l4] (.inl x :: st) w := rfl
theorem E20_47 (x : Int) (st : List jV) (l0 l2 l3 l4 : Option jV) (w : jH) : jblk jT0 20 cl bk (n + 1) 47 [l0, some (.inl x), l2, l3, l4] st w = jblk jT0 20 cl bk n 48 [l0, some (.inl x), l2, l3, l4] (.inl x :: st) w := rfl
theorem E20_48 (a : Nat) (v0 : jV) (v1 : jV) (st : List jV) (l0 l1 l2 l3 l4 : Option jV) (w : jH) : jblk jT0 20 cl bk (n + 1) 48 [l0, l1, l2, l3, l4] (v1 :: v0 :: jr a :: st) w = jsh st (jgo w a 0 fun _ => jcl (cl 14 [jr a, v0, v1] w) (fun v w' => jblk jT0 20 cl bk n 51 [l0, l1, l2, l3, l4] (jpush v st) w') (fun E w' => some (.inr E, w'))) := rfl
theorem E20_51 (x : Int) (st : List jV) (l0 l1 l2 l3 l4 : Option jV) (w : jH) : jblk jT0 20 cl bk (n + 1) 51 [l0, l1, l2, l3, l4] (.inl x :: st) w = jblk jT0 20 cl bk n 52 [l0, l1, some (.inl x), l3, l4] st w := rfl
theorem E20_52 (a : Nat) (st : List jV) (l1 l2 l3 l4 : Option jV) (w : jH) : jblk jT0 20 cl bk (n + 1) 52 [some (jr a), l1, l2, l3, l4] st w = jblk jT0 20 cl bk n 53 [some (jr a), l1, l2, l3, l4] (jr a :: st) w := rfl
theorem E20_53 (x : Int) (st : List jV) (l0 l1 l2 l4 : Option jV) (w : jH) : jblk jT0 20 cl bk (n + 1) 53 [l0, l1, l2, some (.inl x), l4] st w = jblk jT0 20 cl bk n 54 [l0, l1, l2, some (.inl x), l4] (.inl x :: st) w := rfl
theorem E20_54 (a : Nat) (v0 : jV) (st : List jV) (l0 l1 l2 l3 l4 : Option jV) (w : jH) : jblk jT0 20 cl bk (n + 1) 54 [l0, l1, l2, l3, l4] (v0 :: jr a :: st) w = jsh st (jgo w a 0 fun _ => jcl (cl 3 [jr a, v0] w) (fun v w' => jblk jT0 20 cl bk n 57 [l0, l1, l2, l3, l4] (jpush v st) w') (fun E w' => some (.inr E, w'))) := rfl
theorem E20_57 (x : Int) (st : List jV) (l0 l1 l2 l3 l4 : Option jV) (w : jH) : jblk jT0 20 cl bk (n + 1) 57 [l0, l1, l2, l3, l4] (.inl x :: st) w = jblk jT0 20 cl bk n 58 [l0, l1, l2, some (.inl x), l4] st w := rfl
theorem E20_58 (x : Int) (st : List jV) (l0 l1 l2 l3 : Option jV) (w : jH) : jblk jT0 20 cl bk (n + 1) 58 [l0, l1, l2, l3, some (.inl x)] st w = jblk jT0 20 cl bk n 61 [l0, l1, l2, l3, some (.inl (jw (x + 1)))] st w := rfl
theorem E20_61 (st : List jV) (l0 l1 l2 l3 l4 : Option jV) (w : jH) : jblk jT0 20 cl bk (n + 1) 61 [l0, l1, l2, l3, l4] st w = bk 16 [l0, l1, l2, l3, l4] st w := rfl
theorem E20_64 (x : Int) (st : List jV) (l0 l1 l3 l4 : Option jV) (w : jH) : jblk jT0 20 cl bk (n + 1) 64 [l0, l1, some (.inl x), l3, l4] st w = jblk jT0 20 cl bk n 65 [l0, l1, some (.inl x), l3, l4] (.inl x :: st) w := rfl
theorem E20_65 (x : Int) (l0 l1 l2 l3 l4 : Option jV) (w : jH) : jblk jT0 20 cl bk (n + 1) 65 [l0, l1, l2, l3, l4] [.inl x] w = if jfits .int x = true then some (.inl (some (.inl x)), w) else none := rfl
theorem E21_0 (st : List jV) (l0 l1 l2 l3 l4 : Option jV) (w : jH) : jblk jT0 21 cl bk (n + 1) 0 [l0, l1, l2, l3, l4] st w = jblk jT0 21 cl bk n 1 [l0, l1, l2, l3, l4] (.inl (-1) :: st) w := rfl
theorem E21_1 (x : Int) (st : List jV) (l0 l1 l2 l3 l4 : Option jV) (w : jH) : jblk jT0 21 cl bk (n + 1) 1 [l0, l1, l2, l3, l4] (.inl x :: st) w = jblk jT0 21 cl bk n 2 [l0, l1, some (.inl x), l3, l4] st w := rfl
theorem E21_2 (st : List jV) (l0 l1 l2 l3 l4 : Option jV) (w : jH) : jblk jT0 21 cl bk (n + 1) 2 [l0, l1, l2, l3, l4] st w = jblk jT0 21 cl bk n 3 [l0, l1, l2, l3, l4] (.inl 0 :: st) w := rfl
theorem E21_3 (x : Int) (st : List jV) (l0 l1 l2 l3 l4 : Option jV) (w : jH) : jblk jT0 21 cl bk (n + 1) 3 [l0, l1, l2, l3, l4] (.inl x :: st) w = bk 4 [l0, l1, l2, some (.inl x), l4] st w := rfl
theorem E21_4 (x : Int) (st : List jV) (l0 l1 l2 l4 : Option jV) (w : jH) : jblk jT0 21 cl bk (n + 1) 4 [l0, l1, l2, some (.inl x), l4] st w = jblk jT0 21 cl bk n 5 [l0, l1, l2, some (.inl x), l4] (.inl x :: st) w := rfl
theorem E21_5 (a : Nat) (st : List jV) (l1 l2 l3 l4 : Option jV) (w : jH) : jblk jT0 21 cl bk (n + 1) 5 [some (jr a), l1, l2, l3, l4] st w = jblk jT0 21 cl bk n 6 [some (jr a), l1, l2, l3, l4] (jr a :: st) w := rfl
theorem E21_6 (a : Nat) (st : List jV) (l0 l1 l2 l3 l4 : Option jV) (w : jH) : jblk jT0 21 cl bk (n + 1) 6 [l0, l1, l2, l3, l4] (jr a :: st) w = jgf w a 0 4 fun v => jblk jT0 21 cl bk n 9 [l0, l1, l2, l3, l4] (v :: st) w := rfl
theorem E21_9 (x : Int) (y : Int) (st : List jV) (l0 l1 l2 l3 l4 : Option jV) (w : jH) : jblk jT0 21 cl bk (n + 1) 9 [l0, l1, l2, l3, l4] (.inl y :: .inl x :: st) w = if x < y then jblk jT0 21 cl bk n 12 [l0, l1, l2, l3, l4] st w else jblk jT0 21 cl bk n 71 [l0, l1, l2, l3, l4] st w := rfl
theorem E21_12 (x : Int) (st : List jV) (l0 l1 l2 l4 : Option jV) (w : jH) : jblk jT0 21 cl bk (n + 1) 12 [l0, l1, l2, some (.inl x), l4] st w = jblk jT0 21 cl bk n 13 [l0, l1, l2, some (.inl x), l4] (.inl x :: st) w := rfl
theorem E21_13 (x : Int) (st : List jV) (l0 l2 l3 l4 : Option jV) (w : jH) : jblk jT0 21 cl bk (n + 1) 13 [l0, some (.inl x), l2, l3, l4] st w = jblk jT0 21 cl bk n 14 [l0, some (.inl x), l2, l3, l4] (.inl x :: st) w := rfl
theorem E21_14 (x : Int) (y : Int) (st : List jV) (l0 l1 l2 l3 l4 : Option jV) (w : jH) : jblk jT0 21 cl bk (n + 1) 14 [l0, l1, l2, l3, l4] (.inl y :: .inl x :: st) w = if x = y then jblk jT0 21 cl bk n 40 [l0, l1, l2, l3, l4] st w else jblk jT0 21 cl bk n 17 [l0, l1, l2, l3, l4] st w := rfl
theorem E21_17 (a : Nat) (st : List jV) (l1 l2 l3 l4 : Option jV) (w : jH) : jblk jT0 21 cl bk (n + 1) 17 [some (jr a), l1, l2, l3, l4] st w = jblk jT0 21 cl bk n 18 [some (jr a), l1, l2, l3, l4] (jr a :: st) w := rfl
theorem E21_18 (a : Nat) (st : List jV) (l0 l1 l2 l3 l4 : Option jV) (w : jH) : jblk jT0 21 cl bk (n + 1) 18 [l0, l1, l2, l3, l4] (jr a :: st) w = jgf w a 0 2 fun v => jblk jT0 21 cl bk n 21 [l0, l1, l2, l3, l4] (v :: st) w := rfl
theorem E21_21 (x : Int) (st : List jV) (l0 l1 l2 l4 : Option jV) (w : jH) : jblk jT0 21 cl bk (n + 1) 21 [l0, l1, l2, some (.inl x), l4] st w = jblk jT0 21 cl bk n 22 [l0, l1, l2, some (.inl x), l4] (.inl x :: st) w := rfl
theorem E21_22 (x : Int) (a : Nat) (st : List jV) (l0 l1 l2 l3 l4 : Option jV) (w : jH) : jblk jT0 21 cl bk (n + 1) 22 [l0, l1, l2, l3, l4] (.inl x :: jr a :: st) w = jgi w a .boolean x fun z => jblk jT0 21 cl bk n 23 [l0, l1, l2, l3, l4] (.inl z :: st) w := rfl
theorem E21_23 (x : Int) (st : List jV) (l0 l1 l2 l3 l4 : Option jV) (w : jH) : jblk jT0 21 cl bk (n + 1) 23 [l0, l1, l2, l3, l4] (.inl x :: st) w = if x = 0 then jblk jT0 21 cl bk n 40 [l0, l1, l2, l3, l4] st w else jblk jT0 21 cl bk n 26 [l0, l1, l2, l3, l4] st w := rfl
theorem E21_26 (a : Nat) (st : List jV) (l1 l2 l3 l4 : Option jV) (w : jH) : jblk jT0 21 cl bk (n + 1) 26 [some (jr a), l1, l2, l3, l4] st w = jblk jT0 21 cl bk n 27 [some (jr a), l1, l2, l3, l4] (jr a :: st) w := rfl
theorem E21_27 (x : Int) (st : List jV) (l0 l1 l2 l4 : Option jV) (w : jH) : jblk jT0 21 cl bk (n + 1) 27 [l0, l1, l2, some (.inl x), l4] st w = jblk jT0 21 cl bk n 28 [l0, l1, l2, some (.inl x), l4] (.inl x :: st) w := rfl
theorem E21_28 (x : Int) (st : List jV) (l0 l2 l3 l4 : Option jV) (w : jH) : jblk jT0 21 cl bk (n + 1) 28 [l0, some (.inl x), l2, l3, l4] st w = jblk jT0 21 cl bk n 29 [l0, some (.inl x), l2, l3, l4] (.inl x :: st) w := rfl
theorem E21_29 (a : Nat) (v0 : jV) (v1 : jV) (st : List jV) (l0 l1 l2 l3 l4 : Option jV) (w : jH) : jblk jT0 21 cl bk (n + 1) 29 [l0, l1, l2, l3, l4] (v1 :: v0 :: jr a :: st) w = jsh st (jgo w a 0 fun _ => jcl (cl 15 [jr a, v0, v1] w) (fun v w' => jblk jT0 21 cl bk n 32 [l0, l1, l2, l3, l4] (jpush v st) w') (fun E w' => some (.inr E, w'))) := rfl
theorem E21_32 (st : List jV) (l0 l1 l2 l3 l4 : Option jV) (w : jH) : jblk jT0 21 cl bk (n + 1) 32 [l0, l1, l2, l3, l4] st w = jblk jT0 21 cl bk n 33 [l0, l1, l2, l3, l4] (.inl (-1) :: st) w := rfl
theorem E21_33 (x : Int) (y : Int) (st : List jV) (l0 l1 l2 l3 l4 : Option jV) (w : jH) : jblk jT0 21 cl bk (n + 1) 33 [l0, l1, l2, l3, l4] (.inl y :: .inl x :: st) w = if x = y then jblk jT0 21 cl bk n 40 [l0, l1, l2, l3, l4] st w else jblk jT0 21 cl bk n 36 [l0, l1, l2, l3, l4] st w := rfl
theorem E21_36 (st : List jV) (l0 l1 l2 l3 l4 : Option jV) (w : jH) : jblk jT0 21 cl bk (n + 1) 36 [l0, l1, l2, l3, l4] st w = jblk jT0 21 cl bk n 37 [l0, l1, l2, l3, l4] (.inl 1 :: st) w := rfl
theorem E21_37 (st : List jV) (l0 l1 l2 l3 l4 : Option jV) (w : jH) : jblk jT0 21 cl bk (n + 1) 37 [l0, l1, l2, l3, l4] st w = jblk jT0 21 cl bk n 41 [l0, l1, l2, l3, l4] st w := rfl
theorem E21_40 (st : List jV) (l0 l1 l2 l3 l4 : Option jV) (w : jH) : jblk jT0 21 cl bk (n + 1) 40 [l0, l1, l2, l3, l4] st w = jblk jT0 21 cl bk n 41 [l0, l1, l2, l3, l4] (.inl 0 :: st) w := rfl
theorem E21_41 (x : Int) (st : List jV) (l0 l1 l2 l3 l4 : Option jV) (w : jH) : jblk jT0 21 cl bk (n + 1) 41 [l0, l1, l2, l3, l4] (.inl x :: st) w = jblk jT0 21 cl bk n 43 [l0, l1, l2, l3, some (.inl x)] st w := rfl
theorem E21_43 (x : Int) (st : List jV) (l0 l1 l2 l3 : Option jV) (w : jH) : jblk jT0 21 cl bk (n + 1) 43 [l0, l1, l2, l3, some (.inl x)] st w = jblk jT0 21 cl bk n 45 [l0, l1, l2, l3, some (.inl x)] (.inl x :: st) w := rfl
theorem E21_45 (x : Int) (st : List jV) (l0 l1 l2 l3 l4 : Option jV) (w : jH) : jblk jT0 21 cl bk (n + 1) 45 [l0, l1, l2, l3, l4] (.inl x :: st) w = if x = 0 then jblk jT0 21 cl bk n 65 [l0, l1, l2, l3, l4] st w else jblk jT0 21 cl bk n 48 [l0, l1, l2, l3, l4] st w := rfl
theorem E21_48 (x : Int) (st : List jV) (l0 l1 l3 l4 : Option jV) (w : jH) : jblk jT0 21 cl bk (n + 1) 48 [l0, l1, some (.inl x), l3, l4] st w = jblk jT0 21 cl bk n 49 [l0, l1, some (.inl x), l3, l4] (.inl x :: st) w := rfl
theorem E21_49 (st : List jV) (l0 l1 l2 l3 l4 : Option jV) (w : jH) : jblk jT0 21 cl bk (n + 1) 49 [l0, l1, l2, l3, l4] st w = jblk jT0 21 cl bk n 50 [l0, l1, l2, l3, l4] (.inl (-1) :: st) w := rfl
theorem E21_50 (x : Int) (y : Int) (st : List jV) (l0 l1 l2 l3 l4 : Option jV) (w : jH) : jblk jT0 21 cl bk (n + 1) 50 [l0, l1, l2, l3, l4] (.inl y :: .inl x :: st) w = if x = y then jblk jT0 21 cl bk n 63 [l0, l1, l2, l3, l4] st w else jblk jT0 21 cl bk n 53 [l0, l1, l2, l3, l4] st w := rfl
theorem E21_53 (a : Nat) (st : List jV) (l1 l2 l3 l4 : Option jV) (w : jH) : jblk jT0 21 cl bk (n + 1) 53 [some (jr a), l1, l2, l3, l4] st w = jblk jT0 21 cl bk n 54 [some (jr a), l1, l2, l3, l4] (jr a :: st) w := rfl
theorem E21_54 (x : Int) (st : List jV) (l0 l1 l2 l4 : Option jV) (w : jH) : jblk jT0 21 cl bk (n + 1) 54 [l0, l1, l2, some (.inl x), l4] st w = jblk jT0 21 cl bk n 55 [l0, l1, l2, some (.inl x), l4] (.inl x :: st) w := rfl
theorem E21_55 (x : Int) (st : List jV) (l0 l1 l3 l4 : Option jV) (w : jH) : jblk jT0 21 cl bk (n + 1) 55 [l0, l1, some (.inl x), l3, l4] st w = jblk jT0 21 cl bk n 56 [l0, l1, some (.inl x), l3, l4] (.inl x :: st) w := rfl
theorem E21_56 (x : Int) (st : List jV) (l0 l2 l3 l4 : Option jV) (w : jH) : jblk jT0 21 cl bk (n + 1) 56 [l0, some (.inl x), l2, l3, l4] st w = jblk jT0 21 cl bk n 57 [l0, some (.inl x), l2, l3, l4] (.inl x :: st) w := rfl
theorem E21_57 (a : Nat) (v0 : jV) (v1 : jV) (v2 : jV) (st : List jV) (l0 l1 l2 l3 l4 : Option jV) (w : jH) : jblk jT0 21 cl bk (n + 1) 57 [l0, l1, l2, l3, l4] (v2 :: v1 :: v0 :: jr a :: st) w = jsh st (jgo w a 0 fun _ => jcl (cl 22 [jr a, v0, v1, v2] w) (fun v w' => jblk jT0 21 cl bk n 60 [l0, l1, l2, l3, l4] (jpush v st) w') (fun E w' => some (.inr E, w'))) := rfl
theorem E21_60 (x : Int) (st : List jV) (l0 l1 l2 l3 l4 : Option jV) (w : jH) : jblk jT0 21 cl bk (n + 1) 60 [l0, l1, l2, l3, l4] (.inl x :: st) w = if x = 0 then jblk jT0 21 cl bk n 65 [l0, l1, l2, l3, l4] st w else jblk jT0 21 cl bk n 63 [l0, l1, l2, l3, l4] st w := rfl
theorem E21_63 (x : Int) (st : List jV) (l0 l1 l2 l4 : Option jV) (w : jH) : jblk jT0 21 cl bk (n + 1) 63 [l0, l1, l2, some (.inl x), l4] st w = jblk jT0 21 cl bk n 64 [l0, l1, l2, some (.inl x), l4] (.inl x :: st) w := rfl
theorem E21_64 (x : Int) (st : List jV) (l0 l1 l2 l3 l4 : Option jV) (w : jH) : jblk jT0 21 cl bk (n + 1) 64 [l0, l1, l2, l3, l4] (.inl x :: st) w = jblk jT0 21 cl bk n 65 [l0, l1, some (.inl x), l3, l4] st w := rfl
theorem E21_65 (x : Int) (st : List jV) (l0 l1 l2 l4 : Option jV) (w : jH) : jblk jT0 21 cl bk (n + 1) 65 [l0, l1, l2, some (.inl x), l4] st w = jblk jT0 21 cl bk n 68 [l0, l1, l2, some (.inl (jw (x + 1))), l4] st w := rfl
theorem E21_68 (st : List jV) (l0 l1 l2 l3 l4 : Option jV) (w : jH) : jblk jT0 21 cl bk (n + 1) 68 [l0, l1, l2, l3, l4] st w = bk 4 [l0, l1, l2, l3, l4] st w := rfl
theorem E21_71 (x : Int) (st : List jV) (l0 l1 l3 l4 : Option jV) (w : jH) : jblk jT0 21 cl bk (n + 1) 71 [l0, l1, some (.inl x), l3, l4] st w = jblk jT0 21 cl bk n 72 [l0, l1, some (.inl x), l3, l4] (.inl x :: st) w := rfl
theorem E21_72 (x : Int) (l0 l1 l2 l3 l4 : Option jV) (w : jH) : jblk jT0 21 cl bk (n + 1) 72 [l0, l1, l2, l3, l4] [.inl x] w = if jfits .int x = true then some (.inl (some (.inl x)), w) else none := rfl
theorem E22_0 (a : Nat) (st : List jV) (l1 l2 l3 l4 l5 : Option jV) (w : jH) : jblk jT0 22 cl bk (n + 1) 0 [some (jr a), l1, l2, l3, l4, l5] st w = jblk jT0 22 cl bk n 1 [some (jr a), l1, l2, l3, l4, l5] (jr a :: st) w := rfl
theorem E22_1 (a : Nat) (st : List jV) (l1 l2 l3 l4 l5 : Option jV) (w : jH) : jblk jT0 22 cl bk (n + 1) 1 [some (jr a), l1, l2, l3, l4, l5] st w = jblk jT0 22 cl bk n 2 [some (jr a), l1, l2, l3, l4, l5] (jr a :: st) w := rfl
theorem E22_2 (x : Int) (st : List jV) (l0 l2 l3 l4 l5 : Option jV) (w : jH) : jblk jT0 22 cl bk (n + 1) 2 [l0, some (.inl x), l2, l3, l4, l5] st w = jblk jT0 22 cl bk n 3 [l0, some (.inl x), l2, l3, l4, l5] (.inl x :: st) w := rfl
theorem E22_3 (x : Int) (st : List jV) (l0 l1 l2 l4 l5 : Option jV) (w : jH) : jblk jT0 22 cl bk (n + 1) 3 [l0, l1, l2, some (.inl x), l4, l5] st w = jblk jT0 22 cl bk n 4 [l0, l1, l2, some (.inl x), l4, l5] (.inl x :: st) w := rfl
theorem E22_4 (a : Nat) (v0 : jV) (v1 : jV) (st : List jV) (l0 l1 l2 l3 l4 l5 : Option jV) (w : jH) : jblk jT0 22 cl bk (n + 1) 4 [l0, l1, l2, l3, l4, l5] (v1 :: v0 :: jr a :: st) w = jsh st (jgo w a 0 fun _ => jcl (cl 15 [jr a, v0, v1] w) (fun v w' => jblk jT0 22 cl bk n 7 [l0, l1, l2, l3, l4, l5] (jpush v st) w') (fun E w' => some (.inr E, w'))) := rfl
theorem E22_7 (a : Nat) (v0 : jV) (st : List jV) (l0 l1 l2 l3 l4 l5 : Option jV) (w : jH) : jblk jT0 22 cl bk (n + 1) 7 [l0, l1, l2, l3, l4, l5] (v0 :: jr a :: st) w = jsh st (jgo w a 0 fun _ => jcl (cl 4 [jr a, v0] w) (fun v w' => jblk jT0 22 cl bk n 10 [l0, l1, l2, l3, l4, l5] (jpush v st) w') (fun E w' => some (.inr E, w'))) := rfl
theorem E22_10 (x : Int) (st : List jV) (l0 l1 l2 l3 l4 l5 : Option jV) (w : jH) : jblk jT0 22 cl bk (n + 1) 10 [l0, l1, l2, l3, l4, l5] (.inl x :: st) w = jblk jT0 22 cl bk n 12 [l0, l1, l2, l3, some (.inl x), l5] st w := rfl
theorem E22_12 (a : Nat) (st : List jV) (l1 l2 l3 l4 l5 : Option jV) (w : jH) : jblk jT0 22 cl bk (n + 1) 12 [some (jr a), l1, l2, l3, l4, l5] st w = jblk jT0 22 cl bk n 13 [some (jr a), l1, l2, l3, l4, l5] (jr a :: st) w := rfl
theorem E22_13 (a : Nat) (st : List jV) (l1 l2 l3 l4 l5 : Option jV) (w : jH) : jblk jT0 22 cl bk (n + 1) 13 [some (jr a), l1, l2, l3, l4, l5] st w = jblk jT0 22 cl bk n 14 [some (jr a), l1, l2, l3, l4, l5] (jr a :: st) w := rfl
theorem E22_14 (x : Int) (st : List jV) (l0 l1 l3 l4 l5 : Option jV) (w : jH) : jblk jT0 22 cl bk (n + 1) 14 [l0, l1, some (.inl x), l3, l4, l5] st w = jblk jT0 22 cl bk n 15 [l0, l1, some (.inl x), l3, l4, l5] (.inl x :: st) w := rfl
theorem E22_15 (x : Int) (st : List jV) (l0 l1 l2 l4 l5 : Option jV) (w : jH) : jblk jT0 22 cl bk (n + 1) 15 [l0, l1, l2, some (.inl x), l4, l5] st w = jblk jT0 22 cl bk n 16 [l0, l1, l2, some (.inl x), l4, l5] (.inl x :: st) w := rfl
theorem E22_16 (a : Nat) (v0 : jV) (v1 : jV) (st : List jV) (l0 l1 l2 l3 l4 l5 : Option jV) (w : jH) : jblk jT0 22 cl bk (n + 1) 16 [l0, l1, l2, l3, l4, l5] (v1 :: v0 :: jr a :: st) w = jsh st (jgo w a 0 fun _ => jcl (cl 15 [jr a, v0, v1] w) (fun v w' => jblk jT0 22 cl bk n 19 [l0, l1, l2, l3, l4, l5] (jpush v st) w') (fun E w' => some (.inr E, w'))) := rfl
theorem E22_19 (a : Nat) (v0 : jV) (st : List jV) (l0 l1 l2 l3 l4 l5 : Option jV) (w : jH) : jblk jT0 22 cl bk (n + 1) 19 [l0, l1, l2, l3, l4, l5] (v0 :: jr a :: st) w = jsh st (jgo w a 0 fun _ => jcl (cl 4 [jr a, v0] w) (fun v w' => jblk jT0 22 cl bk n 22 [l0, l1, l2, l3, l4, l5] (jpush v st) w') (fun E w' => some (.inr E, w'))) := rfl
theorem E22_22 (x : Int) (st : List jV) (l0 l1 l2 l3 l4 l5 : Option jV) (w : jH) : jblk jT0 22 cl bk (n + 1) 22 [l0, l1, l2, l3, l4, l5] (.inl x :: st) w = jblk jT0 22 cl bk n 24 [l0, l1, l2, l3, l4, some (.inl x)] st w := rfl
theorem E22_24 (x : Int) (st : List jV) (l0 l1 l2 l3 l5 : Option jV) (w : jH) : jblk jT0 22 cl bk (n + 1) 24 [l0, l1, l2, l3, some (.inl x), l5] st w = jblk jT0 22 cl bk n 26 [l0, l1, l2, l3, some (.inl x), l5] (.inl x :: st) w := rfl
theorem E22_26 (x : Int) (st : List jV) (l0 l1 l2 l3 l4 : Option jV) (w : jH) : jblk jT0 22 cl bk (n + 1) 26 [l0, l1, l2, l3, l4, some (.inl x)] st w = jblk jT0 22 cl bk n 28 [l0, l1, l2, l3, l4, some (.inl x)] (.inl x :: st) w := rfl
theorem E22_28 (x : Int) (y : Int) (st : List jV) (l0 l1 l2 l3 l4 l5 : Option jV) (w : jH) : jblk jT0 22 cl bk (n + 1) 28 [l0, l1, l2, l3, l4, l5] (.inl y :: .inl x :: st) w = if x = y then jblk jT0 22 cl bk n 44 [l0, l1, l2, l3, l4, l5] st w else jblk jT0 22 cl bk n 31 [l0, l1, l2, l3, l4, l5] st w := rfl
theorem E22_31 (x : Int) (st : List jV) (l0 l1 l2 l3 l5 : Option jV) (w : jH) : jblk jT0 22 cl bk (n + 1) 31 [l0, l1, l2, l3, some (.inl x), l5] st w = jblk jT0 22 cl bk n 33 [l0, l1, l2, l3, some (.inl x), l5] (.inl x :: st) w := rfl
theorem E22_33 (x : Int) (st : List jV) (l0 l1 l2 l3 l4 : Option jV) (w : jH) : jblk jT0 22 cl bk (n + 1) 33 [l0, l1, l2, l3, l4, some (.inl x)] st w = jblk jT0 22 cl bk n 35 [l0, l1, l2, l3, l4, some (.inl x)] (.inl x :: st) w := rfl
theorem E22_35 (x : Int) (y : Int) (st : List jV) (l0 l1 l2 l3 l4 l5 : Option jV) (w : jH) : jblk jT0 22 cl bk (n + 1) 35 [l0, l1, l2, l3, l4, l5] (.inl y :: .inl x :: st) w = if y < x then jblk jT0 22 cl bk n 38 [l0, l1, l2, l3, l4, l5] st w else jblk jT0 22 cl bk n 42 [l0, l1, l2, l3, l4, l5] st w := rfl
theorem E22_38 (st : List jV) (l0 l1 l2 l3 l4 l5 : Option jV) (w : jH) : jblk jT0 22 cl bk (n + 1) 38 [l0, l1, l2, l3, l4, l5] st w = jblk jT0 22 cl bk n 39 [l0, l1, l2, l3, l4, l5] (.inl 1 :: st) w := rfl
theorem E22_39 (st : List jV) (l0 l1 l2 l3 l4 l5 : Option jV) (w : jH) : jblk jT0 22 cl bk (n + 1) 39 [l0, l1, l2, l3, l4, l5] st w = jblk jT0 22 cl bk n 43 [l0, l1, l2, l3, l4, l5] st w := rfl
theorem E22_42 (st : List jV) (l0 l1 l2 l3 l4 l5 : Option jV) (w : jH) : jblk jT0 22 cl bk (n + 1) 42 [l0, l1, l2, l3, l4, l5] st w = jblk jT0 22 cl bk n 43 [l0, l1, l2, l3, l4, l5] (.inl 0 :: st) w := rfl
theorem E22_43 (x : Int) (l0 l1 l2 l3 l4 l5 : Option jV) (w : jH) : jblk jT0 22 cl bk (n + 1) 43 [l0, l1, l2, l3, l4, l5] [.inl x] w = if jfits .boolean x = true then some (.inl (some (.inl x)), w) else none := rfl
theorem E22_44 (a : Nat) (st : List jV) (l1 l2 l3 l4 l5 : Option jV) (w : jH) : jblk jT0 22 cl bk (n + 1) 44 [some (jr a), l1, l2, l3, l4, l5] st w = jblk jT0 22 cl bk n 45 [some (jr a), l1, l2, l3, l4, l5] (jr a :: st) w := rfl
theorem E22_45 (x : Int) (st : List jV) (l0 l2 l3 l4 l5 : Option jV) (w : jH) : jblk jT0 22 cl bk (n + 1) 45 [l0, some (.inl x), l2, l3, l4, l5] st w = jblk jT0 22 cl bk n 46 [l0, some (.inl x), l2, l3, l4, l5] (.inl x :: st) w := rfl
theorem E22_46 (a : Nat) (v0 : jV) (st : List jV) (l0 l1 l2 l3 l4 l5 : Option jV) (w : jH) : jblk jT0 22 cl bk (n + 1) 46 [l0, l1, l2, l3, l4, l5] (v0 :: jr a :: st) w = jsh st (jgo w a 0 fun _ => jcl (cl 6 [jr a, v0] w) (fun v w' => jblk jT0 22 cl bk n 49 [l0, l1, l2, l3, l4, l5] (jpush v st) w') (fun E w' => some (.inr E, w'))) := rfl
theorem E22_49 (a : Nat) (st : List jV) (l1 l2 l3 l4 l5 : Option jV) (w : jH) : jblk jT0 22 cl bk (n + 1) 49 [some (jr a), l1, l2, l3, l4, l5] st w = jblk jT0 22 cl bk n 50 [some (jr a), l1, l2, l3, l4, l5] (jr a :: st) w := rfl
theorem E22_50 (x : Int) (st : List jV) (l0 l1 l3 l4 l5 : Option jV) (w : jH) : jblk jT0 22 cl bk (n + 1) 50 [l0, l1, some (.inl x), l3, l4, l5] st w = jblk jT0 22 cl bk n 51 [l0, l1, some (.inl x), l3, l4, l5] (.inl x :: st) w := rfl
theorem E22_51 (a : Nat) (v0 : jV) (st : List jV) (l0 l1 l2 l3 l4 l5 : Option jV) (w : jH) : jblk jT0 22 cl bk (n + 1) 51 [l0, l1, l2, l3, l4, l5] (v0 :: jr a :: st) w = jsh st (jgo w a 0 fun _ => jcl (cl 6 [jr a, v0] w) (fun v w' => jblk jT0 22 cl bk n 54 [l0, l1, l2, l3, l4, l5] (jpush v st) w') (fun E w' => some (.inr E, w'))) := rfl
theorem E22_54 (x : Int) (y : Int) (st : List jV) (l0 l1 l2 l3 l4 l5 : Option jV) (w : jH) : jblk jT0 22 cl bk (n + 1) 54 [l0, l1, l2, l3, l4, l5] (.inl y :: .inl x :: st) w = if x < y then jblk jT0 22 cl bk n 57 [l0, l1, l2, l3, l4, l5] st w else jblk jT0 22 cl bk n 61 [l0, l1, l2, l3, l4, l5] st w := rfl
theorem E22_57 (st : List jV) (l0 l1 l2 l3 l4 l5 : Option jV) (w : jH) : jblk jT0 22 cl bk (n + 1) 57 [l0, l1, l2, l3, l4, l5] st w = jblk jT0 22 cl bk n 58 [l0, l1, l2, l3, l4, l5] (.inl 1 :: st) w := rfl
theorem E22_58 (st : List jV) (l0 l1 l2 l3 l4 l5 : Option jV) (w : jH) : jblk jT0 22 cl bk (n + 1) 58 [l0, l1, l2, l3, l4, l5] st w = jblk jT0 22 cl bk n 62 [l0, l1, l2, l3, l4, l5] st w := rfl
theorem E22_61 (st : List jV) (l0 l1 l2 l3 l4 l5 : Option jV) (w : jH) : jblk jT0 22 cl bk (n + 1) 61 [l0, l1, l2, l3, l4, l5] st w = jblk jT0 22 cl bk n 62 [l0, l1, l2, l3, l4, l5] (.inl 0 :: st) w := rfl
theorem E22_62 (x : Int) (l0 l1 l2 l3 l4 l5 : Option jV) (w : jH) : jblk jT0 22 cl bk (n + 1) 62 [l0, l1, l2, l3, l4, l5] [.inl x] w = if jfits .boolean x = true then some (.inl (some (.inl x)), w) else none := rfl
end
theorem M1 (d : Nat) (r0 : Nat) (a1 : Int) (w : jH) : jme jT0 jMx (d + 1) 1 [jr r0, .inl a1] w = jblk jT0 1 (jme jT0 jMx d) (jlp jT0 1 (jme jT0 jMx d) 99999) 4000 0 [some (jr r0), some (.inl a1)] [] w := (show _ = jlp jT0 1 (jme jT0 jMx d) 100000 0 [some (jr r0), some (.inl a1)] [] w from rfl).trans jlp_s
theorem M2 (d : Nat) (r0 : Nat) (a1 : Int) (w : jH) : jme jT0 jMx (d + 1) 2 [jr r0, .inl a1] w = jblk jT0 2 (jme jT0 jMx d) (jlp jT0 2 (jme jT0 jMx d) 99999) 4000 0 [some (jr r0), some (.inl a1)] [] w := (show _ = jlp jT0 2 (jme jT0 jMx d) 100000 0 [some (jr r0), some (.inl a1)] [] w from rfl).trans jlp_s
theorem M3 (d : Nat) (r0 : Nat) (a1 : Int) (w : jH) : jme jT0 jMx (d + 1) 3 [jr r0, .inl a1] w = jblk jT0 3 (jme jT0 jMx d) (jlp jT0 3 (jme jT0 jMx d) 99999) 4000 0 [some (jr r0), some (.inl a1)] [] w := (show _ = jlp jT0 3 (jme jT0 jMx d) 100000 0 [some (jr r0), some (.inl a1)] [] w from rfl).trans jlp_s
theorem M4 (d : Nat) (r0 : Nat) (a1 : Int) (w : jH) : jme jT0 jMx (d + 1) 4 [jr r0, .inl a1] w = jblk jT0 4 (jme jT0 jMx d) (jlp jT0 4 (jme jT0 jMx d) 99999) 4000 0 [some (jr r0), some (.inl a1)] [] w := (show _ = jlp jT0 4 (jme jT0 jMx d) 100000 0 [some (jr r0), some (.inl a1)] [] w from rfl).trans jlp_s
theorem M5 (d : Nat) (r0 : Nat) (a1 : Int) (w : jH) : jme jT0 jMx (d + 1) 5 [jr r0, .inl a1] w = jblk jT0 5 (jme jT0 jMx d) (jlp jT0 5 (jme jT0 jMx d) 99999) 4000 0 [some (jr r0), some (.inl a1)] [] w := (show _ = jlp jT0 5 (jme jT0 jMx d) 100000 0 [some (jr r0), some (.inl a1)] [] w from rfl).trans jlp_s
theorem M6 (d : Nat) (r0 : Nat) (a1 : Int) (w : jH) : jme jT0 jMx (d + 1) 6 [jr r0, .inl a1] w = jblk jT0 6 (jme jT0 jMx d) (jlp jT0 6 (jme jT0 jMx d) 99999) 4000 0 [some (jr r0), some (.inl a1), none] [] w := (show _ = jlp jT0 6 (jme jT0 jMx d) 100000 0 [some (jr r0), some (.inl a1), none] [] w from rfl).trans jlp_s
theorem M7 (d : Nat) (r0 : Nat) (a1 : Int) (w : jH) : jme jT0 jMx (d + 1) 7 [jr r0, .inl a1] w = jblk jT0 7 (jme jT0 jMx d) (jlp jT0 7 (jme jT0 jMx d) 99999) 4000 0 [some (jr r0), some (.inl a1), none] [] w := (show _ = jlp jT0 7 (jme jT0 jMx d) 100000 0 [some (jr r0), some (.inl a1), none] [] w from rfl).trans jlp_s
theorem M8 (d : Nat) (r0 : Nat) (a1 : Int) (w : jH) : jme jT0 jMx (d + 1) 8 [jr r0, .inl a1] w = jblk jT0 8 (jme jT0 jMx d) (jlp jT0 8 (jme jT0 jMx d) 99999) 4000 0 [some (jr r0), some (.inl a1), none, none, none] [] w := (show _ = jlp jT0 8 (jme jT0 jMx d) 100000 0 [some (jr r0), some (.inl a1), none, none, none] [] w from rfl).trans jlp_s
theorem M9 (d : Nat) (r0 : Nat) (a1 : Int) (w : jH) : jme jT0 jMx (d + 1) 9 [jr r0, .inl a1] w = jblk jT0 9 (jme jT0 jMx d) (jlp jT0 9 (jme jT0 jMx d) 99999) 4000 0 [some (jr r0), some (.inl a1)] [] w := (show _ = jlp jT0 9 (jme jT0 jMx d) 100000 0 [some (jr r0), some (.inl a1)] [] w from rfl).trans jlp_s
theorem M10 (d : Nat) (r0 : Nat) (w : jH) : jme jT0 jMx (d + 1) 10 [jr r0] w = jblk jT0 10 (jme jT0 jMx d) (jlp jT0 10 (jme jT0 jMx d) 99999) 4000 0 [some (jr r0), none, none] [] w := (show _ = jlp jT0 10 (jme jT0 jMx d) 100000 0 [some (jr r0), none, none] [] w from rfl).trans jlp_s
theorem M11 (d : Nat) (r0 : Nat) (a1 : Int) (w : jH) : jme jT0 jMx (d + 1) 11 [jr r0, .inl a1] w = jblk jT0 11 (jme jT0 jMx d) (jlp jT0 11 (jme jT0 jMx d) 99999) 4000 0 [some (jr r0), some (.inl a1), none, none] [] w := (show _ = jlp jT0 11 (jme jT0 jMx d) 100000 0 [some (jr r0), some (.inl a1), none, none] [] w from rfl).trans jlp_s
theorem M12 (d : Nat) (r0 : Nat) (a1 : Int) (a2 : Int) (w : jH) : jme jT0 jMx (d + 1) 12 [jr r0, .inl a1, .inl a2] w = jblk jT0 12 (jme jT0 jMx d) (jlp jT0 12 (jme jT0 jMx d) 99999) 4000 0 [some (jr r0), some (.inl a1), some (.inl a2), none, none] [] w := (show _ = jlp jT0 12 (jme jT0 jMx d) 100000 0 [some (jr r0), some (.inl a1), some (.inl a2), none, none] [] w from rfl).trans jlp_s
theorem M13 (d : Nat) (r0 : Nat) (a1 : Int) (w : jH) : jme jT0 jMx (d + 1) 13 [jr r0, .inl a1] w = jblk jT0 13 (jme jT0 jMx d) (jlp jT0 13 (jme jT0 jMx d) 99999) 4000 0 [some (jr r0), some (.inl a1), none, none, none] [] w := (show _ = jlp jT0 13 (jme jT0 jMx d) 100000 0 [some (jr r0), some (.inl a1), none, none, none] [] w from rfl).trans jlp_s
theorem M14 (d : Nat) (r0 : Nat) (a1 : Int) (a2 : Int) (w : jH) : jme jT0 jMx (d + 1) 14 [jr r0, .inl a1, .inl a2] w = jblk jT0 14 (jme jT0 jMx d) (jlp jT0 14 (jme jT0 jMx d) 99999) 4000 0 [some (jr r0), some (.inl a1), some (.inl a2), none, none, none] [] w := (show _ = jlp jT0 14 (jme jT0 jMx d) 100000 0 [some (jr r0), some (.inl a1), some (.inl a2), none, none, none] [] w from rfl).trans jlp_s
theorem M15 (d : Nat) (r0 : Nat) (a1 : Int) (a2 : Int) (w : jH) : jme jT0 jMx (d + 1) 15 [jr r0, .inl a1, .inl a2] w = jblk jT0 15 (jme jT0 jMx d) (jlp jT0 15 (jme jT0 jMx d) 99999) 4000 0 [some (jr r0), some (.inl a1), some (.inl a2), none, none, none] [] w := (show _ = jlp jT0 15 (jme jT0 jMx d) 100000 0 [some (jr r0), some (.inl a1), some (.inl a2), none, none, none] [] w from rfl).trans jlp_s
theorem M16 (d : Nat) (r0 : Nat) (a1 : Int) (a2 : Int) (w : jH) : jme jT0 jMx (d + 1) 16 [jr r0, .inl a1, .inl a2] w = jblk jT0 16 (jme jT0 jMx d) (jlp jT0 16 (jme jT0 jMx d) 99999) 4000 0 [some (jr r0), some (.inl a1), some (.inl a2), none] [] w := (show _ = jlp jT0 16 (jme jT0 jMx d) 100000 0 [some (jr r0), some (.inl a1), some (.inl a2), none] [] w from rfl).trans jlp_s
theorem M17 (d : Nat) (r0 : Nat) (a1 : Int) (a2 : Int) (w : jH) : jme jT0 jMx (d + 1) 17 [jr r0, .inl a1, .inl a2] w = jblk jT0 17 (jme jT0 jMx d) (jlp jT0 17 (jme jT0 jMx d) 99999) 4000 0 [some (jr r0), some (.inl a1), some (.inl a2)] [] w := (show _ = jlp jT0 17 (jme jT0 jMx d) 100000 0 [some (jr r0), some (.inl a1), some (.inl a2)] [] w from rfl).trans jlp_s
theorem M18 (d : Nat) (r0 : Nat) (a1 : Int) (w : jH) : jme jT0 jMx (d + 1) 18 [jr r0, .inl a1] w = jblk jT0 18 (jme jT0 jMx d) (jlp jT0 18 (jme jT0 jMx d) 99999) 4000 0 [some (jr r0), some (.inl a1), none, none] [] w := (show _ = jlp jT0 18 (jme jT0 jMx d) 100000 0 [some (jr r0), some (.inl a1), none, none] [] w from rfl).trans jlp_s
theorem M19 (d : Nat) (r0 : Nat) (a1 : Int) (w : jH) : jme jT0 jMx (d + 1) 19 [jr r0, .inl a1] w = jblk jT0 19 (jme jT0 jMx d) (jlp jT0 19 (jme jT0 jMx d) 99999) 4000 0 [some (jr r0), some (.inl a1)] [] w := (show _ = jlp jT0 19 (jme jT0 jMx d) 100000 0 [some (jr r0), some (.inl a1)] [] w from rfl).trans jlp_s
theorem M20 (d : Nat) (r0 : Nat) (a1 : Int) (w : jH) : jme jT0 jMx (d + 1) 20 [jr r0, .inl a1] w = jblk jT0 20 (jme jT0 jMx d) (jlp jT0 20 (jme jT0 jMx d) 99999) 4000 0 [some (jr r0), some (.inl a1), none, none, none] [] w := (show _ = jlp jT0 20 (jme jT0 jMx d) 100000 0 [some (jr r0), some (.inl a1), none, none, none] [] w from rfl).trans jlp_s
theorem M21 (d : Nat) (r0 : Nat) (a1 : Int) (w : jH) : jme jT0 jMx (d + 1) 21 [jr r0, .inl a1] w = jblk jT0 21 (jme jT0 jMx d) (jlp jT0 21 (jme jT0 jMx d) 99999) 4000 0 [some (jr r0), some (.inl a1), none, none, none] [] w := (show _ = jlp jT0 21 (jme jT0 jMx d) 100000 0 [some (jr r0), some (.inl a1), none, none, none] [] w from rfl).trans jlp_s
theorem M22 (d : Nat) (r0 : Nat) (a1 : Int) (a2 : Int) (a3 : Int) (w : jH) : jme jT0 jMx (d + 1) 22 [jr r0, .inl a1, .inl a2, .inl a3] w = jblk jT0 22 (jme jT0 jMx d) (jlp jT0 22 (jme jT0 jMx d) 99999) 4000 0 [some (jr r0), some (.inl a1), some (.inl a2), some (.inl a3), none, none] [] w := (show _ = jlp jT0 22 (jme jT0 jMx d) 100000 0 [some (jr r0), some (.inl a1), some (.inl a2), some (.inl a3), none, none] [] w from rfl).trans jlp_s
def f_People_has (m : jMem) (a1 : Int) : Option Int := if a1 < 0 then some 0 else if a1 < (m 2 4) then some 1 else some 0
section
variable {cf : jCf} {dv : UInt64}
set_option maxRecDepth 20000 in
set_option maxHeartbeats 4000000 in
theorem X1 (d : Nat) (a1 : Int) (m : jMem) (k : jM) : jme jT0 jMx (d + 1) 1 [jr (jn cf + 2), .inl a1] (hp cf dv m, k) = l0 cf dv m k ijI (f_People_has m a1) := by
  simp only [M1, E1_0, E1_1, E1_4, E1_5, E1_6, E1_9, E1_12, E1_13, E1_16, E1_17, gf_2_4, jsh_n, jsh_I, jsh_R, jsh_II, jsh_IR, jsh_RI, jsh_RR, jsh_III, jsh_IIR, jsh_IRI, jsh_IRR, jsh_RII, jsh_RIR, jsh_RRI, jsh_RRR, jsh_IIII, jsh_IIIR, jsh_IIRI, jsh_IIRR, jsh_IRII, jsh_IRIR, jsh_IRRI, jsh_IRRR, jsh_RIII, jsh_RIIR, jsh_RIRI, jsh_RIRR, jsh_RRII, jsh_RRIR, jsh_RRRI, jsh_RRRR, jthr_hp, jc_l0, jc_lW, jc_lX, jc_lXW, jc_lVW, jc_lVX, jpush_n, jpush_s, obt_0, obt_1, och_0, och_32, och_100, och_115, och_104, och_33, och_43, och_60, jint, jbit, jchr, ijI, ijR, ijD, ijF, ↓reduceIte, Int.reduceEq, Int.reduceLT, reduceCtorEq, l0_bind, l0_ite, l0_none, l0_oix, l0_obt, l0_och, l0_sel, l0_oel, l0_some, f_People_has]
end
def f_People_isLiving (m : jMem) (a1 : Int) : Option Int := if a1 < 0 then some 0 else if a1 < (m 2 4) then oix a1 16 (if (m 5 a1.toNat) = 0 then some 0 else some 1) else some 0
section
variable {cf : jCf} {dv : UInt64}
set_option maxRecDepth 20000 in
set_option maxHeartbeats 4000000 in
theorem X2 (d : Nat) (a1 : Int) (m : jMem) (k : jM) : jme jT0 jMx (d + 1) 2 [jr (jn cf + 2), .inl a1] (hp cf dv m, k) = l0 cf dv m k ijI (f_People_isLiving m a1) := by
  simp only [M2, E2_0, E2_1, E2_4, E2_5, E2_6, E2_9, E2_12, E2_13, E2_16, E2_17, E2_18, E2_21, E2_22, E2_25, E2_26, ai_5, gf_2_2, gf_2_4, jsh_n, jsh_I, jsh_R, jsh_II, jsh_IR, jsh_RI, jsh_RR, jsh_III, jsh_IIR, jsh_IRI, jsh_IRR, jsh_RII, jsh_RIR, jsh_RRI, jsh_RRR, jsh_IIII, jsh_IIIR, jsh_IIRI, jsh_IIRR, jsh_IRII, jsh_IRIR, jsh_IRRI, jsh_IRRR, jsh_RIII, jsh_RIIR, jsh_RIRI, jsh_RIRR, jsh_RRII, jsh_RRIR, jsh_RRRI, jsh_RRRR, jthr_hp, jc_l0, jc_lW, jc_lX, jc_lXW, jc_lVW, jc_lVX, jpush_n, jpush_s, obt_0, obt_1, och_0, och_32, och_100, och_115, och_104, och_33, och_43, och_60, jint, jbit, jchr, ijI, ijR, ijD, ijF, ↓reduceIte, Int.reduceEq, Int.reduceLT, reduceCtorEq, l0_bind, l0_ite, l0_none, l0_oix, l0_obt, l0_och, l0_sel, l0_oel, l0_some, f_People_isLiving]
end
def f_People_parent (m : jMem) (a1 : Int) : Option Int := if a1 < 0 then some (-1) else if a1 < (m 2 4) then oix a1 16 (some (m 3 a1.toNat)) else some (-1)
section
variable {cf : jCf} {dv : UInt64}
set_option maxRecDepth 20000 in
set_option maxHeartbeats 4000000 in
theorem X3 (d : Nat) (a1 : Int) (m : jMem) (k : jM) : jme jT0 jMx (d + 1) 3 [jr (jn cf + 2), .inl a1] (hp cf dv m, k) = l0 cf dv m k ijI (f_People_parent m a1) := by
  simp only [M3, E3_0, E3_1, E3_4, E3_5, E3_6, E3_9, E3_12, E3_13, E3_16, E3_17, E3_18, E3_21, E3_22, ai_3, gf_2_0, gf_2_4, jsh_n, jsh_I, jsh_R, jsh_II, jsh_IR, jsh_RI, jsh_RR, jsh_III, jsh_IIR, jsh_IRI, jsh_IRR, jsh_RII, jsh_RIR, jsh_RRI, jsh_RRR, jsh_IIII, jsh_IIIR, jsh_IIRI, jsh_IIRR, jsh_IRII, jsh_IRIR, jsh_IRRI, jsh_IRRR, jsh_RIII, jsh_RIIR, jsh_RIRI, jsh_RIRR, jsh_RRII, jsh_RRIR, jsh_RRRI, jsh_RRRR, jthr_hp, jc_l0, jc_lW, jc_lX, jc_lXW, jc_lVW, jc_lVX, jpush_n, jpush_s, obt_0, obt_1, och_0, och_32, och_100, och_115, och_104, och_33, och_43, och_60, jint, jbit, jchr, ijI, ijR, ijD, ijF, ↓reduceIte, Int.reduceEq, Int.reduceLT, reduceCtorEq, l0_bind, l0_ite, l0_none, l0_oix, l0_obt, l0_och, l0_sel, l0_oel, l0_some, f_People_parent]
end
def f_People_depth (m : jMem) (a1 : Int) : Option Int := if a1 < 0 then some (-1) else if a1 < (m 2 4) then oix a1 16 (some (m 4 a1.toNat)) else some (-1)
section
variable {cf : jCf} {dv : UInt64}
set_option maxRecDepth 20000 in
set_option maxHeartbeats 4000000 in
theorem X4 (d : Nat) (a1 : Int) (m : jMem) (k : jM) : jme jT0 jMx (d + 1) 4 [jr (jn cf + 2), .inl a1] (hp cf dv m, k) = l0 cf dv m k ijI (f_People_depth m a1) := by
  simp only [M4, E4_0, E4_1, E4_4, E4_5, E4_6, E4_9, E4_12, E4_13, E4_16, E4_17, E4_18, E4_21, E4_22, ai_4, gf_2_1, gf_2_4, jsh_n, jsh_I, jsh_R, jsh_II, jsh_IR, jsh_RI, jsh_RR, jsh_III, jsh_IIR, jsh_IRI, jsh_IRR, jsh_RII, jsh_RIR, jsh_RRI, jsh_RRR, jsh_IIII, jsh_IIIR, jsh_IIRI, jsh_IIRR, jsh_IRII, jsh_IRIR, jsh_IRRI, jsh_IRRR, jsh_RIII, jsh_RIIR, jsh_RIRI, jsh_RIRR, jsh_RRII, jsh_RRIR, jsh_RRRI, jsh_RRRR, jthr_hp, jc_l0, jc_lW, jc_lX, jc_lXW, jc_lVW, jc_lVX, jpush_n, jpush_s, obt_0, obt_1, och_0, och_32, och_100, och_115, och_104, och_33, och_43, och_60, jint, jbit, jchr, ijI, ijR, ijD, ijF, ↓reduceIte, Int.reduceEq, Int.reduceLT, reduceCtorEq, l0_bind, l0_ite, l0_none, l0_oix, l0_obt, l0_och, l0_sel, l0_oel, l0_some, f_People_depth]
end
def f_People_personAt (m : jMem) (a1 : Int) : Option Int := if a1 < 0 then some (-1) else if a1 < (m 2 4) then oix a1 16 (some (m 6 a1.toNat)) else some (-1)
section
variable {cf : jCf} {dv : UInt64}
set_option maxRecDepth 20000 in
set_option maxHeartbeats 4000000 in
theorem X5 (d : Nat) (a1 : Int) (m : jMem) (k : jM) : jme jT0 jMx (d + 1) 5 [jr (jn cf + 2), .inl a1] (hp cf dv m, k) = l0 cf dv m k ijI (f_People_personAt m a1) := by
  simp only [M5, E5_0, E5_1, E5_4, E5_5, E5_6, E5_9, E5_12, E5_13, E5_16, E5_17, E5_18, E5_21, E5_22, ai_6, gf_2_3, gf_2_4, jsh_n, jsh_I, jsh_R, jsh_II, jsh_IR, jsh_RI, jsh_RR, jsh_III, jsh_IIR, jsh_IRI, jsh_IRR, jsh_RII, jsh_RIR, jsh_RRI, jsh_RRR, jsh_IIII, jsh_IIIR, jsh_IIRI, jsh_IIRR, jsh_IRII, jsh_IRIR, jsh_IRRI, jsh_IRRR, jsh_RIII, jsh_RIIR, jsh_RIRI, jsh_RIRR, jsh_RRII, jsh_RRIR, jsh_RRRI, jsh_RRRR, jthr_hp, jc_l0, jc_lW, jc_lX, jc_lXW, jc_lVW, jc_lVX, jpush_n, jpush_s, obt_0, obt_1, och_0, och_32, och_100, och_115, och_104, och_33, och_43, och_60, jint, jbit, jchr, ijI, ijR, ijD, ijF, ↓reduceIte, Int.reduceEq, Int.reduceLT, reduceCtorEq, l0_bind, l0_ite, l0_none, l0_oix, l0_obt, l0_och, l0_sel, l0_oel, l0_some, f_People_personAt]
end
def f_People_placeOfL : Nat → jMem → Int → Int → Option Int
  | 0, _, _, _ => none
  | N + 1, m, a1, a2 => if a2 < (m 2 4) then oix a2 16 (if (m 6 a2.toNat) = a1 then some a2 else f_People_placeOfL N m a1 (jw (a2 + 1))) else some a2
def f_People_placeOf (m : jMem) (a1 : Int) : Option Int := f_People_placeOfL 99999 m a1 0
section
variable {cf : jCf} {dv : UInt64}
set_option maxRecDepth 20000 in
set_option maxHeartbeats 4000000 in
theorem X6L (d : Nat) : ∀ (N : Nat) (m : jMem) (k : jM), (∀ (a1 a2 : Int), jlp jT0 6 (jme jT0 jMx d) N 2 [some (jr (jn cf + 2)), some (.inl a1), some (.inl a2)] [] (hp cf dv m, k) = l0 cf dv m k ijI (f_People_placeOfL N m a1 a2)) := by
  intro N
  induction N with
  | zero => intro m k; exact by intros; rfl
  | succ N ih =>
    intro m k
    intros
    rw [jlp_s]
    simp only [E6_0, E6_1, E6_2, E6_3, E6_4, E6_7, E6_10, E6_11, E6_14, E6_15, E6_16, E6_17, E6_20, E6_23, E6_26, E6_27, ai_6, gf_2_3, gf_2_4, jsh_n, jsh_I, jsh_R, jsh_II, jsh_IR, jsh_RI, jsh_RR, jsh_III, jsh_IIR, jsh_IRI, jsh_IRR, jsh_RII, jsh_RIR, jsh_RRI, jsh_RRR, jsh_IIII, jsh_IIIR, jsh_IIRI, jsh_IIRR, jsh_IRII, jsh_IRIR, jsh_IRRI, jsh_IRRR, jsh_RIII, jsh_RIIR, jsh_RIRI, jsh_RIRR, jsh_RRII, jsh_RRIR, jsh_RRRI, jsh_RRRR, jthr_hp, jc_l0, jc_lW, jc_lX, jc_lXW, jc_lVW, jc_lVX, jpush_n, jpush_s, obt_0, obt_1, och_0, och_32, och_100, och_115, och_104, och_33, och_43, och_60, jint, jbit, jchr, ijI, ijR, ijD, ijF, ↓reduceIte, Int.reduceEq, Int.reduceLT, reduceCtorEq, l0_bind, l0_ite, l0_none, l0_oix, l0_obt, l0_och, l0_sel, l0_oel, l0_some, f_People_placeOfL, ih]
set_option maxRecDepth 20000 in
set_option maxHeartbeats 4000000 in
theorem X6 (d : Nat) (a1 : Int) (m : jMem) (k : jM) : jme jT0 jMx (d + 1) 6 [jr (jn cf + 2), .inl a1] (hp cf dv m, k) = l0 cf dv m k ijI (f_People_placeOf m a1) := by
  simp only [M6, E6_0, E6_1, E6_2, E6_3, E6_4, E6_7, E6_10, E6_11, E6_14, E6_15, E6_16, E6_17, E6_20, E6_23, E6_26, E6_27, ai_6, gf_2_3, gf_2_4, jsh_n, jsh_I, jsh_R, jsh_II, jsh_IR, jsh_RI, jsh_RR, jsh_III, jsh_IIR, jsh_IRI, jsh_IRR, jsh_RII, jsh_RIR, jsh_RRI, jsh_RRR, jsh_IIII, jsh_IIIR, jsh_IIRI, jsh_IIRR, jsh_IRII, jsh_IRIR, jsh_IRRI, jsh_IRRR, jsh_RIII, jsh_RIIR, jsh_RIRI, jsh_RIRR, jsh_RRII, jsh_RRIR, jsh_RRRI, jsh_RRRR, jthr_hp, jc_l0, jc_lW, jc_lX, jc_lXW, jc_lVW, jc_lVX, jpush_n, jpush_s, obt_0, obt_1, och_0, och_32, och_100, och_115, och_104, och_33, och_43, och_60, jint, jbit, jchr, ijI, ijR, ijD, ijF, ↓reduceIte, Int.reduceEq, Int.reduceLT, reduceCtorEq, l0_bind, l0_ite, l0_none, l0_oix, l0_obt, l0_och, l0_sel, l0_oel, l0_some, f_People_placeOf, X6L]
end
def f_People_endOfBranchL : Nat → jMem → Int → Int → Option Int
  | 0, _, _, _ => none
  | N + 1, m, a1, a2 => if a2 < (m 2 4) then oix a2 16 ((f_People_depth m (m 6 a2.toNat)).bind fun x2 => (f_People_depth m a1).bind fun x3 => if x3 < x2 then f_People_endOfBranchL N m a1 (jw (a2 + 1)) else some a2) else some a2
def f_People_endOfBranch (m : jMem) (a1 : Int) : Option Int := (f_People_placeOf m a1).bind fun x1 => f_People_endOfBranchL 99999 m a1 (jw (x1 + 1))
section
variable {cf : jCf} {dv : UInt64}
set_option maxRecDepth 20000 in
set_option maxHeartbeats 4000000 in
theorem X7L (d : Nat) : ∀ (N : Nat) (m : jMem) (k : jM), (∀ (a1 a2 : Int), jlp jT0 7 (jme jT0 jMx (d + 1)) N 8 [some (jr (jn cf + 2)), some (.inl a1), some (.inl a2)] [] (hp cf dv m, k) = l0 cf dv m k ijI (f_People_endOfBranchL N m a1 a2)) := by
  intro N
  induction N with
  | zero => intro m k; exact by intros; rfl
  | succ N ih =>
    intro m k
    intros
    rw [jlp_s]
    simp only [E7_0, E7_1, E7_2, E7_5, E7_6, E7_7, E7_8, E7_9, E7_10, E7_13, E7_16, E7_17, E7_18, E7_21, E7_22, E7_23, E7_26, E7_27, E7_28, E7_31, E7_34, E7_37, E7_40, E7_41, ai_6, gf_2_3, gf_2_4, X4, X6, go_2, jsh_n, jsh_I, jsh_R, jsh_II, jsh_IR, jsh_RI, jsh_RR, jsh_III, jsh_IIR, jsh_IRI, jsh_IRR, jsh_RII, jsh_RIR, jsh_RRI, jsh_RRR, jsh_IIII, jsh_IIIR, jsh_IIRI, jsh_IIRR, jsh_IRII, jsh_IRIR, jsh_IRRI, jsh_IRRR, jsh_RIII, jsh_RIIR, jsh_RIRI, jsh_RIRR, jsh_RRII, jsh_RRIR, jsh_RRRI, jsh_RRRR, jthr_hp, jc_l0, jc_lW, jc_lX, jc_lXW, jc_lVW, jc_lVX, jpush_n, jpush_s, obt_0, obt_1, och_0, och_32, och_100, och_115, och_104, och_33, och_43, och_60, jint, jbit, jchr, ijI, ijR, ijD, ijF, ↓reduceIte, Int.reduceEq, Int.reduceLT, reduceCtorEq, l0_bind, l0_ite, l0_none, l0_oix, l0_obt, l0_och, l0_sel, l0_oel, l0_some, f_People_endOfBranchL, ih]
set_option maxRecDepth 20000 in
set_option maxHeartbeats 4000000 in
theorem X7 (d : Nat) (a1 : Int) (m : jMem) (k : jM) : jme jT0 jMx (d + 2) 7 [jr (jn cf + 2), .inl a1] (hp cf dv m, k) = l0 cf dv m k ijI (f_People_endOfBranch m a1) := by
  simp only [M7, E7_0, E7_1, E7_2, E7_5, E7_6, E7_7, E7_8, E7_9, E7_10, E7_13, E7_16, E7_17, E7_18, E7_21, E7_22, E7_23, E7_26, E7_27, E7_28, E7_31, E7_34, E7_37, E7_40, E7_41, ai_6, gf_2_3, gf_2_4, X4, X6, go_2, jsh_n, jsh_I, jsh_R, jsh_II, jsh_IR, jsh_RI, jsh_RR, jsh_III, jsh_IIR, jsh_IRI, jsh_IRR, jsh_RII, jsh_RIR, jsh_RRI, jsh_RRR, jsh_IIII, jsh_IIIR, jsh_IIRI, jsh_IIRR, jsh_IRII, jsh_IRIR, jsh_IRRI, jsh_IRRR, jsh_RIII, jsh_RIIR, jsh_RIRI, jsh_RIRR, jsh_RRII, jsh_RRIR, jsh_RRRI, jsh_RRRR, jthr_hp, jc_l0, jc_lW, jc_lX, jc_lXW, jc_lVW, jc_lVX, jpush_n, jpush_s, obt_0, obt_1, och_0, och_32, och_100, och_115, och_104, och_33, och_43, och_60, jint, jbit, jchr, ijI, ijR, ijD, ijF, ↓reduceIte, Int.reduceEq, Int.reduceLT, reduceCtorEq, l0_bind, l0_ite, l0_none, l0_oix, l0_obt, l0_och, l0_sel, l0_oel, l0_some, f_People_endOfBranch, X7L]
end
def f_People_addL : Nat → jMem → Int → Int → Int → Int → Option (Int × jMem)
  | 0, _, _, _, _, _ => none
  | N + 1, m, a1, a2, a3, a4 => if a3 < a4 then oix (jw (a4 - 1)) 16 (oix a4 16 (f_People_addL N (mset m 6 a4.toNat (m 6 (jw (a4 - 1)).toNat)) a1 a2 a3 (jw (a4 + (-1))))) else oix a3 16 (oix a2 16 ((f_People_depth (mset (mset m 6 a3.toNat a2) 3 a2.toNat a1) a1).bind fun x2 => oix a2 16 (oix a2 16 (some (a2, mset (mset (mset (mset (mset m 6 a3.toNat a2) 3 a2.toNat a1) 4 a2.toNat (jw (x2 + 1))) 5 a2.toNat 1) 2 4 (jw (((mset (mset (mset (mset m 6 a3.toNat a2) 3 a2.toNat a1) 4 a2.toNat (jw (x2 + 1))) 5 a2.toNat 1) 2 4) + 1)))))))
def f_People_add (m : jMem) (a1 : Int) : Option (Int × jMem) := if (m 2 4) < 16 then if a1 = (-1) then f_People_addL 99999 m a1 (m 2 4) (m 2 4) (m 2 4) else (f_People_endOfBranch m a1).bind fun x1 => f_People_addL 99999 m a1 (m 2 4) (if (m 2 4) < x1 then m 2 4 else x1) (m 2 4) else some ((-1), m)
section
variable {cf : jCf} {dv : UInt64}
set_option maxRecDepth 20000 in
set_option maxHeartbeats 4000000 in
theorem X8L (d : Nat) : ∀ (N : Nat) (m : jMem) (k : jM), (∀ (a1 a2 a3 a4 : Int), jlp jT0 8 (jme jT0 jMx (d + 2)) N 47 [some (jr (jn cf + 2)), some (.inl a1), some (.inl a2), some (.inl a3), some (.inl a4)] [] (hp cf dv m, k) = lW cf dv k ijI (f_People_addL N m a1 a2 a3 a4)) := by
  intro N
  induction N with
  | zero => intro m k; exact by intros; rfl
  | succ N ih =>
    intro m k
    intros
    rw [jlp_s]
    simp only [E8_0, E8_1, E8_4, E8_6, E8_9, E8_10, E8_11, E8_12, E8_15, E8_16, E8_17, E8_18, E8_21, E8_22, E8_25, E8_28, E8_29, E8_30, E8_33, E8_34, E8_37, E8_40, E8_41, E8_42, E8_45, E8_47, E8_49, E8_50, E8_53, E8_54, E8_57, E8_59, E8_60, E8_63, E8_65, E8_66, E8_67, E8_68, E8_69, E8_72, E8_75, E8_76, E8_79, E8_80, E8_81, E8_82, E8_83, E8_86, E8_87, E8_88, E8_89, E8_90, E8_93, E8_94, E8_95, E8_96, E8_99, E8_100, E8_101, E8_102, E8_103, E8_106, E8_107, E8_108, E8_109, E8_110_0, E8_110_1, E8_111, E8_114, E8_115, E8_116, E8_119, E8_120, ai_6, as_3, as_4, as_5, as_6, gf_2_0, gf_2_1, gf_2_2, gf_2_3, gf_2_4, pf_2_4, X4, X7, go_2, jsh_n, jsh_I, jsh_R, jsh_II, jsh_IR, jsh_RI, jsh_RR, jsh_III, jsh_IIR, jsh_IRI, jsh_IRR, jsh_RII, jsh_RIR, jsh_RRI, jsh_RRR, jsh_IIII, jsh_IIIR, jsh_IIRI, jsh_IIRR, jsh_IRII, jsh_IRIR, jsh_IRRI, jsh_IRRR, jsh_RIII, jsh_RIIR, jsh_RIRI, jsh_RIRR, jsh_RRII, jsh_RRIR, jsh_RRRI, jsh_RRRR, jthr_hp, jc_l0, jc_lW, jc_lX, jc_lXW, jc_lVW, jc_lVX, jpush_n, jpush_s, obt_0, obt_1, och_0, och_32, och_100, och_115, och_104, och_33, och_43, och_60, jint, jbit, jchr, ijI, ijR, ijD, ijF, ↓reduceIte, Int.reduceEq, Int.reduceLT, reduceCtorEq, lW_bind, lW_ite, lW_none, lW_oix, lW_obt, lW_och, lW_sel, lW_oel, lW_some, f_People_addL, ih]
set_option maxRecDepth 20000 in
set_option maxHeartbeats 4000000 in
theorem X8 (d : Nat) (a1 : Int) (m : jMem) (k : jM) : jme jT0 jMx (d + 3) 8 [jr (jn cf + 2), .inl a1] (hp cf dv m, k) = lW cf dv k ijI (f_People_add m a1) := by
  simp only [M8, E8_0, E8_1, E8_4, E8_6, E8_9, E8_10, E8_11, E8_12, E8_15, E8_16, E8_17, E8_18, E8_21, E8_22, E8_25, E8_28, E8_29, E8_30, E8_33, E8_34, E8_37, E8_40, E8_41, E8_42, E8_45, E8_47, E8_49, E8_50, E8_53, E8_54, E8_57, E8_59, E8_60, E8_63, E8_65, E8_66, E8_67, E8_68, E8_69, E8_72, E8_75, E8_76, E8_79, E8_80, E8_81, E8_82, E8_83, E8_86, E8_87, E8_88, E8_89, E8_90, E8_93, E8_94, E8_95, E8_96, E8_99, E8_100, E8_101, E8_102, E8_103, E8_106, E8_107, E8_108, E8_109, E8_110_0, E8_110_1, E8_111, E8_114, E8_115, E8_116, E8_119, E8_120, ai_6, as_3, as_4, as_5, as_6, gf_2_0, gf_2_1, gf_2_2, gf_2_3, gf_2_4, pf_2_4, X4, X7, go_2, jsh_n, jsh_I, jsh_R, jsh_II, jsh_IR, jsh_RI, jsh_RR, jsh_III, jsh_IIR, jsh_IRI, jsh_IRR, jsh_RII, jsh_RIR, jsh_RRI, jsh_RRR, jsh_IIII, jsh_IIIR, jsh_IIRI, jsh_IIRR, jsh_IRII, jsh_IRIR, jsh_IRRI, jsh_IRRR, jsh_RIII, jsh_RIIR, jsh_RIRI, jsh_RIRR, jsh_RRII, jsh_RRIR, jsh_RRRI, jsh_RRRR, jthr_hp, jc_l0, jc_lW, jc_lX, jc_lXW, jc_lVW, jc_lVX, jpush_n, jpush_s, obt_0, obt_1, och_0, och_32, och_100, och_115, och_104, och_33, och_43, och_60, jint, jbit, jchr, ijI, ijR, ijD, ijF, ↓reduceIte, Int.reduceEq, Int.reduceLT, reduceCtorEq, lW_bind, lW_ite, lW_none, lW_oix, lW_obt, lW_och, lW_sel, lW_oel, lW_some, f_People_add, X8L]
end
def f_People_die (m : jMem) (a1 : Int) : Option jMem := (f_People_has m a1).bind fun x1 => if x1 = 0 then some (m) else oix a1 16 (some (mset m 5 a1.toNat 0))
section
variable {cf : jCf} {dv : UInt64}
set_option maxRecDepth 20000 in
set_option maxHeartbeats 4000000 in
theorem X9 (d : Nat) (a1 : Int) (m : jMem) (k : jM) : jme jT0 jMx (d + 2) 9 [jr (jn cf + 2), .inl a1] (hp cf dv m, k) = lVW cf dv k (f_People_die m a1) := by
  simp only [M9, E9_0, E9_1, E9_2, E9_5, E9_8, E9_9, E9_12, E9_13, E9_14, E9_15, as_5, gf_2_2, X1, go_2, jsh_n, jsh_I, jsh_R, jsh_II, jsh_IR, jsh_RI, jsh_RR, jsh_III, jsh_IIR, jsh_IRI, jsh_IRR, jsh_RII, jsh_RIR, jsh_RRI, jsh_RRR, jsh_IIII, jsh_IIIR, jsh_IIRI, jsh_IIRR, jsh_IRII, jsh_IRIR, jsh_IRRI, jsh_IRRR, jsh_RIII, jsh_RIIR, jsh_RIRI, jsh_RIRR, jsh_RRII, jsh_RRIR, jsh_RRRI, jsh_RRRR, jthr_hp, jc_l0, jc_lW, jc_lX, jc_lXW, jc_lVW, jc_lVX, jpush_n, jpush_s, obt_0, obt_1, och_0, och_32, och_100, och_115, och_104, och_33, och_43, och_60, jint, jbit, jchr, ijI, ijR, ijD, ijF, ↓reduceIte, Int.reduceEq, Int.reduceLT, reduceCtorEq, lVW_bind, lVW_ite, lVW_none, lVW_oix, lVW_obt, lVW_och, lVW_sel, lVW_oel, lVW_some, f_People_die]
end
def f_People_countLivingL : Nat → jMem → Int → Int → Option Int
  | 0, _, _, _ => none
  | N + 1, m, a1, a2 => if a2 < (m 2 4) then oix a2 16 (if (m 5 a2.toNat) = 0 then f_People_countLivingL N m a1 (jw (a2 + 1)) else f_People_countLivingL N m (jw (a1 + 1)) (jw (a2 + 1))) else some a1
def f_People_countLiving (m : jMem) : Option Int := f_People_countLivingL 99999 m 0 0
section
variable {cf : jCf} {dv : UInt64}
set_option maxRecDepth 20000 in
set_option maxHeartbeats 4000000 in
theorem X10L (d : Nat) : ∀ (N : Nat) (m : jMem) (k : jM), (∀ (a1 a2 : Int), jlp jT0 10 (jme jT0 jMx d) N 4 [some (jr (jn cf + 2)), some (.inl a1), some (.inl a2)] [] (hp cf dv m, k) = l0 cf dv m k ijI (f_People_countLivingL N m a1 a2)) := by
  intro N
  induction N with
  | zero => intro m k; exact by intros; rfl
  | succ N ih =>
    intro m k
    intros
    rw [jlp_s]
    simp only [E10_0, E10_1, E10_2, E10_3, E10_4, E10_5, E10_6, E10_9, E10_12, E10_13, E10_16, E10_17, E10_18, E10_21, E10_24, E10_27, E10_30, E10_31, ai_5, gf_2_2, gf_2_4, jsh_n, jsh_I, jsh_R, jsh_II, jsh_IR, jsh_RI, jsh_RR, jsh_III, jsh_IIR, jsh_IRI, jsh_IRR, jsh_RII, jsh_RIR, jsh_RRI, jsh_RRR, jsh_IIII, jsh_IIIR, jsh_IIRI, jsh_IIRR, jsh_IRII, jsh_IRIR, jsh_IRRI, jsh_IRRR, jsh_RIII, jsh_RIIR, jsh_RIRI, jsh_RIRR, jsh_RRII, jsh_RRIR, jsh_RRRI, jsh_RRRR, jthr_hp, jc_l0, jc_lW, jc_lX, jc_lXW, jc_lVW, jc_lVX, jpush_n, jpush_s, obt_0, obt_1, och_0, och_32, och_100, och_115, och_104, och_33, och_43, och_60, jint, jbit, jchr, ijI, ijR, ijD, ijF, ↓reduceIte, Int.reduceEq, Int.reduceLT, reduceCtorEq, l0_bind, l0_ite, l0_none, l0_oix, l0_obt, l0_och, l0_sel, l0_oel, l0_some, f_People_countLivingL, ih]
set_option maxRecDepth 20000 in
set_option maxHeartbeats 4000000 in
theorem X10 (d : Nat) (m : jMem) (k : jM) : jme jT0 jMx (d + 1) 10 [jr (jn cf + 2)] (hp cf dv m, k) = l0 cf dv m k ijI (f_People_countLiving m) := by
  simp only [M10, E10_0, E10_1, E10_2, E10_3, E10_4, E10_5, E10_6, E10_9, E10_12, E10_13, E10_16, E10_17, E10_18, E10_21, E10_24, E10_27, E10_30, E10_31, ai_5, gf_2_2, gf_2_4, jsh_n, jsh_I, jsh_R, jsh_II, jsh_IR, jsh_RI, jsh_RR, jsh_III, jsh_IIR, jsh_IRI, jsh_IRR, jsh_RII, jsh_RIR, jsh_RRI, jsh_RRR, jsh_IIII, jsh_IIIR, jsh_IIRI, jsh_IIRR, jsh_IRII, jsh_IRIR, jsh_IRRI, jsh_IRRR, jsh_RIII, jsh_RIIR, jsh_RIRI, jsh_RIRR, jsh_RRII, jsh_RRIR, jsh_RRRI, jsh_RRRR, jthr_hp, jc_l0, jc_lW, jc_lX, jc_lXW, jc_lVW, jc_lVX, jpush_n, jpush_s, obt_0, obt_1, och_0, och_32, och_100, och_115, och_104, och_33, och_43, och_60, jint, jbit, jchr, ijI, ijR, ijD, ijF, ↓reduceIte, Int.reduceEq, Int.reduceLT, reduceCtorEq, l0_bind, l0_ite, l0_none, l0_oix, l0_obt, l0_och, l0_sel, l0_oel, l0_some, f_People_countLiving, X10L]
end
def f_People_countChildrenL : Nat → jMem → Int → Int → Int → Option Int
  | 0, _, _, _, _ => none
  | N + 1, m, a1, a2, a3 => if a3 < (m 2 4) then oix a3 16 (if (m 3 a3.toNat) = a1 then f_People_countChildrenL N m a1 (jw (a2 + 1)) (jw (a3 + 1)) else f_People_countChildrenL N m a1 a2 (jw (a3 + 1))) else some a2
def f_People_countChildren (m : jMem) (a1 : Int) : Option Int := f_People_countChildrenL 99999 m a1 0 0
section
variable {cf : jCf} {dv : UInt64}
set_option maxRecDepth 20000 in
set_option maxHeartbeats 4000000 in
theorem X11L (d : Nat) : ∀ (N : Nat) (m : jMem) (k : jM), (∀ (a1 a2 a3 : Int), jlp jT0 11 (jme jT0 jMx d) N 4 [some (jr (jn cf + 2)), some (.inl a1), some (.inl a2), some (.inl a3)] [] (hp cf dv m, k) = l0 cf dv m k ijI (f_People_countChildrenL N m a1 a2 a3)) := by
  intro N
  induction N with
  | zero => intro m k; exact by intros; rfl
  | succ N ih =>
    intro m k
    intros
    rw [jlp_s]
    simp only [E11_0, E11_1, E11_2, E11_3, E11_4, E11_5, E11_6, E11_9, E11_12, E11_13, E11_16, E11_17, E11_18, E11_19, E11_22, E11_25, E11_28, E11_31, E11_32, ai_3, gf_2_0, gf_2_4, jsh_n, jsh_I, jsh_R, jsh_II, jsh_IR, jsh_RI, jsh_RR, jsh_III, jsh_IIR, jsh_IRI, jsh_IRR, jsh_RII, jsh_RIR, jsh_RRI, jsh_RRR, jsh_IIII, jsh_IIIR, jsh_IIRI, jsh_IIRR, jsh_IRII, jsh_IRIR, jsh_IRRI, jsh_IRRR, jsh_RIII, jsh_RIIR, jsh_RIRI, jsh_RIRR, jsh_RRII, jsh_RRIR, jsh_RRRI, jsh_RRRR, jthr_hp, jc_l0, jc_lW, jc_lX, jc_lXW, jc_lVW, jc_lVX, jpush_n, jpush_s, obt_0, obt_1, och_0, och_32, och_100, och_115, och_104, och_33, och_43, och_60, jint, jbit, jchr, ijI, ijR, ijD, ijF, ↓reduceIte, Int.reduceEq, Int.reduceLT, reduceCtorEq, l0_bind, l0_ite, l0_none, l0_oix, l0_obt, l0_och, l0_sel, l0_oel, l0_some, f_People_countChildrenL, ih]
set_option maxRecDepth 20000 in
set_option maxHeartbeats 4000000 in
theorem X11 (d : Nat) (a1 : Int) (m : jMem) (k : jM) : jme jT0 jMx (d + 1) 11 [jr (jn cf + 2), .inl a1] (hp cf dv m, k) = l0 cf dv m k ijI (f_People_countChildren m a1) := by
  simp only [M11, E11_0, E11_1, E11_2, E11_3, E11_4, E11_5, E11_6, E11_9, E11_12, E11_13, E11_16, E11_17, E11_18, E11_19, E11_22, E11_25, E11_28, E11_31, E11_32, ai_3, gf_2_0, gf_2_4, jsh_n, jsh_I, jsh_R, jsh_II, jsh_IR, jsh_RI, jsh_RR, jsh_III, jsh_IIR, jsh_IRI, jsh_IRR, jsh_RII, jsh_RIR, jsh_RRI, jsh_RRR, jsh_IIII, jsh_IIIR, jsh_IIRI, jsh_IIRR, jsh_IRII, jsh_IRIR, jsh_IRRI, jsh_IRRR, jsh_RIII, jsh_RIIR, jsh_RIRI, jsh_RIRR, jsh_RRII, jsh_RRIR, jsh_RRRI, jsh_RRRR, jthr_hp, jc_l0, jc_lW, jc_lX, jc_lXW, jc_lVW, jc_lVX, jpush_n, jpush_s, obt_0, obt_1, och_0, och_32, och_100, och_115, och_104, och_33, och_43, och_60, jint, jbit, jchr, ijI, ijR, ijD, ijF, ↓reduceIte, Int.reduceEq, Int.reduceLT, reduceCtorEq, l0_bind, l0_ite, l0_none, l0_oix, l0_obt, l0_och, l0_sel, l0_oel, l0_some, f_People_countChildren, X11L]
end
def f_People_childL : Nat → jMem → Int → Int → Int → Int → Option Int
  | 0, _, _, _, _, _ => none
  | N + 1, m, a1, a2, a3, a4 => if a4 < (m 2 4) then oix a4 16 (if (m 3 a4.toNat) = a1 then if a3 = a2 then some a4 else f_People_childL N m a1 a2 (jw (a3 + 1)) (jw (a4 + 1)) else f_People_childL N m a1 a2 a3 (jw (a4 + 1))) else some (-1)
def f_People_child (m : jMem) (a1 : Int) (a2 : Int) : Option Int := f_People_childL 99999 m a1 a2 0 0
section
variable {cf : jCf} {dv : UInt64}
set_option maxRecDepth 20000 in
set_option maxHeartbeats 4000000 in
theorem X12L (d : Nat) : ∀ (N : Nat) (m : jMem) (k : jM), (∀ (a1 a2 a3 a4 : Int), jlp jT0 12 (jme jT0 jMx d) N 5 [some (jr (jn cf + 2)), some (.inl a1), some (.inl a2), some (.inl a3), some (.inl a4)] [] (hp cf dv m, k) = l0 cf dv m k ijI (f_People_childL N m a1 a2 a3 a4)) := by
  intro N
  induction N with
  | zero => intro m k; exact by intros; rfl
  | succ N ih =>
    intro m k
    intros
    rw [jlp_s]
    simp only [E12_0, E12_1, E12_2, E12_3, E12_5, E12_7, E12_8, E12_11, E12_14, E12_15, E12_18, E12_20, E12_21, E12_22, E12_25, E12_26, E12_27, E12_30, E12_32, E12_33, E12_36, E12_39, E12_42, E12_43, ai_3, gf_2_0, gf_2_4, jsh_n, jsh_I, jsh_R, jsh_II, jsh_IR, jsh_RI, jsh_RR, jsh_III, jsh_IIR, jsh_IRI, jsh_IRR, jsh_RII, jsh_RIR, jsh_RRI, jsh_RRR, jsh_IIII, jsh_IIIR, jsh_IIRI, jsh_IIRR, jsh_IRII, jsh_IRIR, jsh_IRRI, jsh_IRRR, jsh_RIII, jsh_RIIR, jsh_RIRI, jsh_RIRR, jsh_RRII, jsh_RRIR, jsh_RRRI, jsh_RRRR, jthr_hp, jc_l0, jc_lW, jc_lX, jc_lXW, jc_lVW, jc_lVX, jpush_n, jpush_s, obt_0, obt_1, och_0, och_32, och_100, och_115, och_104, och_33, och_43, och_60, jint, jbit, jchr, ijI, ijR, ijD, ijF, ↓reduceIte, Int.reduceEq, Int.reduceLT, reduceCtorEq, l0_bind, l0_ite, l0_none, l0_oix, l0_obt, l0_och, l0_sel, l0_oel, l0_some, f_People_childL, ih]
set_option maxRecDepth 20000 in
set_option maxHeartbeats 4000000 in
theorem X12 (d : Nat) (a1 : Int) (a2 : Int) (m : jMem) (k : jM) : jme jT0 jMx (d + 1) 12 [jr (jn cf + 2), .inl a1, .inl a2] (hp cf dv m, k) = l0 cf dv m k ijI (f_People_child m a1 a2) := by
  simp only [M12, E12_0, E12_1, E12_2, E12_3, E12_5, E12_7, E12_8, E12_11, E12_14, E12_15, E12_18, E12_20, E12_21, E12_22, E12_25, E12_26, E12_27, E12_30, E12_32, E12_33, E12_36, E12_39, E12_42, E12_43, ai_3, gf_2_0, gf_2_4, jsh_n, jsh_I, jsh_R, jsh_II, jsh_IR, jsh_RI, jsh_RR, jsh_III, jsh_IIR, jsh_IRI, jsh_IRR, jsh_RII, jsh_RIR, jsh_RRI, jsh_RRR, jsh_IIII, jsh_IIIR, jsh_IIRI, jsh_IIRR, jsh_IRII, jsh_IRIR, jsh_IRRI, jsh_IRRR, jsh_RIII, jsh_RIIR, jsh_RIRI, jsh_RIRR, jsh_RRII, jsh_RRIR, jsh_RRRI, jsh_RRRR, jthr_hp, jc_l0, jc_lW, jc_lX, jc_lXW, jc_lVW, jc_lVX, jpush_n, jpush_s, obt_0, obt_1, och_0, och_32, och_100, och_115, och_104, och_33, och_43, och_60, jint, jbit, jchr, ijI, ijR, ijD, ijF, ↓reduceIte, Int.reduceEq, Int.reduceLT, reduceCtorEq, l0_bind, l0_ite, l0_none, l0_oix, l0_obt, l0_och, l0_sel, l0_oel, l0_some, f_People_child, X12L]
end
def f_People_countLivingBelowL : Nat → jMem → Int → Int → Int → Option Int
  | 0, _, _, _, _ => none
  | N + 1, m, a2, a3, a4 => if a4 < a3 then (f_People_personAt m a4).bind fun x3 => (f_People_isLiving m x3).bind fun x4 => if x4 = 0 then f_People_countLivingBelowL N m a2 a3 (jw (a4 + 1)) else f_People_countLivingBelowL N m (jw (a2 + 1)) a3 (jw (a4 + 1)) else some a2
def f_People_countLivingBelow (m : jMem) (a1 : Int) : Option Int := (f_People_endOfBranch m a1).bind fun x1 => (f_People_placeOf m a1).bind fun x2 => f_People_countLivingBelowL 99999 m 0 x1 (jw (x2 + 1))
section
variable {cf : jCf} {dv : UInt64}
set_option maxRecDepth 20000 in
set_option maxHeartbeats 4000000 in
theorem X13L (d : Nat) : ∀ (N : Nat) (m : jMem) (k : jM), (∀ (a2 a3 a4 : Int) (z1 : Option jV), jlp jT0 13 (jme jT0 jMx (d + 2)) N 17 [some (jr (jn cf + 2)), z1, some (.inl a2), some (.inl a3), some (.inl a4)] [] (hp cf dv m, k) = l0 cf dv m k ijI (f_People_countLivingBelowL N m a2 a3 a4)) := by
  intro N
  induction N with
  | zero => intro m k; exact by intros; rfl
  | succ N ih =>
    intro m k
    intros
    rw [jlp_s]
    simp only [E13_0, E13_1, E13_2, E13_3, E13_4, E13_7, E13_8, E13_9, E13_10, E13_13, E13_14, E13_15, E13_17, E13_19, E13_20, E13_23, E13_24, E13_25, E13_27, E13_30, E13_33, E13_36, E13_39, E13_42, E13_45, E13_46, X2, X5, X6, X7, go_2, jsh_n, jsh_I, jsh_R, jsh_II, jsh_IR, jsh_RI, jsh_RR, jsh_III, jsh_IIR, jsh_IRI, jsh_IRR, jsh_RII, jsh_RIR, jsh_RRI, jsh_RRR, jsh_IIII, jsh_IIIR, jsh_IIRI, jsh_IIRR, jsh_IRII, jsh_IRIR, jsh_IRRI, jsh_IRRR, jsh_RIII, jsh_RIIR, jsh_RIRI, jsh_RIRR, jsh_RRII, jsh_RRIR, jsh_RRRI, jsh_RRRR, jthr_hp, jc_l0, jc_lW, jc_lX, jc_lXW, jc_lVW, jc_lVX, jpush_n, jpush_s, obt_0, obt_1, och_0, och_32, och_100, och_115, och_104, och_33, och_43, och_60, jint, jbit, jchr, ijI, ijR, ijD, ijF, ↓reduceIte, Int.reduceEq, Int.reduceLT, reduceCtorEq, l0_bind, l0_ite, l0_none, l0_oix, l0_obt, l0_och, l0_sel, l0_oel, l0_some, f_People_countLivingBelowL, ih]
set_option maxRecDepth 20000 in
set_option maxHeartbeats 4000000 in
theorem X13 (d : Nat) (a1 : Int) (m : jMem) (k : jM) : jme jT0 jMx (d + 3) 13 [jr (jn cf + 2), .inl a1] (hp cf dv m, k) = l0 cf dv m k ijI (f_People_countLivingBelow m a1) := by
  simp only [M13, E13_0, E13_1, E13_2, E13_3, E13_4, E13_7, E13_8, E13_9, E13_10, E13_13, E13_14, E13_15, E13_17, E13_19, E13_20, E13_23, E13_24, E13_25, E13_27, E13_30, E13_33, E13_36, E13_39, E13_42, E13_45, E13_46, X2, X5, X6, X7, go_2, jsh_n, jsh_I, jsh_R, jsh_II, jsh_IR, jsh_RI, jsh_RR, jsh_III, jsh_IIR, jsh_IRI, jsh_IRR, jsh_RII, jsh_RIR, jsh_RRI, jsh_RRR, jsh_IIII, jsh_IIIR, jsh_IIRI, jsh_IIRR, jsh_IRII, jsh_IRIR, jsh_IRRI, jsh_IRRR, jsh_RIII, jsh_RIIR, jsh_RIRI, jsh_RIRR, jsh_RRII, jsh_RRIR, jsh_RRRI, jsh_RRRR, jthr_hp, jc_l0, jc_lW, jc_lX, jc_lXW, jc_lVW, jc_lVX, jpush_n, jpush_s, obt_0, obt_1, och_0, och_32, och_100, och_115, och_104, och_33, och_43, och_60, jint, jbit, jchr, ijI, ijR, ijD, ijF, ↓reduceIte, Int.reduceEq, Int.reduceLT, reduceCtorEq, l0_bind, l0_ite, l0_none, l0_oix, l0_obt, l0_och, l0_sel, l0_oel, l0_some, f_People_countLivingBelow, X13L]
end
def f_People_firstLivingBelowL : Nat → jMem → Int → Int → Int → Option Int
  | 0, _, _, _, _ => none
  | N + 1, m, a2, a3, a4 => if a4 < a3 then (f_People_personAt m a4).bind fun x3 => if x3 = a2 then f_People_firstLivingBelowL N m a2 a3 (jw (a4 + 1)) else (f_People_isLiving m x3).bind fun x4 => if x4 = 0 then f_People_firstLivingBelowL N m a2 a3 (jw (a4 + 1)) else some x3 else some (-1)
def f_People_firstLivingBelow (m : jMem) (a1 : Int) (a2 : Int) : Option Int := (f_People_endOfBranch m a1).bind fun x1 => (f_People_placeOf m a1).bind fun x2 => f_People_firstLivingBelowL 99999 m a2 x1 (jw (x2 + 1))
section
variable {cf : jCf} {dv : UInt64}
set_option maxRecDepth 20000 in
set_option maxHeartbeats 4000000 in
theorem X14L (d : Nat) : ∀ (N : Nat) (m : jMem) (k : jM), (∀ (a2 a3 a4 : Int) (z1 z5 : Option jV), jlp jT0 14 (jme jT0 jMx (d + 2)) N 15 [some (jr (jn cf + 2)), z1, some (.inl a2), some (.inl a3), some (.inl a4), z5] [] (hp cf dv m, k) = l0 cf dv m k ijI (f_People_firstLivingBelowL N m a2 a3 a4)) := by
  intro N
  induction N with
  | zero => intro m k; exact by intros; rfl
  | succ N ih =>
    intro m k
    intros
    rw [jlp_s]
    simp only [E14_0, E14_1, E14_2, E14_5, E14_6, E14_7, E14_8, E14_11, E14_12, E14_13, E14_15, E14_17, E14_18, E14_21, E14_22, E14_24, E14_27, E14_29, E14_31, E14_32, E14_35, E14_36, E14_38, E14_41, E14_44, E14_46, E14_47, E14_50, E14_53, E14_54, X2, X5, X6, X7, go_2, jsh_n, jsh_I, jsh_R, jsh_II, jsh_IR, jsh_RI, jsh_RR, jsh_III, jsh_IIR, jsh_IRI, jsh_IRR, jsh_RII, jsh_RIR, jsh_RRI, jsh_RRR, jsh_IIII, jsh_IIIR, jsh_IIRI, jsh_IIRR, jsh_IRII, jsh_IRIR, jsh_IRRI, jsh_IRRR, jsh_RIII, jsh_RIIR, jsh_RIRI, jsh_RIRR, jsh_RRII, jsh_RRIR, jsh_RRRI, jsh_RRRR, jthr_hp, jc_l0, jc_lW, jc_lX, jc_lXW, jc_lVW, jc_lVX, jpush_n, jpush_s, obt_0, obt_1, och_0, och_32, och_100, och_115, och_104, och_33, och_43, och_60, jint, jbit, jchr, ijI, ijR, ijD, ijF, ↓reduceIte, Int.reduceEq, Int.reduceLT, reduceCtorEq, l0_bind, l0_ite, l0_none, l0_oix, l0_obt, l0_och, l0_sel, l0_oel, l0_some, f_People_firstLivingBelowL, ih]
set_option maxRecDepth 20000 in
set_option maxHeartbeats 4000000 in
theorem X14 (d : Nat) (a1 : Int) (a2 : Int) (m : jMem) (k : jM) : jme jT0 jMx (d + 3) 14 [jr (jn cf + 2), .inl a1, .inl a2] (hp cf dv m, k) = l0 cf dv m k ijI (f_People_firstLivingBelow m a1 a2) := by
  simp only [M14, E14_0, E14_1, E14_2, E14_5, E14_6, E14_7, E14_8, E14_11, E14_12, E14_13, E14_15, E14_17, E14_18, E14_21, E14_22, E14_24, E14_27, E14_29, E14_31, E14_32, E14_35, E14_36, E14_38, E14_41, E14_44, E14_46, E14_47, E14_50, E14_53, E14_54, X2, X5, X6, X7, go_2, jsh_n, jsh_I, jsh_R, jsh_II, jsh_IR, jsh_RI, jsh_RR, jsh_III, jsh_IIR, jsh_IRI, jsh_IRR, jsh_RII, jsh_RIR, jsh_RRI, jsh_RRR, jsh_IIII, jsh_IIIR, jsh_IIRI, jsh_IIRR, jsh_IRII, jsh_IRIR, jsh_IRRI, jsh_IRRR, jsh_RIII, jsh_RIIR, jsh_RIRI, jsh_RIRR, jsh_RRII, jsh_RRIR, jsh_RRRI, jsh_RRRR, jthr_hp, jc_l0, jc_lW, jc_lX, jc_lXW, jc_lVW, jc_lVX, jpush_n, jpush_s, obt_0, obt_1, och_0, och_32, och_100, och_115, och_104, och_33, och_43, och_60, jint, jbit, jchr, ijI, ijR, ijD, ijF, ↓reduceIte, Int.reduceEq, Int.reduceLT, reduceCtorEq, l0_bind, l0_ite, l0_none, l0_oix, l0_obt, l0_och, l0_sel, l0_oel, l0_some, f_People_firstLivingBelow, X14L]
end
def f_People_nearestSharedL : Nat → jMem → Int → Int → Int → Option Int
  | 0, _, _, _, _ => none
  | N + 1, m, a3, a4, a5 => if a5 < 32 then if a3 = a4 then if a3 = a4 then some a3 else some (-1) else (f_People_depth m a3).bind fun x1 => (f_People_depth m a4).bind fun x2 => if x1 < x2 then (f_People_parent m a4).bind fun x3 => f_People_nearestSharedL N m a3 x3 (jw (a5 + 1)) else (f_People_parent m a3).bind fun x4 => f_People_nearestSharedL N m x4 a4 (jw (a5 + 1)) else if a3 = a4 then some a3 else some (-1)
def f_People_nearestShared (m : jMem) (a1 : Int) (a2 : Int) : Option Int := f_People_nearestSharedL 99999 m a1 a2 0
section
variable {cf : jCf} {dv : UInt64}
set_option maxRecDepth 20000 in
set_option maxHeartbeats 4000000 in
theorem X15L (d : Nat) : ∀ (N : Nat) (m : jMem) (k : jM), (∀ (a3 a4 a5 : Int) (z1 z2 : Option jV), jlp jT0 15 (jme jT0 jMx (d + 1)) N 8 [some (jr (jn cf + 2)), z1, z2, some (.inl a3), some (.inl a4), some (.inl a5)] [] (hp cf dv m, k) = l0 cf dv m k ijI (f_People_nearestSharedL N m a3 a4 a5)) := by
  intro N
  induction N with
  | zero => intro m k; exact by intros; rfl
  | succ N ih =>
    intro m k
    intros
    rw [jlp_s]
    simp only [E15_0, E15_1, E15_2, E15_3, E15_5, E15_6, E15_8, E15_10, E15_12, E15_15, E15_16, E15_18, E15_21, E15_22, E15_23, E15_26, E15_27, E15_29, E15_32, E15_35, E15_36, E15_37, E15_40, E15_41, E15_44, E15_45, E15_47, E15_50, E15_52, E15_55, E15_58, E15_59, E15_61, E15_64, E15_65, E15_68, E15_69, X3, X4, go_2, jsh_n, jsh_I, jsh_R, jsh_II, jsh_IR, jsh_RI, jsh_RR, jsh_III, jsh_IIR, jsh_IRI, jsh_IRR, jsh_RII, jsh_RIR, jsh_RRI, jsh_RRR, jsh_IIII, jsh_IIIR, jsh_IIRI, jsh_IIRR, jsh_IRII, jsh_IRIR, jsh_IRRI, jsh_IRRR, jsh_RIII, jsh_RIIR, jsh_RIRI, jsh_RIRR, jsh_RRII, jsh_RRIR, jsh_RRRI, jsh_RRRR, jthr_hp, jc_l0, jc_lW, jc_lX, jc_lXW, jc_lVW, jc_lVX, jpush_n, jpush_s, obt_0, obt_1, och_0, och_32, och_100, och_115, och_104, och_33, och_43, och_60, jint, jbit, jchr, ijI, ijR, ijD, ijF, ↓reduceIte, Int.reduceEq, Int.reduceLT, reduceCtorEq, l0_bind, l0_ite, l0_none, l0_oix, l0_obt, l0_och, l0_sel, l0_oel, l0_some, f_People_nearestSharedL, ih]
set_option maxRecDepth 20000 in
set_option maxHeartbeats 4000000 in
theorem X15 (d : Nat) (a1 : Int) (a2 : Int) (m : jMem) (k : jM) : jme jT0 jMx (d + 2) 15 [jr (jn cf + 2), .inl a1, .inl a2] (hp cf dv m, k) = l0 cf dv m k ijI (f_People_nearestShared m a1 a2) := by
  simp only [M15, E15_0, E15_1, E15_2, E15_3, E15_5, E15_6, E15_8, E15_10, E15_12, E15_15, E15_16, E15_18, E15_21, E15_22, E15_23, E15_26, E15_27, E15_29, E15_32, E15_35, E15_36, E15_37, E15_40, E15_41, E15_44, E15_45, E15_47, E15_50, E15_52, E15_55, E15_58, E15_59, E15_61, E15_64, E15_65, E15_68, E15_69, X3, X4, go_2, jsh_n, jsh_I, jsh_R, jsh_II, jsh_IR, jsh_RI, jsh_RR, jsh_III, jsh_IIR, jsh_IRI, jsh_IRR, jsh_RII, jsh_RIR, jsh_RRI, jsh_RRR, jsh_IIII, jsh_IIIR, jsh_IIRI, jsh_IIRR, jsh_IRII, jsh_IRIR, jsh_IRRI, jsh_IRRR, jsh_RIII, jsh_RIIR, jsh_RIRI, jsh_RIRR, jsh_RRII, jsh_RRIR, jsh_RRRI, jsh_RRRR, jthr_hp, jc_l0, jc_lW, jc_lX, jc_lXW, jc_lVW, jc_lVX, jpush_n, jpush_s, obt_0, obt_1, och_0, och_32, och_100, och_115, och_104, och_33, och_43, och_60, jint, jbit, jchr, ijI, ijR, ijD, ijF, ↓reduceIte, Int.reduceEq, Int.reduceLT, reduceCtorEq, l0_bind, l0_ite, l0_none, l0_oix, l0_obt, l0_och, l0_sel, l0_oel, l0_some, f_People_nearestShared, X15L]
end
def f_People_stepsBetween (m : jMem) (a1 : Int) (a2 : Int) : Option Int := (f_People_nearestShared m a1 a2).bind fun x1 => if x1 = (-1) then some (-1) else (f_People_depth m a1).bind fun x2 => (f_People_depth m a2).bind fun x3 => (f_People_depth m x1).bind fun x4 => some (jw ((jw (x2 + x3)) - (jw (2 * x4))))
section
variable {cf : jCf} {dv : UInt64}
set_option maxRecDepth 20000 in
set_option maxHeartbeats 4000000 in
theorem X16 (d : Nat) (a1 : Int) (a2 : Int) (m : jMem) (k : jM) : jme jT0 jMx (d + 3) 16 [jr (jn cf + 2), .inl a1, .inl a2] (hp cf dv m, k) = l0 cf dv m k ijI (f_People_stepsBetween m a1 a2) := by
  simp only [M16, E16_0, E16_1, E16_2, E16_3, E16_6, E16_7, E16_8, E16_9, E16_12, E16_13, E16_16, E16_17, E16_18, E16_21, E16_22, E16_23, E16_26, E16_27, E16_28, E16_29, E16_30, E16_33, E16_34, E16_35, X15, X4, go_2, jsh_n, jsh_I, jsh_R, jsh_II, jsh_IR, jsh_RI, jsh_RR, jsh_III, jsh_IIR, jsh_IRI, jsh_IRR, jsh_RII, jsh_RIR, jsh_RRI, jsh_RRR, jsh_IIII, jsh_IIIR, jsh_IIRI, jsh_IIRR, jsh_IRII, jsh_IRIR, jsh_IRRI, jsh_IRRR, jsh_RIII, jsh_RIIR, jsh_RIRI, jsh_RIRR, jsh_RRII, jsh_RRIR, jsh_RRRI, jsh_RRRR, jthr_hp, jc_l0, jc_lW, jc_lX, jc_lXW, jc_lVW, jc_lVX, jpush_n, jpush_s, obt_0, obt_1, och_0, och_32, och_100, och_115, och_104, och_33, och_43, och_60, jint, jbit, jchr, ijI, ijR, ijD, ijF, ↓reduceIte, Int.reduceEq, Int.reduceLT, reduceCtorEq, l0_bind, l0_ite, l0_none, l0_oix, l0_obt, l0_och, l0_sel, l0_oel, l0_some, f_People_stepsBetween]
end
def f_People_areNeighbours (m : jMem) (a1 : Int) (a2 : Int) : Option Int := (f_People_parent m a1).bind fun x1 => if x1 = a2 then some 1 else (f_People_parent m a2).bind fun x2 => if x2 = a1 then some 1 else some 0
section
variable {cf : jCf} {dv : UInt64}
set_option maxRecDepth 20000 in
set_option maxHeartbeats 4000000 in
theorem X17 (d : Nat) (a1 : Int) (a2 : Int) (m : jMem) (k : jM) : jme jT0 jMx (d + 2) 17 [jr (jn cf + 2), .inl a1, .inl a2] (hp cf dv m, k) = l0 cf dv m k ijI (f_People_areNeighbours m a1 a2) := by
  simp only [M17, E17_0, E17_1, E17_2, E17_5, E17_6, E17_9, E17_10, E17_11, E17_14, E17_15, E17_18, E17_19, E17_22, E17_23, X3, go_2, jsh_n, jsh_I, jsh_R, jsh_II, jsh_IR, jsh_RI, jsh_RR, jsh_III, jsh_IIR, jsh_IRI, jsh_IRR, jsh_RII, jsh_RIR, jsh_RRI, jsh_RRR, jsh_IIII, jsh_IIIR, jsh_IIRI, jsh_IIRR, jsh_IRII, jsh_IRIR, jsh_IRRI, jsh_IRRR, jsh_RIII, jsh_RIIR, jsh_RIRI, jsh_RIRR, jsh_RRII, jsh_RRIR, jsh_RRRI, jsh_RRRR, jthr_hp, jc_l0, jc_lW, jc_lX, jc_lXW, jc_lVW, jc_lVX, jpush_n, jpush_s, obt_0, obt_1, och_0, och_32, och_100, och_115, och_104, och_33, och_43, och_60, jint, jbit, jchr, ijI, ijR, ijD, ijF, ↓reduceIte, Int.reduceEq, Int.reduceLT, reduceCtorEq, l0_bind, l0_ite, l0_none, l0_oix, l0_obt, l0_och, l0_sel, l0_oel, l0_some, f_People_areNeighbours]
end
def f_People_placeInFamilyL : Nat → jMem → Int → Int → Option Int
  | 0, _, _, _ => none
  | N + 1, m, a2, a3 => if 0 < a3 then (f_People_personAt m a3).bind fun x2 => (f_People_depth m x2).bind fun x3 => if 0 < x3 then f_People_placeInFamilyL N m a2 (jw (a3 + (-1))) else some (jw (a2 - a3)) else some (jw (a2 - a3))
def f_People_placeInFamily (m : jMem) (a1 : Int) : Option Int := (f_People_placeOf m a1).bind fun x1 => f_People_placeInFamilyL 99999 m x1 x1
section
variable {cf : jCf} {dv : UInt64}
set_option maxRecDepth 20000 in
set_option maxHeartbeats 4000000 in
theorem X18L (d : Nat) : ∀ (N : Nat) (m : jMem) (k : jM), (∀ (a2 a3 : Int) (z1 : Option jV), jlp jT0 18 (jme jT0 jMx (d + 1)) N 8 [some (jr (jn cf + 2)), z1, some (.inl a2), some (.inl a3)] [] (hp cf dv m, k) = l0 cf dv m k ijI (f_People_placeInFamilyL N m a2 a3)) := by
  intro N
  induction N with
  | zero => intro m k; exact by intros; rfl
  | succ N ih =>
    intro m k
    intros
    rw [jlp_s]
    simp only [E18_0, E18_1, E18_2, E18_5, E18_6, E18_7, E18_8, E18_9, E18_12, E18_13, E18_14, E18_15, E18_18, E18_21, E18_24, E18_27, E18_30, E18_31, E18_32, E18_33, X4, X5, X6, go_2, jsh_n, jsh_I, jsh_R, jsh_II, jsh_IR, jsh_RI, jsh_RR, jsh_III, jsh_IIR, jsh_IRI, jsh_IRR, jsh_RII, jsh_RIR, jsh_RRI, jsh_RRR, jsh_IIII, jsh_IIIR, jsh_IIRI, jsh_IIRR, jsh_IRII, jsh_IRIR, jsh_IRRI, jsh_IRRR, jsh_RIII, jsh_RIIR, jsh_RIRI, jsh_RIRR, jsh_RRII, jsh_RRIR, jsh_RRRI, jsh_RRRR, jthr_hp, jc_l0, jc_lW, jc_lX, jc_lXW, jc_lVW, jc_lVX, jpush_n, jpush_s, obt_0, obt_1, och_0, och_32, och_100, och_115, och_104, och_33, och_43, och_60, jint, jbit, jchr, ijI, ijR, ijD, ijF, ↓reduceIte, Int.reduceEq, Int.reduceLT, reduceCtorEq, l0_bind, l0_ite, l0_none, l0_oix, l0_obt, l0_och, l0_sel, l0_oel, l0_some, f_People_placeInFamilyL, ih]
set_option maxRecDepth 20000 in
set_option maxHeartbeats 4000000 in
theorem X18 (d : Nat) (a1 : Int) (m : jMem) (k : jM) : jme jT0 jMx (d + 2) 18 [jr (jn cf + 2), .inl a1] (hp cf dv m, k) = l0 cf dv m k ijI (f_People_placeInFamily m a1) := by
  simp only [M18, E18_0, E18_1, E18_2, E18_5, E18_6, E18_7, E18_8, E18_9, E18_12, E18_13, E18_14, E18_15, E18_18, E18_21, E18_24, E18_27, E18_30, E18_31, E18_32, E18_33, X4, X5, X6, go_2, jsh_n, jsh_I, jsh_R, jsh_II, jsh_IR, jsh_RI, jsh_RR, jsh_III, jsh_IIR, jsh_IRI, jsh_IRR, jsh_RII, jsh_RIR, jsh_RRI, jsh_RRR, jsh_IIII, jsh_IIIR, jsh_IIRI, jsh_IIRR, jsh_IRII, jsh_IRIR, jsh_IRRI, jsh_IRRR, jsh_RIII, jsh_RIIR, jsh_RIRI, jsh_RIRR, jsh_RRII, jsh_RRIR, jsh_RRRI, jsh_RRRR, jthr_hp, jc_l0, jc_lW, jc_lX, jc_lXW, jc_lVW, jc_lVX, jpush_n, jpush_s, obt_0, obt_1, och_0, och_32, och_100, och_115, och_104, och_33, och_43, och_60, jint, jbit, jchr, ijI, ijR, ijD, ijF, ↓reduceIte, Int.reduceEq, Int.reduceLT, reduceCtorEq, l0_bind, l0_ite, l0_none, l0_oix, l0_obt, l0_och, l0_sel, l0_oel, l0_some, f_People_placeInFamily, X18L]
end
def f_People_directHeir (m : jMem) (a1 : Int) : Option Int := (f_People_firstLivingBelow m a1 (-1)).bind fun x1 => some x1
section
variable {cf : jCf} {dv : UInt64}
set_option maxRecDepth 20000 in
set_option maxHeartbeats 4000000 in
theorem X19 (d : Nat) (a1 : Int) (m : jMem) (k : jM) : jme jT0 jMx (d + 4) 19 [jr (jn cf + 2), .inl a1] (hp cf dv m, k) = l0 cf dv m k ijI (f_People_directHeir m a1) := by
  simp only [M19, E19_0, E19_1, E19_2, E19_3, E19_6, X14, go_2, jsh_n, jsh_I, jsh_R, jsh_II, jsh_IR, jsh_RI, jsh_RR, jsh_III, jsh_IIR, jsh_IRI, jsh_IRR, jsh_RII, jsh_RIR, jsh_RRI, jsh_RRR, jsh_IIII, jsh_IIIR, jsh_IIRI, jsh_IIRR, jsh_IRII, jsh_IRIR, jsh_IRRI, jsh_IRRR, jsh_RIII, jsh_RIIR, jsh_RIRI, jsh_RIRR, jsh_RRII, jsh_RRIR, jsh_RRRI, jsh_RRRR, jthr_hp, jc_l0, jc_lW, jc_lX, jc_lXW, jc_lVW, jc_lVX, jpush_n, jpush_s, obt_0, obt_1, och_0, och_32, och_100, och_115, och_104, och_33, och_43, och_60, jint, jbit, jchr, ijI, ijR, ijD, ijF, ↓reduceIte, Int.reduceEq, Int.reduceLT, reduceCtorEq, l0_bind, l0_ite, l0_none, l0_oix, l0_obt, l0_och, l0_sel, l0_oel, l0_some, f_People_directHeir]
end
def f_People_heirL : Nat → jMem → Int → Int → Int → Int → Option Int
  | 0, _, _, _, _, _ => none
  | N + 1, m, a1, a2, a3, a4 => if a4 < 16 then if a2 = (-1) then if a3 = (-1) then some a2 else (f_People_isLiving m a3).bind fun x3 => if x3 = 0 then (f_People_firstLivingBelow m a3 a1).bind fun x4 => (f_People_parent m a3).bind fun x5 => f_People_heirL N m a1 x4 x5 (jw (a4 + 1)) else (f_People_parent m a3).bind fun x6 => f_People_heirL N m a1 a3 x6 (jw (a4 + 1)) else some a2 else some a2
def f_People_heir (m : jMem) (a1 : Int) : Option Int := (f_People_firstLivingBelow m a1 (-1)).bind fun x1 => (f_People_parent m a1).bind fun x2 => f_People_heirL 99999 m a1 x1 x2 0
section
variable {cf : jCf} {dv : UInt64}
set_option maxRecDepth 20000 in
set_option maxHeartbeats 4000000 in
theorem X20L (d : Nat) : ∀ (N : Nat) (m : jMem) (k : jM), (∀ (a1 a2 a3 a4 : Int), jlp jT0 20 (jme jT0 jMx (d + 3)) N 16 [some (jr (jn cf + 2)), some (.inl a1), some (.inl a2), some (.inl a3), some (.inl a4)] [] (hp cf dv m, k) = l0 cf dv m k ijI (f_People_heirL N m a1 a2 a3 a4)) := by
  intro N
  induction N with
  | zero => intro m k; exact by intros; rfl
  | succ N ih =>
    intro m k
    intros
    rw [jlp_s]
    simp only [E20_0, E20_1, E20_2, E20_3, E20_6, E20_7, E20_8, E20_9, E20_12, E20_13, E20_14, E20_16, E20_18, E20_20, E20_23, E20_24, E20_25, E20_28, E20_29, E20_30, E20_33, E20_34, E20_35, E20_38, E20_41, E20_42, E20_45, E20_46, E20_47, E20_48, E20_51, E20_52, E20_53, E20_54, E20_57, E20_58, E20_61, E20_64, E20_65, X14, X2, X3, go_2, jsh_n, jsh_I, jsh_R, jsh_II, jsh_IR, jsh_RI, jsh_RR, jsh_III, jsh_IIR, jsh_IRI, jsh_IRR, jsh_RII, jsh_RIR, jsh_RRI, jsh_RRR, jsh_IIII, jsh_IIIR, jsh_IIRI, jsh_IIRR, jsh_IRII, jsh_IRIR, jsh_IRRI, jsh_IRRR, jsh_RIII, jsh_RIIR, jsh_RIRI, jsh_RIRR, jsh_RRII, jsh_RRIR, jsh_RRRI, jsh_RRRR, jthr_hp, jc_l0, jc_lW, jc_lX, jc_lXW, jc_lVW, jc_lVX, jpush_n, jpush_s, obt_0, obt_1, och_0, och_32, och_100, och_115, och_104, och_33, och_43, och_60, jint, jbit, jchr, ijI, ijR, ijD, ijF, ↓reduceIte, Int.reduceEq, Int.reduceLT, reduceCtorEq, l0_bind, l0_ite, l0_none, l0_oix, l0_obt, l0_och, l0_sel, l0_oel, l0_some, f_People_heirL, ih]
set_option maxRecDepth 20000 in
set_option maxHeartbeats 4000000 in
theorem X20 (d : Nat) (a1 : Int) (m : jMem) (k : jM) : jme jT0 jMx (d + 4) 20 [jr (jn cf + 2), .inl a1] (hp cf dv m, k) = l0 cf dv m k ijI (f_People_heir m a1) := by
  simp only [M20, E20_0, E20_1, E20_2, E20_3, E20_6, E20_7, E20_8, E20_9, E20_12, E20_13, E20_14, E20_16, E20_18, E20_20, E20_23, E20_24, E20_25, E20_28, E20_29, E20_30, E20_33, E20_34, E20_35, E20_38, E20_41, E20_42, E20_45, E20_46, E20_47, E20_48, E20_51, E20_52, E20_53, E20_54, E20_57, E20_58, E20_61, E20_64, E20_65, X14, X2, X3, go_2, jsh_n, jsh_I, jsh_R, jsh_II, jsh_IR, jsh_RI, jsh_RR, jsh_III, jsh_IIR, jsh_IRI, jsh_IRR, jsh_RII, jsh_RIR, jsh_RRI, jsh_RRR, jsh_IIII, jsh_IIIR, jsh_IIRI, jsh_IIRR, jsh_IRII, jsh_IRIR, jsh_IRRI, jsh_IRRR, jsh_RIII, jsh_RIIR, jsh_RIRI, jsh_RIRR, jsh_RRII, jsh_RRIR, jsh_RRRI, jsh_RRRR, jthr_hp, jc_l0, jc_lW, jc_lX, jc_lXW, jc_lVW, jc_lVX, jpush_n, jpush_s, obt_0, obt_1, och_0, och_32, och_100, och_115, och_104, och_33, och_43, och_60, jint, jbit, jchr, ijI, ijR, ijD, ijF, ↓reduceIte, Int.reduceEq, Int.reduceLT, reduceCtorEq, l0_bind, l0_ite, l0_none, l0_oix, l0_obt, l0_och, l0_sel, l0_oel, l0_some, f_People_heir, X20L]
end
def f_People_succeedsBefore (m : jMem) (a1 : Int) (a2 : Int) (a3 : Int) : Option Int := (f_People_nearestShared m a1 a3).bind fun x1 => (f_People_depth m x1).bind fun x2 => (f_People_nearestShared m a2 a3).bind fun x3 => (f_People_depth m x3).bind fun x4 => if x2 = x4 then (f_People_placeOf m a1).bind fun x5 => (f_People_placeOf m a2).bind fun x6 => if x5 < x6 then some 1 else some 0 else if x4 < x2 then some 1 else some 0
section
variable {cf : jCf} {dv : UInt64}
set_option maxRecDepth 20000 in
set_option maxHeartbeats 4000000 in
theorem X22 (d : Nat) (a1 : Int) (a2 : Int) (a3 : Int) (m : jMem) (k : jM) : jme jT0 jMx (d + 3) 22 [jr (jn cf + 2), .inl a1, .inl a2, .inl a3] (hp cf dv m, k) = l0 cf dv m k ijI (f_People_succeedsBefore m a1 a2 a3) := by
  simp only [M22, E22_0, E22_1, E22_2, E22_3, E22_4, E22_7, E22_10, E22_12, E22_13, E22_14, E22_15, E22_16, E22_19, E22_22, E22_24, E22_26, E22_28, E22_31, E22_33, E22_35, E22_38, E22_39, E22_42, E22_43, E22_44, E22_45, E22_46, E22_49, E22_50, E22_51, E22_54, E22_57, E22_58, E22_61, E22_62, X15, X4, X6, go_2, jsh_n, jsh_I, jsh_R, jsh_II, jsh_IR, jsh_RI, jsh_RR, jsh_III, jsh_IIR, jsh_IRI, jsh_IRR, jsh_RII, jsh_RIR, jsh_RRI, jsh_RRR, jsh_IIII, jsh_IIIR, jsh_IIRI, jsh_IIRR, jsh_IRII, jsh_IRIR, jsh_IRRI, jsh_IRRR, jsh_RIII, jsh_RIIR, jsh_RIRI, jsh_RIRR, jsh_RRII, jsh_RRIR, jsh_RRRI, jsh_RRRR, jthr_hp, jc_l0, jc_lW, jc_lX, jc_lXW, jc_lVW, jc_lVX, jpush_n, jpush_s, obt_0, obt_1, och_0, och_32, och_100, och_115, och_104, och_33, och_43, och_60, jint, jbit, jchr, ijI, ijR, ijD, ijF, ↓reduceIte, Int.reduceEq, Int.reduceLT, reduceCtorEq, l0_bind, l0_ite, l0_none, l0_oix, l0_obt, l0_och, l0_sel, l0_oel, l0_some, f_People_succeedsBefore]
end
def f_People_heirAmongAllL : Nat → jMem → Int → Int → Int → Option Int
  | 0, _, _, _, _ => none
  | N + 1, m, a1, a2, a3 => if a3 < (m 2 4) then if a3 = a1 then f_People_heirAmongAllL N m a1 a2 (jw (a3 + 1)) else oix a3 16 (if (m 5 a3.toNat) = 0 then f_People_heirAmongAllL N m a1 a2 (jw (a3 + 1)) else (f_People_nearestShared m a3 a1).bind fun x1 => if x1 = (-1) then f_People_heirAmongAllL N m a1 a2 (jw (a3 + 1)) else if a2 = (-1) then f_People_heirAmongAllL N m a1 a3 (jw (a3 + 1)) else (f_People_succeedsBefore m a3 a2 a1).bind fun x2 => if x2 = 0 then f_People_heirAmongAllL N m a1 a2 (jw (a3 + 1)) else f_People_heirAmongAllL N m a1 a3 (jw (a3 + 1))) else some a2
def f_People_heirAmongAll (m : jMem) (a1 : Int) : Option Int := f_People_heirAmongAllL 99999 m a1 (-1) 0
section
variable {cf : jCf} {dv : UInt64}
set_option maxRecDepth 20000 in
set_option maxHeartbeats 4000000 in
theorem X21L (d : Nat) : ∀ (N : Nat) (m : jMem) (k : jM), (∀ (a1 a2 a3 : Int) (z4 : Option jV), jlp jT0 21 (jme jT0 jMx (d + 3)) N 4 [some (jr (jn cf + 2)), some (.inl a1), some (.inl a2), some (.inl a3), z4] [] (hp cf dv m, k) = l0 cf dv m k ijI (f_People_heirAmongAllL N m a1 a2 a3)) := by
  intro N
  induction N with
  | zero => intro m k; exact by intros; rfl
  | succ N ih =>
    intro m k
    intros
    rw [jlp_s]
    simp only [E21_0, E21_1, E21_2, E21_3, E21_4, E21_5, E21_6, E21_9, E21_12, E21_13, E21_14, E21_17, E21_18, E21_21, E21_22, E21_23, E21_26, E21_27, E21_28, E21_29, E21_32, E21_33, E21_36, E21_37, E21_40, E21_41, E21_43, E21_45, E21_48, E21_49, E21_50, E21_53, E21_54, E21_55, E21_56, E21_57, E21_60, E21_63, E21_64, E21_65, E21_68, E21_71, E21_72, ai_5, gf_2_2, gf_2_4, X15, X22, go_2, jsh_n, jsh_I, jsh_R, jsh_II, jsh_IR, jsh_RI, jsh_RR, jsh_III, jsh_IIR, jsh_IRI, jsh_IRR, jsh_RII, jsh_RIR, jsh_RRI, jsh_RRR, jsh_IIII, jsh_IIIR, jsh_IIRI, jsh_IIRR, jsh_IRII, jsh_IRIR, jsh_IRRI, jsh_IRRR, jsh_RIII, jsh_RIIR, jsh_RIRI, jsh_RIRR, jsh_RRII, jsh_RRIR, jsh_RRRI, jsh_RRRR, jthr_hp, jc_l0, jc_lW, jc_lX, jc_lXW, jc_lVW, jc_lVX, jpush_n, jpush_s, obt_0, obt_1, och_0, och_32, och_100, och_115, och_104, och_33, och_43, och_60, jint, jbit, jchr, ijI, ijR, ijD, ijF, ↓reduceIte, Int.reduceEq, Int.reduceLT, reduceCtorEq, l0_bind, l0_ite, l0_none, l0_oix, l0_obt, l0_och, l0_sel, l0_oel, l0_some, f_People_heirAmongAllL, ih]
set_option maxRecDepth 20000 in
set_option maxHeartbeats 4000000 in
theorem X21 (d : Nat) (a1 : Int) (m : jMem) (k : jM) : jme jT0 jMx (d + 4) 21 [jr (jn cf + 2), .inl a1] (hp cf dv m, k) = l0 cf dv m k ijI (f_People_heirAmongAll m a1) := by
  simp only [M21, E21_0, E21_1, E21_2, E21_3, E21_4, E21_5, E21_6, E21_9, E21_12, E21_13, E21_14, E21_17, E21_18, E21_21, E21_22, E21_23, E21_26, E21_27, E21_28, E21_29, E21_32, E21_33, E21_36, E21_37, E21_40, E21_41, E21_43, E21_45, E21_48, E21_49, E21_50, E21_53, E21_54, E21_55, E21_56, E21_57, E21_60, E21_63, E21_64, E21_65, E21_68, E21_71, E21_72, ai_5, gf_2_2, gf_2_4, X15, X22, go_2, jsh_n, jsh_I, jsh_R, jsh_II, jsh_IR, jsh_RI, jsh_RR, jsh_III, jsh_IIR, jsh_IRI, jsh_IRR, jsh_RII, jsh_RIR, jsh_RRI, jsh_RRR, jsh_IIII, jsh_IIIR, jsh_IIRI, jsh_IIRR, jsh_IRII, jsh_IRIR, jsh_IRRI, jsh_IRRR, jsh_RIII, jsh_RIIR, jsh_RIRI, jsh_RIRR, jsh_RRII, jsh_RRIR, jsh_RRRI, jsh_RRRR, jthr_hp, jc_l0, jc_lW, jc_lX, jc_lXW, jc_lVW, jc_lVX, jpush_n, jpush_s, obt_0, obt_1, och_0, och_32, och_100, och_115, och_104, och_33, och_43, och_60, jint, jbit, jchr, ijI, ijR, ijD, ijF, ↓reduceIte, Int.reduceEq, Int.reduceLT, reduceCtorEq, l0_bind, l0_ite, l0_none, l0_oix, l0_obt, l0_och, l0_sel, l0_oel, l0_some, f_People_heirAmongAll, X21L]
end

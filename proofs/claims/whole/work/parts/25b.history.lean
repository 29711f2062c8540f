/-! ===== history ===== -/
section
variable (cl : Nat → List jV → jH → jR) (bk : Nat → jL → List jV → jH → jR) (n : Nat)
theorem E75_0 (a : Nat) (st : List jV) (w : jH) : jblk jT0 75 cl bk (n + 1) 0 [some (jr a)] st w = jblk jT0 75 cl bk n 1 [some (jr a)] (jr a :: st) w := Eq.trans rfl rfl
theorem E75_1 (a : Nat) (st : List jV) (l0 : Option jV) (w : jH) : jblk jT0 75 cl bk (n + 1) 1 [l0] (jr a :: st) w = jgf w a 8 1 fun v => jblk jT0 75 cl bk n 4 [l0] (v :: st) w := Eq.trans rfl rfl
theorem E75_4 (x : Int) (st : List jV) (l0 : Option jV) (w : jH) : jblk jT0 75 cl bk (n + 1) 4 [l0] (.inl x :: st) w = if x < 0 then jblk jT0 75 cl bk n 28 [l0] st w else jblk jT0 75 cl bk n 7 [l0] st w := Eq.trans rfl rfl
theorem E75_7 (a : Nat) (st : List jV) (w : jH) : jblk jT0 75 cl bk (n + 1) 7 [some (jr a)] st w = jblk jT0 75 cl bk n 8 [some (jr a)] (jr a :: st) w := Eq.trans rfl rfl
theorem E75_8 (a : Nat) (st : List jV) (l0 : Option jV) (w : jH) : jblk jT0 75 cl bk (n + 1) 8 [l0] (jr a :: st) w = jgf w a 8 1 fun v => jblk jT0 75 cl bk n 11 [l0] (v :: st) w := Eq.trans rfl rfl
theorem E75_11 (st : List jV) (l0 : Option jV) (w : jH) : jblk jT0 75 cl bk (n + 1) 11 [l0] st w = jblk jT0 75 cl bk n 13 [l0] (.inl 9 :: st) w := Eq.trans rfl rfl
theorem E75_13 (x : Int) (y : Int) (st : List jV) (l0 : Option jV) (w : jH) : jblk jT0 75 cl bk (n + 1) 13 [l0] (.inl y :: .inl x :: st) w = if x < y then jblk jT0 75 cl bk n 16 [l0] st w else jblk jT0 75 cl bk n 28 [l0] st w := Eq.trans rfl rfl
theorem E75_16 (a : Nat) (st : List jV) (w : jH) : jblk jT0 75 cl bk (n + 1) 16 [some (jr a)] st w = jblk jT0 75 cl bk n 17 [some (jr a)] (jr a :: st) w := Eq.trans rfl rfl
theorem E75_17 (a : Nat) (st : List jV) (l0 : Option jV) (w : jH) : jblk jT0 75 cl bk (n + 1) 17 [l0] (jr a :: st) w = jgf w a 8 0 fun v => jblk jT0 75 cl bk n 20 [l0] (v :: st) w := Eq.trans rfl rfl
theorem E75_20 (a : Nat) (st : List jV) (w : jH) : jblk jT0 75 cl bk (n + 1) 20 [some (jr a)] st w = jblk jT0 75 cl bk n 21 [some (jr a)] (jr a :: st) w := Eq.trans rfl rfl
theorem E75_21 (a : Nat) (st : List jV) (l0 : Option jV) (w : jH) : jblk jT0 75 cl bk (n + 1) 21 [l0] (jr a :: st) w = jgf w a 8 1 fun v => jblk jT0 75 cl bk n 24 [l0] (v :: st) w := Eq.trans rfl rfl
theorem E75_24 (x : Int) (a : Nat) (st : List jV) (l0 : Option jV) (w : jH) : jblk jT0 75 cl bk (n + 1) 24 [l0] (.inl x :: jr a :: st) w = jgs w a x fun z => jblk jT0 75 cl bk n 25 [l0] (jr z :: st) w := Eq.trans rfl rfl
theorem E75_25 (st : List jV) (l0 : Option jV) (w : jH) : jblk jT0 75 cl bk (n + 1) 25 [l0] st w = jblk jT0 75 cl bk n 29 [l0] st w := Eq.trans rfl rfl
theorem E75_28 (st : List jV) (l0 : Option jV) (w : jH) : jblk jT0 75 cl bk (n + 1) 28 [l0] st w = none := Eq.trans rfl rfl
theorem E75_29 (a : Nat) (l0 : Option jV) (w : jH) : jblk jT0 75 cl bk (n + 1) 29 [l0] [jr a] w = some (.inl (some (jr a)), w) := Eq.trans rfl rfl
theorem E76_0 (a : Nat) (st : List jV) (l1 l2 : Option jV) (w : jH) : jblk jT0 76 cl bk (n + 1) 0 [some (jr a), l1, l2] st w = jblk jT0 76 cl bk n 1 [some (jr a), l1, l2] (jr a :: st) w := Eq.trans rfl rfl
theorem E76_1 (a : Nat) (st : List jV) (l0 l1 l2 : Option jV) (w : jH) : jblk jT0 76 cl bk (n + 1) 1 [l0, l1, l2] (jr a :: st) w = jsh st (jgo w a 8 fun _ => jcl (cl 75 [jr a] w) (fun v w' => jblk jT0 76 cl bk n 4 [l0, l1, l2] (jpush v st) w') (fun E w' => some (.inr E, w'))) := Eq.trans rfl rfl
theorem E76_4 (a : Nat) (st : List jV) (l0 l1 l2 : Option jV) (w : jH) : jblk jT0 76 cl bk (n + 1) 4 [l0, l1, l2] (jr a :: st) w = jblk jT0 76 cl bk n 5 [l0, l1, some (jr a)] st w := Eq.trans rfl rfl
theorem E76_5 (a : Nat) (st : List jV) (l0 l1 : Option jV) (w : jH) : jblk jT0 76 cl bk (n + 1) 5 [l0, l1, some (jr a)] st w = jblk jT0 76 cl bk n 6 [l0, l1, some (jr a)] (jr a :: st) w := Eq.trans rfl rfl
theorem E76_6 (a : Nat) (st : List jV) (l0 l1 l2 : Option jV) (w : jH) : jblk jT0 76 cl bk (n + 1) 6 [l0, l1, l2] (jr a :: st) w = jblk jT0 76 cl bk n 9 [l0, l1, l2] st w := Eq.trans rfl rfl
theorem E76_9 (a : Nat) (st : List jV) (l0 l1 : Option jV) (w : jH) : jblk jT0 76 cl bk (n + 1) 9 [l0, l1, some (jr a)] st w = jblk jT0 76 cl bk n 10 [l0, l1, some (jr a)] (jr a :: st) w := Eq.trans rfl rfl
theorem E76_10 (a : Nat) (st : List jV) (l0 l2 : Option jV) (w : jH) : jblk jT0 76 cl bk (n + 1) 10 [l0, some (jr a), l2] st w = jblk jT0 76 cl bk n 11 [l0, some (jr a), l2] (jr a :: st) w := Eq.trans rfl rfl
theorem E76_11 (a : Nat) (v0 : jV) (st : List jV) (l0 l1 l2 : Option jV) (w : jH) : jblk jT0 76 cl bk (n + 1) 11 [l0, l1, l2] (v0 :: jr a :: st) w = jsh st (jgo w a 7 fun _ => jcl (cl 54 [jr a, v0] w) (fun v w' => jblk jT0 76 cl bk n 14 [l0, l1, l2] (jpush v st) w') (fun E w' => some (.inr E, w'))) := Eq.trans rfl rfl
theorem E76_14 (l0 l1 l2 : Option jV) (w : jH) : jblk jT0 76 cl bk (n + 1) 14 [l0, l1, l2] [] w = some (.inl none, w) := Eq.trans rfl rfl
theorem E77_0 (a : Nat) (st : List jV) (w : jH) : jblk jT0 77 cl bk (n + 1) 0 [some (jr a)] st w = jblk jT0 77 cl bk n 1 [some (jr a)] (jr a :: st) w := Eq.trans rfl rfl
theorem E77_1 (a : Nat) (st : List jV) (w : jH) : jblk jT0 77 cl bk (n + 1) 1 [some (jr a)] st w = jblk jT0 77 cl bk n 2 [some (jr a)] (jr a :: st) w := Eq.trans rfl rfl
theorem E77_2 (a : Nat) (st : List jV) (l0 : Option jV) (w : jH) : jblk jT0 77 cl bk (n + 1) 2 [l0] (jr a :: st) w = jgf w a 8 1 fun v => jblk jT0 77 cl bk n 5 [l0] (v :: st) w := Eq.trans rfl rfl
theorem E77_5 (st : List jV) (l0 : Option jV) (w : jH) : jblk jT0 77 cl bk (n + 1) 5 [l0] st w = jblk jT0 77 cl bk n 6 [l0] (.inl 1 :: st) w := Eq.trans rfl rfl
theorem E77_6 (x : Int) (y : Int) (st : List jV) (l0 : Option jV) (w : jH) : jblk jT0 77 cl bk (n + 1) 6 [l0] (.inl y :: .inl x :: st) w = jblk jT0 77 cl bk n 7 [l0] (.inl (jw (x + y)) :: st) w := Eq.trans rfl rfl
theorem E77_7 (st : List jV) (l0 : Option jV) (w : jH) : jblk jT0 77 cl bk (n + 1) 7 [l0] st w = jblk jT0 77 cl bk n 9 [l0] (.inl 9 :: st) w := Eq.trans rfl rfl
theorem E77_9 (x : Int) (y : Int) (st : List jV) (l0 : Option jV) (w : jH) : jblk jT0 77 cl bk (n + 1) 9 [l0] (.inl y :: .inl x :: st) w = if x < y then jblk jT0 77 cl bk n 12 [l0] st w else jblk jT0 77 cl bk n 21 [l0] st w := Eq.trans rfl rfl
theorem E77_12 (a : Nat) (st : List jV) (w : jH) : jblk jT0 77 cl bk (n + 1) 12 [some (jr a)] st w = jblk jT0 77 cl bk n 13 [some (jr a)] (jr a :: st) w := Eq.trans rfl rfl
theorem E77_13 (a : Nat) (st : List jV) (l0 : Option jV) (w : jH) : jblk jT0 77 cl bk (n + 1) 13 [l0] (jr a :: st) w = jgf w a 8 1 fun v => jblk jT0 77 cl bk n 16 [l0] (v :: st) w := Eq.trans rfl rfl
theorem E77_16 (st : List jV) (l0 : Option jV) (w : jH) : jblk jT0 77 cl bk (n + 1) 16 [l0] st w = jblk jT0 77 cl bk n 17 [l0] (.inl 1 :: st) w := Eq.trans rfl rfl
theorem E77_17 (x : Int) (y : Int) (st : List jV) (l0 : Option jV) (w : jH) : jblk jT0 77 cl bk (n + 1) 17 [l0] (.inl y :: .inl x :: st) w = jblk jT0 77 cl bk n 18 [l0] (.inl (jw (x + y)) :: st) w := Eq.trans rfl rfl
theorem E77_18 (st : List jV) (l0 : Option jV) (w : jH) : jblk jT0 77 cl bk (n + 1) 18 [l0] st w = jblk jT0 77 cl bk n 22 [l0] st w := Eq.trans rfl rfl
theorem E77_21 (st : List jV) (l0 : Option jV) (w : jH) : jblk jT0 77 cl bk (n + 1) 21 [l0] st w = jblk jT0 77 cl bk n 22 [l0] (.inl 0 :: st) w := Eq.trans rfl rfl
theorem E77_22 (a : Nat) (v : jV) (st : List jV) (l0 : Option jV) (w : jH) : jblk jT0 77 cl bk (n + 1) 22 [l0] (v :: jr a :: st) w = jpf w a 8 1 .int v fun w' => jblk jT0 77 cl bk n 25 [l0] st w' := Eq.trans rfl rfl
theorem E77_25 (a : Nat) (st : List jV) (w : jH) : jblk jT0 77 cl bk (n + 1) 25 [some (jr a)] st w = jblk jT0 77 cl bk n 26 [some (jr a)] (jr a :: st) w := Eq.trans rfl rfl
theorem E77_26 (a : Nat) (st : List jV) (w : jH) : jblk jT0 77 cl bk (n + 1) 26 [some (jr a)] st w = jblk jT0 77 cl bk n 27 [some (jr a)] (jr a :: st) w := Eq.trans rfl rfl
theorem E77_27 (a : Nat) (st : List jV) (l0 : Option jV) (w : jH) : jblk jT0 77 cl bk (n + 1) 27 [l0] (jr a :: st) w = jgf w a 8 2 fun v => jblk jT0 77 cl bk n 30 [l0] (v :: st) w := Eq.trans rfl rfl
theorem E77_30 (st : List jV) (l0 : Option jV) (w : jH) : jblk jT0 77 cl bk (n + 1) 30 [l0] st w = jblk jT0 77 cl bk n 31 [l0] (.inl 1 :: st) w := Eq.trans rfl rfl
theorem E77_31 (x : Int) (y : Int) (st : List jV) (l0 : Option jV) (w : jH) : jblk jT0 77 cl bk (n + 1) 31 [l0] (.inl y :: .inl x :: st) w = jblk jT0 77 cl bk n 32 [l0] (.inl (jw (x + y)) :: st) w := Eq.trans rfl rfl
theorem E77_32 (st : List jV) (l0 : Option jV) (w : jH) : jblk jT0 77 cl bk (n + 1) 32 [l0] st w = jblk jT0 77 cl bk n 34 [l0] (.inl 8 :: st) w := Eq.trans rfl rfl
theorem E77_34 (x : Int) (y : Int) (st : List jV) (l0 : Option jV) (w : jH) : jblk jT0 77 cl bk (n + 1) 34 [l0] (.inl y :: .inl x :: st) w = jsh st (jblk jT0 77 cl bk n 37 [l0] (.inl (if y < x then y else x) :: st) w) := Eq.trans rfl rfl
theorem E77_37 (a : Nat) (v : jV) (st : List jV) (l0 : Option jV) (w : jH) : jblk jT0 77 cl bk (n + 1) 37 [l0] (v :: jr a :: st) w = jpf w a 8 2 .int v fun w' => jblk jT0 77 cl bk n 40 [l0] st w' := Eq.trans rfl rfl
theorem E77_40 (l0 : Option jV) (w : jH) : jblk jT0 77 cl bk (n + 1) 40 [l0] [] w = some (.inl none, w) := Eq.trans rfl rfl
theorem E78_0 (a : Nat) (st : List jV) (w : jH) : jblk jT0 78 cl bk (n + 1) 0 [some (jr a)] st w = jblk jT0 78 cl bk n 1 [some (jr a)] (jr a :: st) w := Eq.trans rfl rfl
theorem E78_1 (a : Nat) (st : List jV) (w : jH) : jblk jT0 78 cl bk (n + 1) 1 [some (jr a)] st w = jblk jT0 78 cl bk n 2 [some (jr a)] (jr a :: st) w := Eq.trans rfl rfl
theorem E78_2 (a : Nat) (st : List jV) (l0 : Option jV) (w : jH) : jblk jT0 78 cl bk (n + 1) 2 [l0] (jr a :: st) w = jgf w a 8 1 fun v => jblk jT0 78 cl bk n 5 [l0] (v :: st) w := Eq.trans rfl rfl
theorem E78_5 (x : Int) (st : List jV) (l0 : Option jV) (w : jH) : jblk jT0 78 cl bk (n + 1) 5 [l0] (.inl x :: st) w = if 0 < x then jblk jT0 78 cl bk n 8 [l0] st w else jblk jT0 78 cl bk n 17 [l0] st w := Eq.trans rfl rfl
theorem E78_8 (a : Nat) (st : List jV) (w : jH) : jblk jT0 78 cl bk (n + 1) 8 [some (jr a)] st w = jblk jT0 78 cl bk n 9 [some (jr a)] (jr a :: st) w := Eq.trans rfl rfl
theorem E78_9 (a : Nat) (st : List jV) (l0 : Option jV) (w : jH) : jblk jT0 78 cl bk (n + 1) 9 [l0] (jr a :: st) w = jgf w a 8 1 fun v => jblk jT0 78 cl bk n 12 [l0] (v :: st) w := Eq.trans rfl rfl
theorem E78_12 (st : List jV) (l0 : Option jV) (w : jH) : jblk jT0 78 cl bk (n + 1) 12 [l0] st w = jblk jT0 78 cl bk n 13 [l0] (.inl 1 :: st) w := Eq.trans rfl rfl
theorem E78_13 (x : Int) (y : Int) (st : List jV) (l0 : Option jV) (w : jH) : jblk jT0 78 cl bk (n + 1) 13 [l0] (.inl y :: .inl x :: st) w = jblk jT0 78 cl bk n 14 [l0] (.inl (jw (x - y)) :: st) w := Eq.trans rfl rfl
theorem E78_14 (st : List jV) (l0 : Option jV) (w : jH) : jblk jT0 78 cl bk (n + 1) 14 [l0] st w = jblk jT0 78 cl bk n 19 [l0] st w := Eq.trans rfl rfl
theorem E78_17 (st : List jV) (l0 : Option jV) (w : jH) : jblk jT0 78 cl bk (n + 1) 17 [l0] st w = jblk jT0 78 cl bk n 19 [l0] (.inl 8 :: st) w := Eq.trans rfl rfl
theorem E78_19 (a : Nat) (v : jV) (st : List jV) (l0 : Option jV) (w : jH) : jblk jT0 78 cl bk (n + 1) 19 [l0] (v :: jr a :: st) w = jpf w a 8 1 .int v fun w' => jblk jT0 78 cl bk n 22 [l0] st w' := Eq.trans rfl rfl
theorem E78_22 (a : Nat) (st : List jV) (w : jH) : jblk jT0 78 cl bk (n + 1) 22 [some (jr a)] st w = jblk jT0 78 cl bk n 23 [some (jr a)] (jr a :: st) w := Eq.trans rfl rfl
theorem E78_23 (a : Nat) (st : List jV) (w : jH) : jblk jT0 78 cl bk (n + 1) 23 [some (jr a)] st w = jblk jT0 78 cl bk n 24 [some (jr a)] (jr a :: st) w := Eq.trans rfl rfl
theorem E78_24 (a : Nat) (st : List jV) (l0 : Option jV) (w : jH) : jblk jT0 78 cl bk (n + 1) 24 [l0] (jr a :: st) w = jgf w a 8 2 fun v => jblk jT0 78 cl bk n 27 [l0] (v :: st) w := Eq.trans rfl rfl
theorem E78_27 (st : List jV) (l0 : Option jV) (w : jH) : jblk jT0 78 cl bk (n + 1) 27 [l0] st w = jblk jT0 78 cl bk n 28 [l0] (.inl 1 :: st) w := Eq.trans rfl rfl
theorem E78_28 (x : Int) (y : Int) (st : List jV) (l0 : Option jV) (w : jH) : jblk jT0 78 cl bk (n + 1) 28 [l0] (.inl y :: .inl x :: st) w = jblk jT0 78 cl bk n 29 [l0] (.inl (jw (x - y)) :: st) w := Eq.trans rfl rfl
theorem E78_29 (st : List jV) (l0 : Option jV) (w : jH) : jblk jT0 78 cl bk (n + 1) 29 [l0] st w = jblk jT0 78 cl bk n 30 [l0] (.inl 0 :: st) w := Eq.trans rfl rfl
theorem E78_30 (x : Int) (y : Int) (st : List jV) (l0 : Option jV) (w : jH) : jblk jT0 78 cl bk (n + 1) 30 [l0] (.inl y :: .inl x :: st) w = jsh st (jblk jT0 78 cl bk n 33 [l0] (.inl (if x < y then y else x) :: st) w) := Eq.trans rfl rfl
theorem E78_33 (a : Nat) (v : jV) (st : List jV) (l0 : Option jV) (w : jH) : jblk jT0 78 cl bk (n + 1) 33 [l0] (v :: jr a :: st) w = jpf w a 8 2 .int v fun w' => jblk jT0 78 cl bk n 36 [l0] st w' := Eq.trans rfl rfl
theorem E78_36 (l0 : Option jV) (w : jH) : jblk jT0 78 cl bk (n + 1) 36 [l0] [] w = some (.inl none, w) := Eq.trans rfl rfl
theorem E79_0 (a : Nat) (st : List jV) (w : jH) : jblk jT0 79 cl bk (n + 1) 0 [some (jr a)] st w = jblk jT0 79 cl bk n 1 [some (jr a)] (jr a :: st) w := Eq.trans rfl rfl
theorem E79_1 (st : List jV) (l0 : Option jV) (w : jH) : jblk jT0 79 cl bk (n + 1) 1 [l0] st w = jblk jT0 79 cl bk n 2 [l0] (.inl 0 :: st) w := Eq.trans rfl rfl
theorem E79_2 (a : Nat) (v : jV) (st : List jV) (l0 : Option jV) (w : jH) : jblk jT0 79 cl bk (n + 1) 2 [l0] (v :: jr a :: st) w = jpf w a 8 2 .int v fun w' => jblk jT0 79 cl bk n 5 [l0] st w' := Eq.trans rfl rfl
theorem E79_5 (l0 : Option jV) (w : jH) : jblk jT0 79 cl bk (n + 1) 5 [l0] [] w = some (.inl none, w) := Eq.trans rfl rfl
end
theorem M75 (d : Nat) (r0 : Nat) (w : jH) : jme jT0 jMx (d + 1) 75 [jr r0] w = jblk jT0 75 (jme jT0 jMx d) (jlp jT0 75 (jme jT0 jMx d) 99999) 4000 0 [some (jr r0)] [] w := (show _ = jlp jT0 75 (jme jT0 jMx d) 100000 0 [some (jr r0)] [] w from rfl).trans jlp_s
theorem M76 (d : Nat) (r0 : Nat) (r1 : Nat) (w : jH) : jme jT0 jMx (d + 1) 76 [jr r0, jr r1] w = jblk jT0 76 (jme jT0 jMx d) (jlp jT0 76 (jme jT0 jMx d) 99999) 4000 0 [some (jr r0), some (jr r1), none] [] w := (show _ = jlp jT0 76 (jme jT0 jMx d) 100000 0 [some (jr r0), some (jr r1), none] [] w from rfl).trans jlp_s
theorem M77 (d : Nat) (r0 : Nat) (w : jH) : jme jT0 jMx (d + 1) 77 [jr r0] w = jblk jT0 77 (jme jT0 jMx d) (jlp jT0 77 (jme jT0 jMx d) 99999) 4000 0 [some (jr r0)] [] w := (show _ = jlp jT0 77 (jme jT0 jMx d) 100000 0 [some (jr r0)] [] w from rfl).trans jlp_s
theorem M78 (d : Nat) (r0 : Nat) (w : jH) : jme jT0 jMx (d + 1) 78 [jr r0] w = jblk jT0 78 (jme jT0 jMx d) (jlp jT0 78 (jme jT0 jMx d) 99999) 4000 0 [some (jr r0)] [] w := (show _ = jlp jT0 78 (jme jT0 jMx d) 100000 0 [some (jr r0)] [] w from rfl).trans jlp_s
theorem M79 (d : Nat) (r0 : Nat) (w : jH) : jme jT0 jMx (d + 1) 79 [jr r0] w = jblk jT0 79 (jme jT0 jMx d) (jlp jT0 79 (jme jT0 jMx d) 99999) 4000 0 [some (jr r0)] [] w := (show _ = jlp jT0 79 (jme jT0 jMx d) 100000 0 [some (jr r0)] [] w from rfl).trans jlp_s
def f_History_marked (m : jMem) : Option Nat := if (m 17 1) < 0 then none else if (m 17 1) < 9 then oix (m 17 1) 9 (some (19 + 12 * (m 17 1).toNat)) else none
section
variable {cf : jCf} {dv : UInt64}
set_option maxRecDepth 20000 in
set_option maxHeartbeats 800000 in
theorem X75 (d : Nat) (m : jMem) (k : jM) : jme jT0 jMx (d + 1) 75 [jr (jn cf + 17)] (hp cf dv m, k) = l0 cf dv m k (ijR cf) (f_History_marked m) := by
  simp only [M75, E75_0, E75_1, E75_4, E75_7, E75_8, E75_11, E75_13, E75_16, E75_17, E75_20, E75_21, E75_24, E75_25, E75_28, E75_29, gf_17_0, gf_17_1, jgs_hp, jsh_n, jsh_I, jsh_R, jsh_II, jsh_IR, jsh_RI, jsh_RR, jsh_III, jsh_IIR, jsh_IRI, jsh_IRR, jsh_RII, jsh_RIR, jsh_RRI, jsh_RRR, jsh_IIII, jsh_IIIR, jsh_IIRI, jsh_IIRR, jsh_IRII, jsh_IRIR, jsh_IRRI, jsh_IRRR, jsh_RIII, jsh_RIIR, jsh_RIRI, jsh_RIRR, jsh_RRII, jsh_RRIR, jsh_RRRI, jsh_RRRR, jsh_IIIII, jsh_IIIIR, jsh_IIIRI, jsh_IIIRR, jsh_IIRII, jsh_IIRIR, jsh_IIRRI, jsh_IIRRR, jsh_IRIII, jsh_IRIIR, jsh_IRIRI, jsh_IRIRR, jsh_IRRII, jsh_IRRIR, jsh_IRRRI, jsh_IRRRR, jsh_RIIII, jsh_RIIIR, jsh_RIIRI, jsh_RIIRR, jsh_RIRII, jsh_RIRIR, jsh_RIRRI, jsh_RIRRR, jsh_RRIII, jsh_RRIIR, jsh_RRIRI, jsh_RRIRR, jsh_RRRII, jsh_RRRIR, jsh_RRRRI, jsh_RRRRR, jsh_D, jsh_DR, jsh_F, jsh_FR, jthr_hp, jc_l0, jc_lW, jc_lX, jc_lXW, jc_lVW, jc_lVX, jpush_n, jpush_s, obt_0, obt_1, och_0, och_32, och_100, och_115, och_104, och_33, och_43, och_60, jint, jbit, jchr, ijI, ijR, ijD, ijF, ↓reduceIte, Int.reduceEq, Int.reduceLT, reduceCtorEq, l0_bind, l0_ite, l0_none, l0_oix, l0_obt, l0_och, l0_sel, l0_oel, l0_some, f_History_marked]
end
def f_History_mark (m : jMem) : Option jMem := (f_History_marked m).bind fun x1 => oS x1 ((f_State_copyFrom m x1 1).bind fun m2 => some (m2))
section
variable {cf : jCf} {dv : UInt64}
set_option maxRecDepth 20000 in
set_option maxHeartbeats 800000 in
theorem X76 (d : Nat) (m : jMem) (k : jM) : jme jT0 jMx (d + 3) 76 [jr (jn cf + 17), jr (jn cf + 1)] (hp cf dv m, k) = lVW cf dv k (f_History_mark m) := by
  simp only [M76, E76_0, E76_1, E76_4, E76_5, E76_6, E76_9, E76_10, E76_11, E76_14, goS, X54, X75, go_17, jsh_n, jsh_I, jsh_R, jsh_II, jsh_IR, jsh_RI, jsh_RR, jsh_III, jsh_IIR, jsh_IRI, jsh_IRR, jsh_RII, jsh_RIR, jsh_RRI, jsh_RRR, jsh_IIII, jsh_IIIR, jsh_IIRI, jsh_IIRR, jsh_IRII, jsh_IRIR, jsh_IRRI, jsh_IRRR, jsh_RIII, jsh_RIIR, jsh_RIRI, jsh_RIRR, jsh_RRII, jsh_RRIR, jsh_RRRI, jsh_RRRR, jsh_IIIII, jsh_IIIIR, jsh_IIIRI, jsh_IIIRR, jsh_IIRII, jsh_IIRIR, jsh_IIRRI, jsh_IIRRR, jsh_IRIII, jsh_IRIIR, jsh_IRIRI, jsh_IRIRR, jsh_IRRII, jsh_IRRIR, jsh_IRRRI, jsh_IRRRR, jsh_RIIII, jsh_RIIIR, jsh_RIIRI, jsh_RIIRR, jsh_RIRII, jsh_RIRIR, jsh_RIRRI, jsh_RIRRR, jsh_RRIII, jsh_RRIIR, jsh_RRIRI, jsh_RRIRR, jsh_RRRII, jsh_RRRIR, jsh_RRRRI, jsh_RRRRR, jsh_D, jsh_DR, jsh_F, jsh_FR, jthr_hp, jc_l0, jc_lW, jc_lX, jc_lXW, jc_lVW, jc_lVX, jpush_n, jpush_s, obt_0, obt_1, och_0, och_32, och_100, och_115, och_104, och_33, och_43, och_60, jint, jbit, jchr, ijI, ijR, ijD, ijF, ↓reduceIte, Int.reduceEq, Int.reduceLT, reduceCtorEq, lVW_bind, lVW_ite, lVW_none, lVW_oix, lVW_obt, lVW_och, lVW_sel, lVW_oel, lVW_some, lVW_oS, f_History_mark]
end
def f_History_keep (m : jMem) : Option jMem := if (jw ((m 17 1) + 1)) < 9 then some (mset (mset m 17 1 (jw ((m 17 1) + 1))) 17 2 (if 8 < (jw (((mset m 17 1 (jw ((m 17 1) + 1))) 17 2) + 1)) then 8 else jw (((mset m 17 1 (jw ((m 17 1) + 1))) 17 2) + 1))) else some (mset (mset m 17 1 0) 17 2 (if 8 < (jw (((mset m 17 1 0) 17 2) + 1)) then 8 else jw (((mset m 17 1 0) 17 2) + 1)))
section
variable {cf : jCf} {dv : UInt64}
set_option maxRecDepth 20000 in
set_option maxHeartbeats 800000 in
theorem X77 (d : Nat) (m : jMem) (k : jM) : jme jT0 jMx (d + 1) 77 [jr (jn cf + 17)] (hp cf dv m, k) = lVW cf dv k (f_History_keep m) := by
  simp only [M77, E77_0, E77_1, E77_2, E77_5, E77_6, E77_7, E77_9, E77_12, E77_13, E77_16, E77_17, E77_18, E77_21, E77_22, E77_25, E77_26, E77_27, E77_30, E77_31, E77_32, E77_34, E77_37, E77_40, gf_17_1, gf_17_2, pf_17_1, pf_17_2, jsh_n, jsh_I, jsh_R, jsh_II, jsh_IR, jsh_RI, jsh_RR, jsh_III, jsh_IIR, jsh_IRI, jsh_IRR, jsh_RII, jsh_RIR, jsh_RRI, jsh_RRR, jsh_IIII, jsh_IIIR, jsh_IIRI, jsh_IIRR, jsh_IRII, jsh_IRIR, jsh_IRRI, jsh_IRRR, jsh_RIII, jsh_RIIR, jsh_RIRI, jsh_RIRR, jsh_RRII, jsh_RRIR, jsh_RRRI, jsh_RRRR, jsh_IIIII, jsh_IIIIR, jsh_IIIRI, jsh_IIIRR, jsh_IIRII, jsh_IIRIR, jsh_IIRRI, jsh_IIRRR, jsh_IRIII, jsh_IRIIR, jsh_IRIRI, jsh_IRIRR, jsh_IRRII, jsh_IRRIR, jsh_IRRRI, jsh_IRRRR, jsh_RIIII, jsh_RIIIR, jsh_RIIRI, jsh_RIIRR, jsh_RIRII, jsh_RIRIR, jsh_RIRRI, jsh_RIRRR, jsh_RRIII, jsh_RRIIR, jsh_RRIRI, jsh_RRIRR, jsh_RRRII, jsh_RRRIR, jsh_RRRRI, jsh_RRRRR, jsh_D, jsh_DR, jsh_F, jsh_FR, jthr_hp, jc_l0, jc_lW, jc_lX, jc_lXW, jc_lVW, jc_lVX, jpush_n, jpush_s, obt_0, obt_1, och_0, och_32, och_100, och_115, och_104, och_33, och_43, och_60, jint, jbit, jchr, ijI, ijR, ijD, ijF, ↓reduceIte, Int.reduceEq, Int.reduceLT, reduceCtorEq, lVW_bind, lVW_ite, lVW_none, lVW_oix, lVW_obt, lVW_och, lVW_sel, lVW_oel, lVW_some, f_History_keep]
end
def f_History_stepBack (m : jMem) : Option jMem := if 0 < (m 17 1) then some (mset (mset m 17 1 (jw ((m 17 1) - 1))) 17 2 (if (jw (((mset m 17 1 (jw ((m 17 1) - 1))) 17 2) - 1)) < 0 then 0 else jw (((mset m 17 1 (jw ((m 17 1) - 1))) 17 2) - 1))) else some (mset (mset m 17 1 8) 17 2 (if (jw (((mset m 17 1 8) 17 2) - 1)) < 0 then 0 else jw (((mset m 17 1 8) 17 2) - 1)))
section
variable {cf : jCf} {dv : UInt64}
set_option maxRecDepth 20000 in
set_option maxHeartbeats 800000 in
theorem X78 (d : Nat) (m : jMem) (k : jM) : jme jT0 jMx (d + 1) 78 [jr (jn cf + 17)] (hp cf dv m, k) = lVW cf dv k (f_History_stepBack m) := by
  simp only [M78, E78_0, E78_1, E78_2, E78_5, E78_8, E78_9, E78_12, E78_13, E78_14, E78_17, E78_19, E78_22, E78_23, E78_24, E78_27, E78_28, E78_29, E78_30, E78_33, E78_36, gf_17_1, gf_17_2, pf_17_1, pf_17_2, jsh_n, jsh_I, jsh_R, jsh_II, jsh_IR, jsh_RI, jsh_RR, jsh_III, jsh_IIR, jsh_IRI, jsh_IRR, jsh_RII, jsh_RIR, jsh_RRI, jsh_RRR, jsh_IIII, jsh_IIIR, jsh_IIRI, jsh_IIRR, jsh_IRII, jsh_IRIR, jsh_IRRI, jsh_IRRR, jsh_RIII, jsh_RIIR, jsh_RIRI, jsh_RIRR, jsh_RRII, jsh_RRIR, jsh_RRRI, jsh_RRRR, jsh_IIIII, jsh_IIIIR, jsh_IIIRI, jsh_IIIRR, jsh_IIRII, jsh_IIRIR, jsh_IIRRI, jsh_IIRRR, jsh_IRIII, jsh_IRIIR, jsh_IRIRI, jsh_IRIRR, jsh_IRRII, jsh_IRRIR, jsh_IRRRI, jsh_IRRRR, jsh_RIIII, jsh_RIIIR, jsh_RIIRI, jsh_RIIRR, jsh_RIRII, jsh_RIRIR, jsh_RIRRI, jsh_RIRRR, jsh_RRIII, jsh_RRIIR, jsh_RRIRI, jsh_RRIRR, jsh_RRRII, jsh_RRRIR, jsh_RRRRI, jsh_RRRRR, jsh_D, jsh_DR, jsh_F, jsh_FR, jthr_hp, jc_l0, jc_lW, jc_lX, jc_lXW, jc_lVW, jc_lVX, jpush_n, jpush_s, obt_0, obt_1, och_0, och_32, och_100, och_115, och_104, och_33, och_43, och_60, jint, jbit, jchr, ijI, ijR, ijD, ijF, ↓reduceIte, Int.reduceEq, Int.reduceLT, reduceCtorEq, lVW_bind, lVW_ite, lVW_none, lVW_oix, lVW_obt, lVW_och, lVW_sel, lVW_oel, lVW_some, f_History_stepBack]
end
def f_History_clear (m : jMem) : Option jMem := some (mset m 17 2 0)
section
variable {cf : jCf} {dv : UInt64}
set_option maxRecDepth 20000 in
set_option maxHeartbeats 800000 in
theorem X79 (d : Nat) (m : jMem) (k : jM) : jme jT0 jMx (d + 1) 79 [jr (jn cf + 17)] (hp cf dv m, k) = lVW cf dv k (f_History_clear m) := by
  simp only [M79, E79_0, E79_1, E79_2, E79_5, pf_17_2, jsh_n, jsh_I, jsh_R, jsh_II, jsh_IR, jsh_RI, jsh_RR, jsh_III, jsh_IIR, jsh_IRI, jsh_IRR, jsh_RII, jsh_RIR, jsh_RRI, jsh_RRR, jsh_IIII, jsh_IIIR, jsh_IIRI, jsh_IIRR, jsh_IRII, jsh_IRIR, jsh_IRRI, jsh_IRRR, jsh_RIII, jsh_RIIR, jsh_RIRI, jsh_RIRR, jsh_RRII, jsh_RRIR, jsh_RRRI, jsh_RRRR, jsh_IIIII, jsh_IIIIR, jsh_IIIRI, jsh_IIIRR, jsh_IIRII, jsh_IIRIR, jsh_IIRRI, jsh_IIRRR, jsh_IRIII, jsh_IRIIR, jsh_IRIRI, jsh_IRIRR, jsh_IRRII, jsh_IRRIR, jsh_IRRRI, jsh_IRRRR, jsh_RIIII, jsh_RIIIR, jsh_RIIRI, jsh_RIIRR, jsh_RIRII, jsh_RIRIR, jsh_RIRRI, jsh_RIRRR, jsh_RRIII, jsh_RRIIR, jsh_RRIRI, jsh_RRIRR, jsh_RRRII, jsh_RRRIR, jsh_RRRRI, jsh_RRRRR, jsh_D, jsh_DR, jsh_F, jsh_FR, jthr_hp, jc_l0, jc_lW, jc_lX, jc_lXW, jc_lVW, jc_lVX, jpush_n, jpush_s, obt_0, obt_1, och_0, och_32, och_100, och_115, och_104, och_33, och_43, och_60, jint, jbit, jchr, ijI, ijR, ijD, ijF, ↓reduceIte, Int.reduceEq, Int.reduceLT, reduceCtorEq, lVW_bind, lVW_ite, lVW_none, lVW_oix, lVW_obt, lVW_och, lVW_sel, lVW_oel, lVW_some, f_History_clear]
end

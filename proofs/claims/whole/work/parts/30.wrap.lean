/-! ===== the wrappers of the law ===== -/
section
variable (cl : Nat → List jV → jH → jR) (bk : Nat → jL → List jV → jH → jR) (n : Nat)
theorem E288_0 (a : Nat) (st : List jV) (l0 l2 : Option jV) (w : jH) : jblk jT0 288 cl bk (n + 1) 0 [l0, some (jr a), l2] st w = jblk jT0 288 cl bk n 1 [l0, some (jr a), l2] (jr a :: st) w := Eq.trans rfl rfl
theorem E288_1 (st : List jV) (l0 l1 l2 : Option jV) (w : jH) : jblk jT0 288 cl bk (n + 1) 1 [l0, l1, l2] st w = jblk jT0 288 cl bk n 2 [l0, l1, l2] (.inl 0 :: st) w := Eq.trans rfl rfl
theorem E288_2 (a : Nat) (st : List jV) (l1 l2 : Option jV) (w : jH) : jblk jT0 288 cl bk (n + 1) 2 [some (jr a), l1, l2] st w = jblk jT0 288 cl bk n 3 [some (jr a), l1, l2] (jr a :: st) w := Eq.trans rfl rfl
theorem E288_3 (a : Nat) (st : List jV) (l0 l1 l2 : Option jV) (w : jH) : jblk jT0 288 cl bk (n + 2) 3 [l0, l1, l2] (jr a :: st) w = jsh st (jgo w a 6 fun _ => jcl (cl 102 [jr a] w) (fun v w' => jblk jT0 288 cl bk (n + 1) 6 [l0, l1, l2] (jpush v st) w') (fun E w' => if E = "java/lang/UnsupportedOperationException" then jblk jT0 288 cl bk (n + 1) 12 [l0, l1, none] [] w' else none)) := by
  refine congrArg (jsh st) (congrArg (jgo w a _) (funext fun _ => congrArg (jcl _ _) (funext fun E => funext fun w' => ?_)))
  show (match jhx _ E with | some (h, k) => _ | none => _) = _
  unfold jhx
  by_cases h0 : E = "java/lang/UnsupportedOperationException"
  · rw [if_pos h0, if_pos h0]
    rfl
  rw [if_neg h0, if_neg h0]
  rfl
theorem E288_6 (x : Int) (st : List jV) (l0 l1 l2 : Option jV) (w : jH) : jblk jT0 288 cl bk (n + 1) 6 [l0, l1, l2] (.inl x :: st) w = jblk jT0 288 cl bk n 7 [l0, l1, l2] (.inr (.inl x) :: st) w := Eq.trans rfl rfl
theorem E288_7 (x : Int) (y : Int) (a : Nat) (st : List jV) (l0 l1 l2 : Option jV) (w : jH) : jblk jT0 288 cl bk (n + 1) 7 [l0, l1, l2] (.inr (.inl y) :: .inl x :: jr a :: st) w = jal w a x y fun w' => jblk jT0 288 cl bk n 8 [l0, l1, l2] st w' := Eq.trans rfl rfl
theorem E288_8 (st : List jV) (l0 l1 l2 : Option jV) (w : jH) : jblk jT0 288 cl bk (n + 1) 8 [l0, l1, l2] st w = jblk jT0 288 cl bk n 14 [l0, l1, l2] st w := Eq.trans rfl rfl
theorem E288_12 (st : List jV) (l0 l1 l2 : Option jV) (w : jH) : jblk jT0 288 cl bk (n + 1) 12 [l0, l1, l2] st w = jblk jT0 288 cl bk n 13 [l0, l1, l2] (.inl 1 :: st) w := Eq.trans rfl rfl
theorem E288_13 (x : Int) (l0 l1 l2 : Option jV) (w : jH) : jblk jT0 288 cl bk (n + 1) 13 [l0, l1, l2] [.inl x] w = if jfits .int x = true then some (.inl (some (.inl x)), w) else none := Eq.trans rfl rfl
theorem E288_14 (st : List jV) (l0 l1 l2 : Option jV) (w : jH) : jblk jT0 288 cl bk (n + 1) 14 [l0, l1, l2] st w = jblk jT0 288 cl bk n 15 [l0, l1, l2] (.inl 0 :: st) w := Eq.trans rfl rfl
theorem E288_15 (x : Int) (l0 l1 l2 : Option jV) (w : jH) : jblk jT0 288 cl bk (n + 1) 15 [l0, l1, l2] [.inl x] w = if jfits .int x = true then some (.inl (some (.inl x)), w) else none := Eq.trans rfl rfl
theorem E289_0 (a : Nat) (st : List jV) (l0 l1 l3 : Option jV) (w : jH) : jblk jT0 289 cl bk (n + 1) 0 [l0, l1, some (jr a), l3] st w = jblk jT0 289 cl bk n 1 [l0, l1, some (jr a), l3] (jr a :: st) w := Eq.trans rfl rfl
theorem E289_1 (st : List jV) (l0 l1 l2 l3 : Option jV) (w : jH) : jblk jT0 289 cl bk (n + 1) 1 [l0, l1, l2, l3] st w = jblk jT0 289 cl bk n 2 [l0, l1, l2, l3] (.inl 0 :: st) w := Eq.trans rfl rfl
theorem E289_2 (a : Nat) (st : List jV) (l1 l2 l3 : Option jV) (w : jH) : jblk jT0 289 cl bk (n + 1) 2 [some (jr a), l1, l2, l3] st w = jblk jT0 289 cl bk n 3 [some (jr a), l1, l2, l3] (jr a :: st) w := Eq.trans rfl rfl
theorem E289_3 (x : Int) (st : List jV) (l0 l2 l3 : Option jV) (w : jH) : jblk jT0 289 cl bk (n + 1) 3 [l0, some (.inl x), l2, l3] st w = jblk jT0 289 cl bk n 4 [l0, some (.inl x), l2, l3] (.inl x :: st) w := Eq.trans rfl rfl
theorem E289_4 (a : Nat) (v0 : jV) (st : List jV) (l0 l1 l2 l3 : Option jV) (w : jH) : jblk jT0 289 cl bk (n + 2) 4 [l0, l1, l2, l3] (v0 :: jr a :: st) w = jsh st (jgo w a 6 fun _ => jcl (cl 103 [jr a, v0] w) (fun v w' => jblk jT0 289 cl bk (n + 1) 7 [l0, l1, l2, l3] (jpush v st) w') (fun E w' => if E = "java/lang/IndexOutOfBoundsException" then jblk jT0 289 cl bk (n + 1) 13 [l0, l1, l2, none] [] w' else if E = "java/lang/UnsupportedOperationException" then jblk jT0 289 cl bk (n + 1) 16 [l0, l1, l2, none] [] w' else none)) := by
  refine congrArg (jsh st) (congrArg (jgo w a _) (funext fun _ => congrArg (jcl _ _) (funext fun E => funext fun w' => ?_)))
  show (match jhx _ E with | some (h, k) => _ | none => _) = _
  unfold jhx
  by_cases h0 : E = "java/lang/IndexOutOfBoundsException"
  · rw [if_pos h0, if_pos h0]
    rfl
  rw [if_neg h0, if_neg h0]
  unfold jhx
  by_cases h1 : E = "java/lang/UnsupportedOperationException"
  · rw [if_pos h1, if_pos h1]
    rfl
  rw [if_neg h1, if_neg h1]
  rfl
theorem E289_7 (x : Int) (st : List jV) (l0 l1 l2 l3 : Option jV) (w : jH) : jblk jT0 289 cl bk (n + 1) 7 [l0, l1, l2, l3] (.inl x :: st) w = jblk jT0 289 cl bk n 8 [l0, l1, l2, l3] (.inr (.inl x) :: st) w := Eq.trans rfl rfl
theorem E289_8 (x : Int) (y : Int) (a : Nat) (st : List jV) (l0 l1 l2 l3 : Option jV) (w : jH) : jblk jT0 289 cl bk (n + 1) 8 [l0, l1, l2, l3] (.inr (.inl y) :: .inl x :: jr a :: st) w = jal w a x y fun w' => jblk jT0 289 cl bk n 9 [l0, l1, l2, l3] st w' := Eq.trans rfl rfl
theorem E289_9 (st : List jV) (l0 l1 l2 l3 : Option jV) (w : jH) : jblk jT0 289 cl bk (n + 1) 9 [l0, l1, l2, l3] st w = jblk jT0 289 cl bk n 18 [l0, l1, l2, l3] st w := Eq.trans rfl rfl
theorem E289_13 (st : List jV) (l0 l1 l2 l3 : Option jV) (w : jH) : jblk jT0 289 cl bk (n + 1) 13 [l0, l1, l2, l3] st w = jblk jT0 289 cl bk n 14 [l0, l1, l2, l3] (.inl 1 :: st) w := Eq.trans rfl rfl
theorem E289_14 (x : Int) (l0 l1 l2 l3 : Option jV) (w : jH) : jblk jT0 289 cl bk (n + 1) 14 [l0, l1, l2, l3] [.inl x] w = if jfits .int x = true then some (.inl (some (.inl x)), w) else none := Eq.trans rfl rfl
theorem E289_16 (st : List jV) (l0 l1 l2 l3 : Option jV) (w : jH) : jblk jT0 289 cl bk (n + 1) 16 [l0, l1, l2, l3] st w = jblk jT0 289 cl bk n 17 [l0, l1, l2, l3] (.inl 2 :: st) w := Eq.trans rfl rfl
theorem E289_17 (x : Int) (l0 l1 l2 l3 : Option jV) (w : jH) : jblk jT0 289 cl bk (n + 1) 17 [l0, l1, l2, l3] [.inl x] w = if jfits .int x = true then some (.inl (some (.inl x)), w) else none := Eq.trans rfl rfl
theorem E289_18 (st : List jV) (l0 l1 l2 l3 : Option jV) (w : jH) : jblk jT0 289 cl bk (n + 1) 18 [l0, l1, l2, l3] st w = jblk jT0 289 cl bk n 19 [l0, l1, l2, l3] (.inl 0 :: st) w := Eq.trans rfl rfl
theorem E289_19 (x : Int) (l0 l1 l2 l3 : Option jV) (w : jH) : jblk jT0 289 cl bk (n + 1) 19 [l0, l1, l2, l3] [.inl x] w = if jfits .int x = true then some (.inl (some (.inl x)), w) else none := Eq.trans rfl rfl
theorem E290_0 (a : Nat) (st : List jV) (l0 l1 l3 : Option jV) (w : jH) : jblk jT0 290 cl bk (n + 1) 0 [l0, l1, some (jr a), l3] st w = jblk jT0 290 cl bk n 1 [l0, l1, some (jr a), l3] (jr a :: st) w := Eq.trans rfl rfl
theorem E290_1 (st : List jV) (l0 l1 l2 l3 : Option jV) (w : jH) : jblk jT0 290 cl bk (n + 1) 1 [l0, l1, l2, l3] st w = jblk jT0 290 cl bk n 2 [l0, l1, l2, l3] (.inl 0 :: st) w := Eq.trans rfl rfl
theorem E290_2 (a : Nat) (st : List jV) (l1 l2 l3 : Option jV) (w : jH) : jblk jT0 290 cl bk (n + 1) 2 [some (jr a), l1, l2, l3] st w = jblk jT0 290 cl bk n 3 [some (jr a), l1, l2, l3] (jr a :: st) w := Eq.trans rfl rfl
theorem E290_3 (x : Int) (st : List jV) (l0 l2 l3 : Option jV) (w : jH) : jblk jT0 290 cl bk (n + 1) 3 [l0, some (.inl x), l2, l3] st w = jblk jT0 290 cl bk n 4 [l0, some (.inl x), l2, l3] (.inl x :: st) w := Eq.trans rfl rfl
theorem E290_4 (a : Nat) (v0 : jV) (st : List jV) (l0 l1 l2 l3 : Option jV) (w : jH) : jblk jT0 290 cl bk (n + 2) 4 [l0, l1, l2, l3] (v0 :: jr a :: st) w = jsh st (jgo w a 6 fun _ => jcl (cl 104 [jr a, v0] w) (fun v w' => jblk jT0 290 cl bk (n + 1) 7 [l0, l1, l2, l3] (jpush v st) w') (fun E w' => if E = "java/lang/IndexOutOfBoundsException" then jblk jT0 290 cl bk (n + 1) 13 [l0, l1, l2, none] [] w' else if E = "java/lang/UnsupportedOperationException" then jblk jT0 290 cl bk (n + 1) 16 [l0, l1, l2, none] [] w' else none)) := by
  refine congrArg (jsh st) (congrArg (jgo w a _) (funext fun _ => congrArg (jcl _ _) (funext fun E => funext fun w' => ?_)))
  show (match jhx _ E with | some (h, k) => _ | none => _) = _
  unfold jhx
  by_cases h0 : E = "java/lang/IndexOutOfBoundsException"
  · rw [if_pos h0, if_pos h0]
    rfl
  rw [if_neg h0, if_neg h0]
  unfold jhx
  by_cases h1 : E = "java/lang/UnsupportedOperationException"
  · rw [if_pos h1, if_pos h1]
    rfl
  rw [if_neg h1, if_neg h1]
  rfl
theorem E290_7 (x : Int) (st : List jV) (l0 l1 l2 l3 : Option jV) (w : jH) : jblk jT0 290 cl bk (n + 1) 7 [l0, l1, l2, l3] (.inl x :: st) w = jblk jT0 290 cl bk n 8 [l0, l1, l2, l3] (.inr (.inl x) :: st) w := Eq.trans rfl rfl
theorem E290_8 (x : Int) (y : Int) (a : Nat) (st : List jV) (l0 l1 l2 l3 : Option jV) (w : jH) : jblk jT0 290 cl bk (n + 1) 8 [l0, l1, l2, l3] (.inr (.inl y) :: .inl x :: jr a :: st) w = jal w a x y fun w' => jblk jT0 290 cl bk n 9 [l0, l1, l2, l3] st w' := Eq.trans rfl rfl
theorem E290_9 (st : List jV) (l0 l1 l2 l3 : Option jV) (w : jH) : jblk jT0 290 cl bk (n + 1) 9 [l0, l1, l2, l3] st w = jblk jT0 290 cl bk n 18 [l0, l1, l2, l3] st w := Eq.trans rfl rfl
theorem E290_13 (st : List jV) (l0 l1 l2 l3 : Option jV) (w : jH) : jblk jT0 290 cl bk (n + 1) 13 [l0, l1, l2, l3] st w = jblk jT0 290 cl bk n 14 [l0, l1, l2, l3] (.inl 1 :: st) w := Eq.trans rfl rfl
theorem E290_14 (x : Int) (l0 l1 l2 l3 : Option jV) (w : jH) : jblk jT0 290 cl bk (n + 1) 14 [l0, l1, l2, l3] [.inl x] w = if jfits .int x = true then some (.inl (some (.inl x)), w) else none := Eq.trans rfl rfl
theorem E290_16 (st : List jV) (l0 l1 l2 l3 : Option jV) (w : jH) : jblk jT0 290 cl bk (n + 1) 16 [l0, l1, l2, l3] st w = jblk jT0 290 cl bk n 17 [l0, l1, l2, l3] (.inl 2 :: st) w := Eq.trans rfl rfl
theorem E290_17 (x : Int) (l0 l1 l2 l3 : Option jV) (w : jH) : jblk jT0 290 cl bk (n + 1) 17 [l0, l1, l2, l3] [.inl x] w = if jfits .int x = true then some (.inl (some (.inl x)), w) else none := Eq.trans rfl rfl
theorem E290_18 (st : List jV) (l0 l1 l2 l3 : Option jV) (w : jH) : jblk jT0 290 cl bk (n + 1) 18 [l0, l1, l2, l3] st w = jblk jT0 290 cl bk n 19 [l0, l1, l2, l3] (.inl 0 :: st) w := Eq.trans rfl rfl
theorem E290_19 (x : Int) (l0 l1 l2 l3 : Option jV) (w : jH) : jblk jT0 290 cl bk (n + 1) 19 [l0, l1, l2, l3] [.inl x] w = if jfits .int x = true then some (.inl (some (.inl x)), w) else none := Eq.trans rfl rfl
theorem E291_0 (a : Nat) (st : List jV) (l0 l1 l3 : Option jV) (w : jH) : jblk jT0 291 cl bk (n + 1) 0 [l0, l1, some (jr a), l3] st w = jblk jT0 291 cl bk n 1 [l0, l1, some (jr a), l3] (jr a :: st) w := Eq.trans rfl rfl
theorem E291_1 (st : List jV) (l0 l1 l2 l3 : Option jV) (w : jH) : jblk jT0 291 cl bk (n + 1) 1 [l0, l1, l2, l3] st w = jblk jT0 291 cl bk n 2 [l0, l1, l2, l3] (.inl 0 :: st) w := Eq.trans rfl rfl
theorem E291_2 (a : Nat) (st : List jV) (l1 l2 l3 : Option jV) (w : jH) : jblk jT0 291 cl bk (n + 1) 2 [some (jr a), l1, l2, l3] st w = jblk jT0 291 cl bk n 3 [some (jr a), l1, l2, l3] (jr a :: st) w := Eq.trans rfl rfl
theorem E291_3 (x : Int) (st : List jV) (l0 l2 l3 : Option jV) (w : jH) : jblk jT0 291 cl bk (n + 1) 3 [l0, some (.inl x), l2, l3] st w = jblk jT0 291 cl bk n 4 [l0, some (.inl x), l2, l3] (.inl x :: st) w := Eq.trans rfl rfl
theorem E291_4 (a : Nat) (v0 : jV) (st : List jV) (l0 l1 l2 l3 : Option jV) (w : jH) : jblk jT0 291 cl bk (n + 2) 4 [l0, l1, l2, l3] (v0 :: jr a :: st) w = jsh st (jgo w a 6 fun _ => jcl (cl 107 [jr a, v0] w) (fun v w' => jblk jT0 291 cl bk (n + 1) 7 [l0, l1, l2, l3] (jpush v st) w') (fun E w' => if E = "java/lang/IndexOutOfBoundsException" then jblk jT0 291 cl bk (n + 1) 20 [l0, l1, l2, none] [] w' else none)) := by
  refine congrArg (jsh st) (congrArg (jgo w a _) (funext fun _ => congrArg (jcl _ _) (funext fun E => funext fun w' => ?_)))
  show (match jhx _ E with | some (h, k) => _ | none => _) = _
  unfold jhx
  by_cases h0 : E = "java/lang/IndexOutOfBoundsException"
  · rw [if_pos h0, if_pos h0]
    rfl
  rw [if_neg h0, if_neg h0]
  rfl
theorem E291_7 (x : Int) (st : List jV) (l0 l1 l2 l3 : Option jV) (w : jH) : jblk jT0 291 cl bk (n + 1) 7 [l0, l1, l2, l3] (.inl x :: st) w = if x = 0 then jblk jT0 291 cl bk n 14 [l0, l1, l2, l3] st w else jblk jT0 291 cl bk n 10 [l0, l1, l2, l3] st w := Eq.trans rfl rfl
theorem E291_10 (st : List jV) (l0 l1 l2 l3 : Option jV) (w : jH) : jblk jT0 291 cl bk (n + 1) 10 [l0, l1, l2, l3] st w = jblk jT0 291 cl bk n 11 [l0, l1, l2, l3] (.inr (.inl 1) :: st) w := Eq.trans rfl rfl
theorem E291_11 (st : List jV) (l0 l1 l2 l3 : Option jV) (w : jH) : jblk jT0 291 cl bk (n + 1) 11 [l0, l1, l2, l3] st w = jblk jT0 291 cl bk n 15 [l0, l1, l2, l3] st w := Eq.trans rfl rfl
theorem E291_14 (st : List jV) (l0 l1 l2 l3 : Option jV) (w : jH) : jblk jT0 291 cl bk (n + 1) 14 [l0, l1, l2, l3] st w = jblk jT0 291 cl bk n 15 [l0, l1, l2, l3] (.inr (.inl 0) :: st) w := Eq.trans rfl rfl
theorem E291_15 (x : Int) (y : Int) (a : Nat) (st : List jV) (l0 l1 l2 l3 : Option jV) (w : jH) : jblk jT0 291 cl bk (n + 1) 15 [l0, l1, l2, l3] (.inr (.inl y) :: .inl x :: jr a :: st) w = jal w a x y fun w' => jblk jT0 291 cl bk n 16 [l0, l1, l2, l3] st w' := Eq.trans rfl rfl
theorem E291_16 (st : List jV) (l0 l1 l2 l3 : Option jV) (w : jH) : jblk jT0 291 cl bk (n + 1) 16 [l0, l1, l2, l3] st w = jblk jT0 291 cl bk n 22 [l0, l1, l2, l3] st w := Eq.trans rfl rfl
theorem E291_20 (st : List jV) (l0 l1 l2 l3 : Option jV) (w : jH) : jblk jT0 291 cl bk (n + 1) 20 [l0, l1, l2, l3] st w = jblk jT0 291 cl bk n 21 [l0, l1, l2, l3] (.inl 1 :: st) w := Eq.trans rfl rfl
theorem E291_21 (x : Int) (l0 l1 l2 l3 : Option jV) (w : jH) : jblk jT0 291 cl bk (n + 1) 21 [l0, l1, l2, l3] [.inl x] w = if jfits .int x = true then some (.inl (some (.inl x)), w) else none := Eq.trans rfl rfl
theorem E291_22 (st : List jV) (l0 l1 l2 l3 : Option jV) (w : jH) : jblk jT0 291 cl bk (n + 1) 22 [l0, l1, l2, l3] st w = jblk jT0 291 cl bk n 23 [l0, l1, l2, l3] (.inl 0 :: st) w := Eq.trans rfl rfl
theorem E291_23 (x : Int) (l0 l1 l2 l3 : Option jV) (w : jH) : jblk jT0 291 cl bk (n + 1) 23 [l0, l1, l2, l3] [.inl x] w = if jfits .int x = true then some (.inl (some (.inl x)), w) else none := Eq.trans rfl rfl
theorem E292_0 (a : Nat) (st : List jV) (l0 l1 l3 : Option jV) (w : jH) : jblk jT0 292 cl bk (n + 1) 0 [l0, l1, some (jr a), l3] st w = jblk jT0 292 cl bk n 1 [l0, l1, some (jr a), l3] (jr a :: st) w := Eq.trans rfl rfl
theorem E292_1 (st : List jV) (l0 l1 l2 l3 : Option jV) (w : jH) : jblk jT0 292 cl bk (n + 1) 1 [l0, l1, l2, l3] st w = jblk jT0 292 cl bk n 2 [l0, l1, l2, l3] (.inl 0 :: st) w := Eq.trans rfl rfl
theorem E292_2 (a : Nat) (st : List jV) (l1 l2 l3 : Option jV) (w : jH) : jblk jT0 292 cl bk (n + 1) 2 [some (jr a), l1, l2, l3] st w = jblk jT0 292 cl bk n 3 [some (jr a), l1, l2, l3] (jr a :: st) w := Eq.trans rfl rfl
theorem E292_3 (x : Int) (st : List jV) (l0 l2 l3 : Option jV) (w : jH) : jblk jT0 292 cl bk (n + 1) 3 [l0, some (.inl x), l2, l3] st w = jblk jT0 292 cl bk n 4 [l0, some (.inl x), l2, l3] (.inl x :: st) w := Eq.trans rfl rfl
theorem E292_4 (a : Nat) (v0 : jV) (st : List jV) (l0 l1 l2 l3 : Option jV) (w : jH) : jblk jT0 292 cl bk (n + 2) 4 [l0, l1, l2, l3] (v0 :: jr a :: st) w = jsh st (jgo w a 6 fun _ => jcl (cl 108 [jr a, v0] w) (fun v w' => jblk jT0 292 cl bk (n + 1) 7 [l0, l1, l2, l3] (jpush v st) w') (fun E w' => if E = "java/lang/IndexOutOfBoundsException" then jblk jT0 292 cl bk (n + 1) 20 [l0, l1, l2, none] [] w' else none)) := by
  refine congrArg (jsh st) (congrArg (jgo w a _) (funext fun _ => congrArg (jcl _ _) (funext fun E => funext fun w' => ?_)))
  show (match jhx _ E with | some (h, k) => _ | none => _) = _
  unfold jhx
  by_cases h0 : E = "java/lang/IndexOutOfBoundsException"
  · rw [if_pos h0, if_pos h0]
    rfl
  rw [if_neg h0, if_neg h0]
  rfl
theorem E292_7 (x : Int) (st : List jV) (l0 l1 l2 l3 : Option jV) (w : jH) : jblk jT0 292 cl bk (n + 1) 7 [l0, l1, l2, l3] (.inl x :: st) w = if x = 0 then jblk jT0 292 cl bk n 14 [l0, l1, l2, l3] st w else jblk jT0 292 cl bk n 10 [l0, l1, l2, l3] st w := Eq.trans rfl rfl
theorem E292_10 (st : List jV) (l0 l1 l2 l3 : Option jV) (w : jH) : jblk jT0 292 cl bk (n + 1) 10 [l0, l1, l2, l3] st w = jblk jT0 292 cl bk n 11 [l0, l1, l2, l3] (.inr (.inl 1) :: st) w := Eq.trans rfl rfl
theorem E292_11 (st : List jV) (l0 l1 l2 l3 : Option jV) (w : jH) : jblk jT0 292 cl bk (n + 1) 11 [l0, l1, l2, l3] st w = jblk jT0 292 cl bk n 15 [l0, l1, l2, l3] st w := Eq.trans rfl rfl
theorem E292_14 (st : List jV) (l0 l1 l2 l3 : Option jV) (w : jH) : jblk jT0 292 cl bk (n + 1) 14 [l0, l1, l2, l3] st w = jblk jT0 292 cl bk n 15 [l0, l1, l2, l3] (.inr (.inl 0) :: st) w := Eq.trans rfl rfl
theorem E292_15 (x : Int) (y : Int) (a : Nat) (st : List jV) (l0 l1 l2 l3 : Option jV) (w : jH) : jblk jT0 292 cl bk (n + 1) 15 [l0, l1, l2, l3] (.inr (.inl y) :: .inl x :: jr a :: st) w = jal w a x y fun w' => jblk jT0 292 cl bk n 16 [l0, l1, l2, l3] st w' := Eq.trans rfl rfl
theorem E292_16 (st : List jV) (l0 l1 l2 l3 : Option jV) (w : jH) : jblk jT0 292 cl bk (n + 1) 16 [l0, l1, l2, l3] st w = jblk jT0 292 cl bk n 22 [l0, l1, l2, l3] st w := Eq.trans rfl rfl
theorem E292_20 (st : List jV) (l0 l1 l2 l3 : Option jV) (w : jH) : jblk jT0 292 cl bk (n + 1) 20 [l0, l1, l2, l3] st w = jblk jT0 292 cl bk n 21 [l0, l1, l2, l3] (.inl 1 :: st) w := Eq.trans rfl rfl
theorem E292_21 (x : Int) (l0 l1 l2 l3 : Option jV) (w : jH) : jblk jT0 292 cl bk (n + 1) 21 [l0, l1, l2, l3] [.inl x] w = if jfits .int x = true then some (.inl (some (.inl x)), w) else none := Eq.trans rfl rfl
theorem E292_22 (st : List jV) (l0 l1 l2 l3 : Option jV) (w : jH) : jblk jT0 292 cl bk (n + 1) 22 [l0, l1, l2, l3] st w = jblk jT0 292 cl bk n 23 [l0, l1, l2, l3] (.inl 0 :: st) w := Eq.trans rfl rfl
theorem E292_23 (x : Int) (l0 l1 l2 l3 : Option jV) (w : jH) : jblk jT0 292 cl bk (n + 1) 23 [l0, l1, l2, l3] [.inl x] w = if jfits .int x = true then some (.inl (some (.inl x)), w) else none := Eq.trans rfl rfl
theorem E293_0 (a : Nat) (st : List jV) (l0 l1 l3 : Option jV) (w : jH) : jblk jT0 293 cl bk (n + 1) 0 [l0, l1, some (jr a), l3] st w = jblk jT0 293 cl bk n 1 [l0, l1, some (jr a), l3] (jr a :: st) w := Eq.trans rfl rfl
theorem E293_1 (st : List jV) (l0 l1 l2 l3 : Option jV) (w : jH) : jblk jT0 293 cl bk (n + 1) 1 [l0, l1, l2, l3] st w = jblk jT0 293 cl bk n 2 [l0, l1, l2, l3] (.inl 0 :: st) w := Eq.trans rfl rfl
theorem E293_2 (a : Nat) (st : List jV) (l1 l2 l3 : Option jV) (w : jH) : jblk jT0 293 cl bk (n + 1) 2 [some (jr a), l1, l2, l3] st w = jblk jT0 293 cl bk n 3 [some (jr a), l1, l2, l3] (jr a :: st) w := Eq.trans rfl rfl
theorem E293_3 (x : Int) (st : List jV) (l0 l2 l3 : Option jV) (w : jH) : jblk jT0 293 cl bk (n + 1) 3 [l0, some (.inl x), l2, l3] st w = jblk jT0 293 cl bk n 4 [l0, some (.inl x), l2, l3] (.inl x :: st) w := Eq.trans rfl rfl
theorem E293_4 (a : Nat) (v0 : jV) (st : List jV) (l0 l1 l2 l3 : Option jV) (w : jH) : jblk jT0 293 cl bk (n + 2) 4 [l0, l1, l2, l3] (v0 :: jr a :: st) w = jsh st (jgo w a 6 fun _ => jcl (cl 109 [jr a, v0] w) (fun v w' => jblk jT0 293 cl bk (n + 1) 7 [l0, l1, l2, l3] (jpush v st) w') (fun E w' => if E = "java/lang/IndexOutOfBoundsException" then jblk jT0 293 cl bk (n + 1) 13 [l0, l1, l2, none] [] w' else if E = "java/util/NoSuchElementException" then jblk jT0 293 cl bk (n + 1) 16 [l0, l1, l2, none] [] w' else none)) := by
  refine congrArg (jsh st) (congrArg (jgo w a _) (funext fun _ => congrArg (jcl _ _) (funext fun E => funext fun w' => ?_)))
  show (match jhx _ E with | some (h, k) => _ | none => _) = _
  unfold jhx
  by_cases h0 : E = "java/lang/IndexOutOfBoundsException"
  · rw [if_pos h0, if_pos h0]
    rfl
  rw [if_neg h0, if_neg h0]
  unfold jhx
  by_cases h1 : E = "java/util/NoSuchElementException"
  · rw [if_pos h1, if_pos h1]
    rfl
  rw [if_neg h1, if_neg h1]
  rfl
theorem E293_7 (x : Int) (st : List jV) (l0 l1 l2 l3 : Option jV) (w : jH) : jblk jT0 293 cl bk (n + 1) 7 [l0, l1, l2, l3] (.inl x :: st) w = jblk jT0 293 cl bk n 8 [l0, l1, l2, l3] (.inr (.inl x) :: st) w := Eq.trans rfl rfl
theorem E293_8 (x : Int) (y : Int) (a : Nat) (st : List jV) (l0 l1 l2 l3 : Option jV) (w : jH) : jblk jT0 293 cl bk (n + 1) 8 [l0, l1, l2, l3] (.inr (.inl y) :: .inl x :: jr a :: st) w = jal w a x y fun w' => jblk jT0 293 cl bk n 9 [l0, l1, l2, l3] st w' := Eq.trans rfl rfl
theorem E293_9 (st : List jV) (l0 l1 l2 l3 : Option jV) (w : jH) : jblk jT0 293 cl bk (n + 1) 9 [l0, l1, l2, l3] st w = jblk jT0 293 cl bk n 18 [l0, l1, l2, l3] st w := Eq.trans rfl rfl
theorem E293_13 (st : List jV) (l0 l1 l2 l3 : Option jV) (w : jH) : jblk jT0 293 cl bk (n + 1) 13 [l0, l1, l2, l3] st w = jblk jT0 293 cl bk n 14 [l0, l1, l2, l3] (.inl 1 :: st) w := Eq.trans rfl rfl
theorem E293_14 (x : Int) (l0 l1 l2 l3 : Option jV) (w : jH) : jblk jT0 293 cl bk (n + 1) 14 [l0, l1, l2, l3] [.inl x] w = if jfits .int x = true then some (.inl (some (.inl x)), w) else none := Eq.trans rfl rfl
theorem E293_16 (st : List jV) (l0 l1 l2 l3 : Option jV) (w : jH) : jblk jT0 293 cl bk (n + 1) 16 [l0, l1, l2, l3] st w = jblk jT0 293 cl bk n 17 [l0, l1, l2, l3] (.inl 2 :: st) w := Eq.trans rfl rfl
theorem E293_17 (x : Int) (l0 l1 l2 l3 : Option jV) (w : jH) : jblk jT0 293 cl bk (n + 1) 17 [l0, l1, l2, l3] [.inl x] w = if jfits .int x = true then some (.inl (some (.inl x)), w) else none := Eq.trans rfl rfl
theorem E293_18 (st : List jV) (l0 l1 l2 l3 : Option jV) (w : jH) : jblk jT0 293 cl bk (n + 1) 18 [l0, l1, l2, l3] st w = jblk jT0 293 cl bk n 19 [l0, l1, l2, l3] (.inl 0 :: st) w := Eq.trans rfl rfl
theorem E293_19 (x : Int) (l0 l1 l2 l3 : Option jV) (w : jH) : jblk jT0 293 cl bk (n + 1) 19 [l0, l1, l2, l3] [.inl x] w = if jfits .int x = true then some (.inl (some (.inl x)), w) else none := Eq.trans rfl rfl
theorem E294_0 (a : Nat) (st : List jV) (l0 l1 l3 : Option jV) (w : jH) : jblk jT0 294 cl bk (n + 1) 0 [l0, l1, some (jr a), l3] st w = jblk jT0 294 cl bk n 1 [l0, l1, some (jr a), l3] (jr a :: st) w := Eq.trans rfl rfl
theorem E294_1 (st : List jV) (l0 l1 l2 l3 : Option jV) (w : jH) : jblk jT0 294 cl bk (n + 1) 1 [l0, l1, l2, l3] st w = jblk jT0 294 cl bk n 2 [l0, l1, l2, l3] (.inl 0 :: st) w := Eq.trans rfl rfl
theorem E294_2 (a : Nat) (st : List jV) (l1 l2 l3 : Option jV) (w : jH) : jblk jT0 294 cl bk (n + 1) 2 [some (jr a), l1, l2, l3] st w = jblk jT0 294 cl bk n 3 [some (jr a), l1, l2, l3] (jr a :: st) w := Eq.trans rfl rfl
theorem E294_3 (x : Int) (st : List jV) (l0 l2 l3 : Option jV) (w : jH) : jblk jT0 294 cl bk (n + 1) 3 [l0, some (.inl x), l2, l3] st w = jblk jT0 294 cl bk n 4 [l0, some (.inl x), l2, l3] (.inl x :: st) w := Eq.trans rfl rfl
theorem E294_4 (a : Nat) (v0 : jV) (st : List jV) (l0 l1 l2 l3 : Option jV) (w : jH) : jblk jT0 294 cl bk (n + 2) 4 [l0, l1, l2, l3] (v0 :: jr a :: st) w = jsh st (jgo w a 6 fun _ => jcl (cl 110 [jr a, v0] w) (fun v w' => jblk jT0 294 cl bk (n + 1) 7 [l0, l1, l2, l3] (jpush v st) w') (fun E w' => if E = "java/lang/IndexOutOfBoundsException" then jblk jT0 294 cl bk (n + 1) 13 [l0, l1, l2, none] [] w' else none)) := by
  refine congrArg (jsh st) (congrArg (jgo w a _) (funext fun _ => congrArg (jcl _ _) (funext fun E => funext fun w' => ?_)))
  show (match jhx _ E with | some (h, k) => _ | none => _) = _
  unfold jhx
  by_cases h0 : E = "java/lang/IndexOutOfBoundsException"
  · rw [if_pos h0, if_pos h0]
    rfl
  rw [if_neg h0, if_neg h0]
  rfl
theorem E294_7 (x : Int) (st : List jV) (l0 l1 l2 l3 : Option jV) (w : jH) : jblk jT0 294 cl bk (n + 1) 7 [l0, l1, l2, l3] (.inl x :: st) w = jblk jT0 294 cl bk n 8 [l0, l1, l2, l3] (.inr (.inl x) :: st) w := Eq.trans rfl rfl
theorem E294_8 (x : Int) (y : Int) (a : Nat) (st : List jV) (l0 l1 l2 l3 : Option jV) (w : jH) : jblk jT0 294 cl bk (n + 1) 8 [l0, l1, l2, l3] (.inr (.inl y) :: .inl x :: jr a :: st) w = jal w a x y fun w' => jblk jT0 294 cl bk n 9 [l0, l1, l2, l3] st w' := Eq.trans rfl rfl
theorem E294_9 (st : List jV) (l0 l1 l2 l3 : Option jV) (w : jH) : jblk jT0 294 cl bk (n + 1) 9 [l0, l1, l2, l3] st w = jblk jT0 294 cl bk n 15 [l0, l1, l2, l3] st w := Eq.trans rfl rfl
theorem E294_13 (st : List jV) (l0 l1 l2 l3 : Option jV) (w : jH) : jblk jT0 294 cl bk (n + 1) 13 [l0, l1, l2, l3] st w = jblk jT0 294 cl bk n 14 [l0, l1, l2, l3] (.inl 1 :: st) w := Eq.trans rfl rfl
theorem E294_14 (x : Int) (l0 l1 l2 l3 : Option jV) (w : jH) : jblk jT0 294 cl bk (n + 1) 14 [l0, l1, l2, l3] [.inl x] w = if jfits .int x = true then some (.inl (some (.inl x)), w) else none := Eq.trans rfl rfl
theorem E294_15 (st : List jV) (l0 l1 l2 l3 : Option jV) (w : jH) : jblk jT0 294 cl bk (n + 1) 15 [l0, l1, l2, l3] st w = jblk jT0 294 cl bk n 16 [l0, l1, l2, l3] (.inl 0 :: st) w := Eq.trans rfl rfl
theorem E294_16 (x : Int) (l0 l1 l2 l3 : Option jV) (w : jH) : jblk jT0 294 cl bk (n + 1) 16 [l0, l1, l2, l3] [.inl x] w = if jfits .int x = true then some (.inl (some (.inl x)), w) else none := Eq.trans rfl rfl
theorem E295_0 (a : Nat) (st : List jV) (l0 l1 l2 l4 : Option jV) (w : jH) : jblk jT0 295 cl bk (n + 1) 0 [l0, l1, l2, some (jr a), l4] st w = jblk jT0 295 cl bk n 1 [l0, l1, l2, some (jr a), l4] (jr a :: st) w := Eq.trans rfl rfl
theorem E295_1 (st : List jV) (l0 l1 l2 l3 l4 : Option jV) (w : jH) : jblk jT0 295 cl bk (n + 1) 1 [l0, l1, l2, l3, l4] st w = jblk jT0 295 cl bk n 2 [l0, l1, l2, l3, l4] (.inl 0 :: st) w := Eq.trans rfl rfl
theorem E295_2 (a : Nat) (st : List jV) (l1 l2 l3 l4 : Option jV) (w : jH) : jblk jT0 295 cl bk (n + 1) 2 [some (jr a), l1, l2, l3, l4] st w = jblk jT0 295 cl bk n 3 [some (jr a), l1, l2, l3, l4] (jr a :: st) w := Eq.trans rfl rfl
theorem E295_3 (x : Int) (st : List jV) (l0 l2 l3 l4 : Option jV) (w : jH) : jblk jT0 295 cl bk (n + 1) 3 [l0, some (.inl x), l2, l3, l4] st w = jblk jT0 295 cl bk n 4 [l0, some (.inl x), l2, l3, l4] (.inl x :: st) w := Eq.trans rfl rfl
theorem E295_4 (x : Int) (st : List jV) (l0 l1 l3 l4 : Option jV) (w : jH) : jblk jT0 295 cl bk (n + 1) 4 [l0, l1, some (.inl x), l3, l4] st w = jblk jT0 295 cl bk n 5 [l0, l1, some (.inl x), l3, l4] (.inl x :: st) w := Eq.trans rfl rfl
theorem E295_5 (a : Nat) (v0 : jV) (v1 : jV) (st : List jV) (l0 l1 l2 l3 l4 : Option jV) (w : jH) : jblk jT0 295 cl bk (n + 2) 5 [l0, l1, l2, l3, l4] (v1 :: v0 :: jr a :: st) w = jsh st (jgo w a 6 fun _ => jcl (cl 111 [jr a, v0, v1] w) (fun v w' => jblk jT0 295 cl bk (n + 1) 8 [l0, l1, l2, l3, l4] (jpush v st) w') (fun E w' => if E = "java/lang/IndexOutOfBoundsException" then jblk jT0 295 cl bk (n + 1) 15 [l0, l1, l2, l3, none] [] w' else if E = "java/util/NoSuchElementException" then jblk jT0 295 cl bk (n + 1) 19 [l0, l1, l2, l3, none] [] w' else none)) := by
  refine congrArg (jsh st) (congrArg (jgo w a _) (funext fun _ => congrArg (jcl _ _) (funext fun E => funext fun w' => ?_)))
  show (match jhx _ E with | some (h, k) => _ | none => _) = _
  unfold jhx
  by_cases h0 : E = "java/lang/IndexOutOfBoundsException"
  · rw [if_pos h0, if_pos h0]
    rfl
  rw [if_neg h0, if_neg h0]
  unfold jhx
  by_cases h1 : E = "java/util/NoSuchElementException"
  · rw [if_pos h1, if_pos h1]
    rfl
  rw [if_neg h1, if_neg h1]
  rfl
theorem E295_8 (x : Int) (st : List jV) (l0 l1 l2 l3 l4 : Option jV) (w : jH) : jblk jT0 295 cl bk (n + 1) 8 [l0, l1, l2, l3, l4] (.inl x :: st) w = jblk jT0 295 cl bk n 9 [l0, l1, l2, l3, l4] (.inr (.inl x) :: st) w := Eq.trans rfl rfl
theorem E295_9 (x : Int) (y : Int) (a : Nat) (st : List jV) (l0 l1 l2 l3 l4 : Option jV) (w : jH) : jblk jT0 295 cl bk (n + 1) 9 [l0, l1, l2, l3, l4] (.inr (.inl y) :: .inl x :: jr a :: st) w = jal w a x y fun w' => jblk jT0 295 cl bk n 10 [l0, l1, l2, l3, l4] st w' := Eq.trans rfl rfl
theorem E295_10 (st : List jV) (l0 l1 l2 l3 l4 : Option jV) (w : jH) : jblk jT0 295 cl bk (n + 1) 10 [l0, l1, l2, l3, l4] st w = jblk jT0 295 cl bk n 21 [l0, l1, l2, l3, l4] st w := Eq.trans rfl rfl
theorem E295_15 (st : List jV) (l0 l1 l2 l3 l4 : Option jV) (w : jH) : jblk jT0 295 cl bk (n + 1) 15 [l0, l1, l2, l3, l4] st w = jblk jT0 295 cl bk n 16 [l0, l1, l2, l3, l4] (.inl 1 :: st) w := Eq.trans rfl rfl
theorem E295_16 (x : Int) (l0 l1 l2 l3 l4 : Option jV) (w : jH) : jblk jT0 295 cl bk (n + 1) 16 [l0, l1, l2, l3, l4] [.inl x] w = if jfits .int x = true then some (.inl (some (.inl x)), w) else none := Eq.trans rfl rfl
theorem E295_19 (st : List jV) (l0 l1 l2 l3 l4 : Option jV) (w : jH) : jblk jT0 295 cl bk (n + 1) 19 [l0, l1, l2, l3, l4] st w = jblk jT0 295 cl bk n 20 [l0, l1, l2, l3, l4] (.inl 2 :: st) w := Eq.trans rfl rfl
theorem E295_20 (x : Int) (l0 l1 l2 l3 l4 : Option jV) (w : jH) : jblk jT0 295 cl bk (n + 1) 20 [l0, l1, l2, l3, l4] [.inl x] w = if jfits .int x = true then some (.inl (some (.inl x)), w) else none := Eq.trans rfl rfl
theorem E295_21 (st : List jV) (l0 l1 l2 l3 l4 : Option jV) (w : jH) : jblk jT0 295 cl bk (n + 1) 21 [l0, l1, l2, l3, l4] st w = jblk jT0 295 cl bk n 22 [l0, l1, l2, l3, l4] (.inl 0 :: st) w := Eq.trans rfl rfl
theorem E295_22 (x : Int) (l0 l1 l2 l3 l4 : Option jV) (w : jH) : jblk jT0 295 cl bk (n + 1) 22 [l0, l1, l2, l3, l4] [.inl x] w = if jfits .int x = true then some (.inl (some (.inl x)), w) else none := Eq.trans rfl rfl
theorem E296_0 (a : Nat) (st : List jV) (l0 l1 l3 : Option jV) (w : jH) : jblk jT0 296 cl bk (n + 1) 0 [l0, l1, some (jr a), l3] st w = jblk jT0 296 cl bk n 1 [l0, l1, some (jr a), l3] (jr a :: st) w := Eq.trans rfl rfl
theorem E296_1 (st : List jV) (l0 l1 l2 l3 : Option jV) (w : jH) : jblk jT0 296 cl bk (n + 1) 1 [l0, l1, l2, l3] st w = jblk jT0 296 cl bk n 2 [l0, l1, l2, l3] (.inl 0 :: st) w := Eq.trans rfl rfl
theorem E296_2 (a : Nat) (st : List jV) (l1 l2 l3 : Option jV) (w : jH) : jblk jT0 296 cl bk (n + 1) 2 [some (jr a), l1, l2, l3] st w = jblk jT0 296 cl bk n 3 [some (jr a), l1, l2, l3] (jr a :: st) w := Eq.trans rfl rfl
theorem E296_3 (x : Int) (st : List jV) (l0 l2 l3 : Option jV) (w : jH) : jblk jT0 296 cl bk (n + 1) 3 [l0, some (.inl x), l2, l3] st w = jblk jT0 296 cl bk n 4 [l0, some (.inl x), l2, l3] (.inl x :: st) w := Eq.trans rfl rfl
theorem E296_4 (a : Nat) (v0 : jV) (st : List jV) (l0 l1 l2 l3 : Option jV) (w : jH) : jblk jT0 296 cl bk (n + 2) 4 [l0, l1, l2, l3] (v0 :: jr a :: st) w = jsh st (jgo w a 6 fun _ => jcl (cl 112 [jr a, v0] w) (fun v w' => jblk jT0 296 cl bk (n + 1) 7 [l0, l1, l2, l3] (jpush v st) w') (fun E w' => if E = "java/lang/IndexOutOfBoundsException" then jblk jT0 296 cl bk (n + 1) 13 [l0, l1, l2, none] [] w' else none)) := by
  refine congrArg (jsh st) (congrArg (jgo w a _) (funext fun _ => congrArg (jcl _ _) (funext fun E => funext fun w' => ?_)))
  show (match jhx _ E with | some (h, k) => _ | none => _) = _
  unfold jhx
  by_cases h0 : E = "java/lang/IndexOutOfBoundsException"
  · rw [if_pos h0, if_pos h0]
    rfl
  rw [if_neg h0, if_neg h0]
  rfl
theorem E296_7 (x : Int) (st : List jV) (l0 l1 l2 l3 : Option jV) (w : jH) : jblk jT0 296 cl bk (n + 1) 7 [l0, l1, l2, l3] (.inl x :: st) w = jblk jT0 296 cl bk n 8 [l0, l1, l2, l3] (.inr (.inl x) :: st) w := Eq.trans rfl rfl
theorem E296_8 (x : Int) (y : Int) (a : Nat) (st : List jV) (l0 l1 l2 l3 : Option jV) (w : jH) : jblk jT0 296 cl bk (n + 1) 8 [l0, l1, l2, l3] (.inr (.inl y) :: .inl x :: jr a :: st) w = jal w a x y fun w' => jblk jT0 296 cl bk n 9 [l0, l1, l2, l3] st w' := Eq.trans rfl rfl
theorem E296_9 (st : List jV) (l0 l1 l2 l3 : Option jV) (w : jH) : jblk jT0 296 cl bk (n + 1) 9 [l0, l1, l2, l3] st w = jblk jT0 296 cl bk n 15 [l0, l1, l2, l3] st w := Eq.trans rfl rfl
theorem E296_13 (st : List jV) (l0 l1 l2 l3 : Option jV) (w : jH) : jblk jT0 296 cl bk (n + 1) 13 [l0, l1, l2, l3] st w = jblk jT0 296 cl bk n 14 [l0, l1, l2, l3] (.inl 1 :: st) w := Eq.trans rfl rfl
theorem E296_14 (x : Int) (l0 l1 l2 l3 : Option jV) (w : jH) : jblk jT0 296 cl bk (n + 1) 14 [l0, l1, l2, l3] [.inl x] w = if jfits .int x = true then some (.inl (some (.inl x)), w) else none := Eq.trans rfl rfl
theorem E296_15 (st : List jV) (l0 l1 l2 l3 : Option jV) (w : jH) : jblk jT0 296 cl bk (n + 1) 15 [l0, l1, l2, l3] st w = jblk jT0 296 cl bk n 16 [l0, l1, l2, l3] (.inl 0 :: st) w := Eq.trans rfl rfl
theorem E296_16 (x : Int) (l0 l1 l2 l3 : Option jV) (w : jH) : jblk jT0 296 cl bk (n + 1) 16 [l0, l1, l2, l3] [.inl x] w = if jfits .int x = true then some (.inl (some (.inl x)), w) else none := Eq.trans rfl rfl
theorem E297_0 (a : Nat) (st : List jV) (l0 l1 l3 : Option jV) (w : jH) : jblk jT0 297 cl bk (n + 1) 0 [l0, l1, some (jr a), l3] st w = jblk jT0 297 cl bk n 1 [l0, l1, some (jr a), l3] (jr a :: st) w := Eq.trans rfl rfl
theorem E297_1 (st : List jV) (l0 l1 l2 l3 : Option jV) (w : jH) : jblk jT0 297 cl bk (n + 1) 1 [l0, l1, l2, l3] st w = jblk jT0 297 cl bk n 2 [l0, l1, l2, l3] (.inl 0 :: st) w := Eq.trans rfl rfl
theorem E297_2 (a : Nat) (st : List jV) (l1 l2 l3 : Option jV) (w : jH) : jblk jT0 297 cl bk (n + 1) 2 [some (jr a), l1, l2, l3] st w = jblk jT0 297 cl bk n 3 [some (jr a), l1, l2, l3] (jr a :: st) w := Eq.trans rfl rfl
theorem E297_3 (x : Int) (st : List jV) (l0 l2 l3 : Option jV) (w : jH) : jblk jT0 297 cl bk (n + 1) 3 [l0, some (.inl x), l2, l3] st w = jblk jT0 297 cl bk n 4 [l0, some (.inl x), l2, l3] (.inl x :: st) w := Eq.trans rfl rfl
theorem E297_4 (a : Nat) (v0 : jV) (st : List jV) (l0 l1 l2 l3 : Option jV) (w : jH) : jblk jT0 297 cl bk (n + 2) 4 [l0, l1, l2, l3] (v0 :: jr a :: st) w = jsh st (jgo w a 6 fun _ => jcl (cl 113 [jr a, v0] w) (fun v w' => jblk jT0 297 cl bk (n + 1) 7 [l0, l1, l2, l3] (jpush v st) w') (fun E w' => if E = "java/lang/IndexOutOfBoundsException" then jblk jT0 297 cl bk (n + 1) 13 [l0, l1, l2, none] [] w' else none)) := by
  refine congrArg (jsh st) (congrArg (jgo w a _) (funext fun _ => congrArg (jcl _ _) (funext fun E => funext fun w' => ?_)))
  show (match jhx _ E with | some (h, k) => _ | none => _) = _
  unfold jhx
  by_cases h0 : E = "java/lang/IndexOutOfBoundsException"
  · rw [if_pos h0, if_pos h0]
    rfl
  rw [if_neg h0, if_neg h0]
  rfl
theorem E297_7 (x : Int) (st : List jV) (l0 l1 l2 l3 : Option jV) (w : jH) : jblk jT0 297 cl bk (n + 1) 7 [l0, l1, l2, l3] (.inl x :: st) w = jblk jT0 297 cl bk n 8 [l0, l1, l2, l3] (.inr (.inl x) :: st) w := Eq.trans rfl rfl
theorem E297_8 (x : Int) (y : Int) (a : Nat) (st : List jV) (l0 l1 l2 l3 : Option jV) (w : jH) : jblk jT0 297 cl bk (n + 1) 8 [l0, l1, l2, l3] (.inr (.inl y) :: .inl x :: jr a :: st) w = jal w a x y fun w' => jblk jT0 297 cl bk n 9 [l0, l1, l2, l3] st w' := Eq.trans rfl rfl
theorem E297_9 (st : List jV) (l0 l1 l2 l3 : Option jV) (w : jH) : jblk jT0 297 cl bk (n + 1) 9 [l0, l1, l2, l3] st w = jblk jT0 297 cl bk n 15 [l0, l1, l2, l3] st w := Eq.trans rfl rfl
theorem E297_13 (st : List jV) (l0 l1 l2 l3 : Option jV) (w : jH) : jblk jT0 297 cl bk (n + 1) 13 [l0, l1, l2, l3] st w = jblk jT0 297 cl bk n 14 [l0, l1, l2, l3] (.inl 1 :: st) w := Eq.trans rfl rfl
theorem E297_14 (x : Int) (l0 l1 l2 l3 : Option jV) (w : jH) : jblk jT0 297 cl bk (n + 1) 14 [l0, l1, l2, l3] [.inl x] w = if jfits .int x = true then some (.inl (some (.inl x)), w) else none := Eq.trans rfl rfl
theorem E297_15 (st : List jV) (l0 l1 l2 l3 : Option jV) (w : jH) : jblk jT0 297 cl bk (n + 1) 15 [l0, l1, l2, l3] st w = jblk jT0 297 cl bk n 16 [l0, l1, l2, l3] (.inl 0 :: st) w := Eq.trans rfl rfl
theorem E297_16 (x : Int) (l0 l1 l2 l3 : Option jV) (w : jH) : jblk jT0 297 cl bk (n + 1) 16 [l0, l1, l2, l3] [.inl x] w = if jfits .int x = true then some (.inl (some (.inl x)), w) else none := Eq.trans rfl rfl
theorem E298_0 (a : Nat) (st : List jV) (l0 l1 l2 l4 : Option jV) (w : jH) : jblk jT0 298 cl bk (n + 1) 0 [l0, l1, l2, some (jr a), l4] st w = jblk jT0 298 cl bk n 1 [l0, l1, l2, some (jr a), l4] (jr a :: st) w := Eq.trans rfl rfl
theorem E298_1 (st : List jV) (l0 l1 l2 l3 l4 : Option jV) (w : jH) : jblk jT0 298 cl bk (n + 1) 1 [l0, l1, l2, l3, l4] st w = jblk jT0 298 cl bk n 2 [l0, l1, l2, l3, l4] (.inl 0 :: st) w := Eq.trans rfl rfl
theorem E298_2 (a : Nat) (st : List jV) (l1 l2 l3 l4 : Option jV) (w : jH) : jblk jT0 298 cl bk (n + 1) 2 [some (jr a), l1, l2, l3, l4] st w = jblk jT0 298 cl bk n 3 [some (jr a), l1, l2, l3, l4] (jr a :: st) w := Eq.trans rfl rfl
theorem E298_3 (x : Int) (st : List jV) (l0 l2 l3 l4 : Option jV) (w : jH) : jblk jT0 298 cl bk (n + 1) 3 [l0, some (.inl x), l2, l3, l4] st w = jblk jT0 298 cl bk n 4 [l0, some (.inl x), l2, l3, l4] (.inl x :: st) w := Eq.trans rfl rfl
theorem E298_4 (x : Int) (st : List jV) (l0 l1 l3 l4 : Option jV) (w : jH) : jblk jT0 298 cl bk (n + 1) 4 [l0, l1, some (.inl x), l3, l4] st w = jblk jT0 298 cl bk n 5 [l0, l1, some (.inl x), l3, l4] (.inl x :: st) w := Eq.trans rfl rfl
theorem E298_5 (a : Nat) (v0 : jV) (v1 : jV) (st : List jV) (l0 l1 l2 l3 l4 : Option jV) (w : jH) : jblk jT0 298 cl bk (n + 2) 5 [l0, l1, l2, l3, l4] (v1 :: v0 :: jr a :: st) w = jsh st (jgo w a 6 fun _ => jcl (cl 114 [jr a, v0, v1] w) (fun v w' => jblk jT0 298 cl bk (n + 1) 8 [l0, l1, l2, l3, l4] (jpush v st) w') (fun E w' => if E = "java/lang/IndexOutOfBoundsException" then jblk jT0 298 cl bk (n + 1) 22 [l0, l1, l2, l3, none] [] w' else none)) := by
  refine congrArg (jsh st) (congrArg (jgo w a _) (funext fun _ => congrArg (jcl _ _) (funext fun E => funext fun w' => ?_)))
  show (match jhx _ E with | some (h, k) => _ | none => _) = _
  unfold jhx
  by_cases h0 : E = "java/lang/IndexOutOfBoundsException"
  · rw [if_pos h0, if_pos h0]
    rfl
  rw [if_neg h0, if_neg h0]
  rfl
theorem E298_8 (x : Int) (st : List jV) (l0 l1 l2 l3 l4 : Option jV) (w : jH) : jblk jT0 298 cl bk (n + 1) 8 [l0, l1, l2, l3, l4] (.inl x :: st) w = if x = 0 then jblk jT0 298 cl bk n 15 [l0, l1, l2, l3, l4] st w else jblk jT0 298 cl bk n 11 [l0, l1, l2, l3, l4] st w := Eq.trans rfl rfl
theorem E298_11 (st : List jV) (l0 l1 l2 l3 l4 : Option jV) (w : jH) : jblk jT0 298 cl bk (n + 1) 11 [l0, l1, l2, l3, l4] st w = jblk jT0 298 cl bk n 12 [l0, l1, l2, l3, l4] (.inr (.inl 1) :: st) w := Eq.trans rfl rfl
theorem E298_12 (st : List jV) (l0 l1 l2 l3 l4 : Option jV) (w : jH) : jblk jT0 298 cl bk (n + 1) 12 [l0, l1, l2, l3, l4] st w = jblk jT0 298 cl bk n 16 [l0, l1, l2, l3, l4] st w := Eq.trans rfl rfl
theorem E298_15 (st : List jV) (l0 l1 l2 l3 l4 : Option jV) (w : jH) : jblk jT0 298 cl bk (n + 1) 15 [l0, l1, l2, l3, l4] st w = jblk jT0 298 cl bk n 16 [l0, l1, l2, l3, l4] (.inr (.inl 0) :: st) w := Eq.trans rfl rfl
theorem E298_16 (x : Int) (y : Int) (a : Nat) (st : List jV) (l0 l1 l2 l3 l4 : Option jV) (w : jH) : jblk jT0 298 cl bk (n + 1) 16 [l0, l1, l2, l3, l4] (.inr (.inl y) :: .inl x :: jr a :: st) w = jal w a x y fun w' => jblk jT0 298 cl bk n 17 [l0, l1, l2, l3, l4] st w' := Eq.trans rfl rfl
theorem E298_17 (st : List jV) (l0 l1 l2 l3 l4 : Option jV) (w : jH) : jblk jT0 298 cl bk (n + 1) 17 [l0, l1, l2, l3, l4] st w = jblk jT0 298 cl bk n 24 [l0, l1, l2, l3, l4] st w := Eq.trans rfl rfl
theorem E298_22 (st : List jV) (l0 l1 l2 l3 l4 : Option jV) (w : jH) : jblk jT0 298 cl bk (n + 1) 22 [l0, l1, l2, l3, l4] st w = jblk jT0 298 cl bk n 23 [l0, l1, l2, l3, l4] (.inl 1 :: st) w := Eq.trans rfl rfl
theorem E298_23 (x : Int) (l0 l1 l2 l3 l4 : Option jV) (w : jH) : jblk jT0 298 cl bk (n + 1) 23 [l0, l1, l2, l3, l4] [.inl x] w = if jfits .int x = true then some (.inl (some (.inl x)), w) else none := Eq.trans rfl rfl
theorem E298_24 (st : List jV) (l0 l1 l2 l3 l4 : Option jV) (w : jH) : jblk jT0 298 cl bk (n + 1) 24 [l0, l1, l2, l3, l4] st w = jblk jT0 298 cl bk n 25 [l0, l1, l2, l3, l4] (.inl 0 :: st) w := Eq.trans rfl rfl
theorem E298_25 (x : Int) (l0 l1 l2 l3 l4 : Option jV) (w : jH) : jblk jT0 298 cl bk (n + 1) 25 [l0, l1, l2, l3, l4] [.inl x] w = if jfits .int x = true then some (.inl (some (.inl x)), w) else none := Eq.trans rfl rfl
theorem E299_0 (a : Nat) (st : List jV) (l0 l1 l2 l4 : Option jV) (w : jH) : jblk jT0 299 cl bk (n + 1) 0 [l0, l1, l2, some (jr a), l4] st w = jblk jT0 299 cl bk n 1 [l0, l1, l2, some (jr a), l4] (jr a :: st) w := Eq.trans rfl rfl
theorem E299_1 (st : List jV) (l0 l1 l2 l3 l4 : Option jV) (w : jH) : jblk jT0 299 cl bk (n + 1) 1 [l0, l1, l2, l3, l4] st w = jblk jT0 299 cl bk n 2 [l0, l1, l2, l3, l4] (.inl 0 :: st) w := Eq.trans rfl rfl
theorem E299_2 (a : Nat) (st : List jV) (l1 l2 l3 l4 : Option jV) (w : jH) : jblk jT0 299 cl bk (n + 1) 2 [some (jr a), l1, l2, l3, l4] st w = jblk jT0 299 cl bk n 3 [some (jr a), l1, l2, l3, l4] (jr a :: st) w := Eq.trans rfl rfl
theorem E299_3 (x : Int) (st : List jV) (l0 l2 l3 l4 : Option jV) (w : jH) : jblk jT0 299 cl bk (n + 1) 3 [l0, some (.inl x), l2, l3, l4] st w = jblk jT0 299 cl bk n 4 [l0, some (.inl x), l2, l3, l4] (.inl x :: st) w := Eq.trans rfl rfl
theorem E299_4 (x : Int) (st : List jV) (l0 l1 l3 l4 : Option jV) (w : jH) : jblk jT0 299 cl bk (n + 1) 4 [l0, l1, some (.inl x), l3, l4] st w = jblk jT0 299 cl bk n 5 [l0, l1, some (.inl x), l3, l4] (.inl x :: st) w := Eq.trans rfl rfl
theorem E299_5 (a : Nat) (v0 : jV) (v1 : jV) (st : List jV) (l0 l1 l2 l3 l4 : Option jV) (w : jH) : jblk jT0 299 cl bk (n + 2) 5 [l0, l1, l2, l3, l4] (v1 :: v0 :: jr a :: st) w = jsh st (jgo w a 6 fun _ => jcl (cl 115 [jr a, v0, v1] w) (fun v w' => jblk jT0 299 cl bk (n + 1) 8 [l0, l1, l2, l3, l4] (jpush v st) w') (fun E w' => if E = "java/lang/IndexOutOfBoundsException" then jblk jT0 299 cl bk (n + 1) 15 [l0, l1, l2, l3, none] [] w' else if E = "java/util/NoSuchElementException" then jblk jT0 299 cl bk (n + 1) 19 [l0, l1, l2, l3, none] [] w' else none)) := by
  refine congrArg (jsh st) (congrArg (jgo w a _) (funext fun _ => congrArg (jcl _ _) (funext fun E => funext fun w' => ?_)))
  show (match jhx _ E with | some (h, k) => _ | none => _) = _
  unfold jhx
  by_cases h0 : E = "java/lang/IndexOutOfBoundsException"
  · rw [if_pos h0, if_pos h0]
    rfl
  rw [if_neg h0, if_neg h0]
  unfold jhx
  by_cases h1 : E = "java/util/NoSuchElementException"
  · rw [if_pos h1, if_pos h1]
    rfl
  rw [if_neg h1, if_neg h1]
  rfl
theorem E299_8 (x : Int) (st : List jV) (l0 l1 l2 l3 l4 : Option jV) (w : jH) : jblk jT0 299 cl bk (n + 1) 8 [l0, l1, l2, l3, l4] (.inl x :: st) w = jblk jT0 299 cl bk n 9 [l0, l1, l2, l3, l4] (.inr (.inl x) :: st) w := Eq.trans rfl rfl
theorem E299_9 (x : Int) (y : Int) (a : Nat) (st : List jV) (l0 l1 l2 l3 l4 : Option jV) (w : jH) : jblk jT0 299 cl bk (n + 1) 9 [l0, l1, l2, l3, l4] (.inr (.inl y) :: .inl x :: jr a :: st) w = jal w a x y fun w' => jblk jT0 299 cl bk n 10 [l0, l1, l2, l3, l4] st w' := Eq.trans rfl rfl
theorem E299_10 (st : List jV) (l0 l1 l2 l3 l4 : Option jV) (w : jH) : jblk jT0 299 cl bk (n + 1) 10 [l0, l1, l2, l3, l4] st w = jblk jT0 299 cl bk n 21 [l0, l1, l2, l3, l4] st w := Eq.trans rfl rfl
theorem E299_15 (st : List jV) (l0 l1 l2 l3 l4 : Option jV) (w : jH) : jblk jT0 299 cl bk (n + 1) 15 [l0, l1, l2, l3, l4] st w = jblk jT0 299 cl bk n 16 [l0, l1, l2, l3, l4] (.inl 1 :: st) w := Eq.trans rfl rfl
theorem E299_16 (x : Int) (l0 l1 l2 l3 l4 : Option jV) (w : jH) : jblk jT0 299 cl bk (n + 1) 16 [l0, l1, l2, l3, l4] [.inl x] w = if jfits .int x = true then some (.inl (some (.inl x)), w) else none := Eq.trans rfl rfl
theorem E299_19 (st : List jV) (l0 l1 l2 l3 l4 : Option jV) (w : jH) : jblk jT0 299 cl bk (n + 1) 19 [l0, l1, l2, l3, l4] st w = jblk jT0 299 cl bk n 20 [l0, l1, l2, l3, l4] (.inl 2 :: st) w := Eq.trans rfl rfl
theorem E299_20 (x : Int) (l0 l1 l2 l3 l4 : Option jV) (w : jH) : jblk jT0 299 cl bk (n + 1) 20 [l0, l1, l2, l3, l4] [.inl x] w = if jfits .int x = true then some (.inl (some (.inl x)), w) else none := Eq.trans rfl rfl
theorem E299_21 (st : List jV) (l0 l1 l2 l3 l4 : Option jV) (w : jH) : jblk jT0 299 cl bk (n + 1) 21 [l0, l1, l2, l3, l4] st w = jblk jT0 299 cl bk n 22 [l0, l1, l2, l3, l4] (.inl 0 :: st) w := Eq.trans rfl rfl
theorem E299_22 (x : Int) (l0 l1 l2 l3 l4 : Option jV) (w : jH) : jblk jT0 299 cl bk (n + 1) 22 [l0, l1, l2, l3, l4] [.inl x] w = if jfits .int x = true then some (.inl (some (.inl x)), w) else none := Eq.trans rfl rfl
theorem E300_0 (a : Nat) (st : List jV) (l0 l1 l2 l4 : Option jV) (w : jH) : jblk jT0 300 cl bk (n + 1) 0 [l0, l1, l2, some (jr a), l4] st w = jblk jT0 300 cl bk n 1 [l0, l1, l2, some (jr a), l4] (jr a :: st) w := Eq.trans rfl rfl
theorem E300_1 (st : List jV) (l0 l1 l2 l3 l4 : Option jV) (w : jH) : jblk jT0 300 cl bk (n + 1) 1 [l0, l1, l2, l3, l4] st w = jblk jT0 300 cl bk n 2 [l0, l1, l2, l3, l4] (.inl 0 :: st) w := Eq.trans rfl rfl
theorem E300_2 (a : Nat) (st : List jV) (l1 l2 l3 l4 : Option jV) (w : jH) : jblk jT0 300 cl bk (n + 1) 2 [some (jr a), l1, l2, l3, l4] st w = jblk jT0 300 cl bk n 3 [some (jr a), l1, l2, l3, l4] (jr a :: st) w := Eq.trans rfl rfl
theorem E300_3 (x : Int) (st : List jV) (l0 l2 l3 l4 : Option jV) (w : jH) : jblk jT0 300 cl bk (n + 1) 3 [l0, some (.inl x), l2, l3, l4] st w = jblk jT0 300 cl bk n 4 [l0, some (.inl x), l2, l3, l4] (.inl x :: st) w := Eq.trans rfl rfl
theorem E300_4 (x : Int) (st : List jV) (l0 l1 l3 l4 : Option jV) (w : jH) : jblk jT0 300 cl bk (n + 1) 4 [l0, l1, some (.inl x), l3, l4] st w = jblk jT0 300 cl bk n 5 [l0, l1, some (.inl x), l3, l4] (.inl x :: st) w := Eq.trans rfl rfl
theorem E300_5 (a : Nat) (v0 : jV) (v1 : jV) (st : List jV) (l0 l1 l2 l3 l4 : Option jV) (w : jH) : jblk jT0 300 cl bk (n + 2) 5 [l0, l1, l2, l3, l4] (v1 :: v0 :: jr a :: st) w = jsh st (jgo w a 6 fun _ => jcl (cl 116 [jr a, v0, v1] w) (fun v w' => jblk jT0 300 cl bk (n + 1) 8 [l0, l1, l2, l3, l4] (jpush v st) w') (fun E w' => if E = "java/lang/IndexOutOfBoundsException" then jblk jT0 300 cl bk (n + 1) 15 [l0, l1, l2, l3, none] [] w' else if E = "java/util/NoSuchElementException" then jblk jT0 300 cl bk (n + 1) 19 [l0, l1, l2, l3, none] [] w' else none)) := by
  refine congrArg (jsh st) (congrArg (jgo w a _) (funext fun _ => congrArg (jcl _ _) (funext fun E => funext fun w' => ?_)))
  show (match jhx _ E with | some (h, k) => _ | none => _) = _
  unfold jhx
  by_cases h0 : E = "java/lang/IndexOutOfBoundsException"
  · rw [if_pos h0, if_pos h0]
    rfl
  rw [if_neg h0, if_neg h0]
  unfold jhx
  by_cases h1 : E = "java/util/NoSuchElementException"
  · rw [if_pos h1, if_pos h1]
    rfl
  rw [if_neg h1, if_neg h1]
  rfl
theorem E300_8 (x : Int) (st : List jV) (l0 l1 l2 l3 l4 : Option jV) (w : jH) : jblk jT0 300 cl bk (n + 1) 8 [l0, l1, l2, l3, l4] (.inl x :: st) w = jblk jT0 300 cl bk n 9 [l0, l1, l2, l3, l4] (.inr (.inl x) :: st) w := Eq.trans rfl rfl
theorem E300_9 (x : Int) (y : Int) (a : Nat) (st : List jV) (l0 l1 l2 l3 l4 : Option jV) (w : jH) : jblk jT0 300 cl bk (n + 1) 9 [l0, l1, l2, l3, l4] (.inr (.inl y) :: .inl x :: jr a :: st) w = jal w a x y fun w' => jblk jT0 300 cl bk n 10 [l0, l1, l2, l3, l4] st w' := Eq.trans rfl rfl
theorem E300_10 (st : List jV) (l0 l1 l2 l3 l4 : Option jV) (w : jH) : jblk jT0 300 cl bk (n + 1) 10 [l0, l1, l2, l3, l4] st w = jblk jT0 300 cl bk n 21 [l0, l1, l2, l3, l4] st w := Eq.trans rfl rfl
theorem E300_15 (st : List jV) (l0 l1 l2 l3 l4 : Option jV) (w : jH) : jblk jT0 300 cl bk (n + 1) 15 [l0, l1, l2, l3, l4] st w = jblk jT0 300 cl bk n 16 [l0, l1, l2, l3, l4] (.inl 1 :: st) w := Eq.trans rfl rfl
theorem E300_16 (x : Int) (l0 l1 l2 l3 l4 : Option jV) (w : jH) : jblk jT0 300 cl bk (n + 1) 16 [l0, l1, l2, l3, l4] [.inl x] w = if jfits .int x = true then some (.inl (some (.inl x)), w) else none := Eq.trans rfl rfl
theorem E300_19 (st : List jV) (l0 l1 l2 l3 l4 : Option jV) (w : jH) : jblk jT0 300 cl bk (n + 1) 19 [l0, l1, l2, l3, l4] st w = jblk jT0 300 cl bk n 20 [l0, l1, l2, l3, l4] (.inl 2 :: st) w := Eq.trans rfl rfl
theorem E300_20 (x : Int) (l0 l1 l2 l3 l4 : Option jV) (w : jH) : jblk jT0 300 cl bk (n + 1) 20 [l0, l1, l2, l3, l4] [.inl x] w = if jfits .int x = true then some (.inl (some (.inl x)), w) else none := Eq.trans rfl rfl
theorem E300_21 (st : List jV) (l0 l1 l2 l3 l4 : Option jV) (w : jH) : jblk jT0 300 cl bk (n + 1) 21 [l0, l1, l2, l3, l4] st w = jblk jT0 300 cl bk n 22 [l0, l1, l2, l3, l4] (.inl 0 :: st) w := Eq.trans rfl rfl
theorem E300_22 (x : Int) (l0 l1 l2 l3 l4 : Option jV) (w : jH) : jblk jT0 300 cl bk (n + 1) 22 [l0, l1, l2, l3, l4] [.inl x] w = if jfits .int x = true then some (.inl (some (.inl x)), w) else none := Eq.trans rfl rfl
theorem E301_0 (a : Nat) (st : List jV) (l0 l1 l2 l4 : Option jV) (w : jH) : jblk jT0 301 cl bk (n + 1) 0 [l0, l1, l2, some (jr a), l4] st w = jblk jT0 301 cl bk n 1 [l0, l1, l2, some (jr a), l4] (jr a :: st) w := Eq.trans rfl rfl
theorem E301_1 (st : List jV) (l0 l1 l2 l3 l4 : Option jV) (w : jH) : jblk jT0 301 cl bk (n + 1) 1 [l0, l1, l2, l3, l4] st w = jblk jT0 301 cl bk n 2 [l0, l1, l2, l3, l4] (.inl 0 :: st) w := Eq.trans rfl rfl
theorem E301_2 (a : Nat) (st : List jV) (l1 l2 l3 l4 : Option jV) (w : jH) : jblk jT0 301 cl bk (n + 1) 2 [some (jr a), l1, l2, l3, l4] st w = jblk jT0 301 cl bk n 3 [some (jr a), l1, l2, l3, l4] (jr a :: st) w := Eq.trans rfl rfl
theorem E301_3 (x : Int) (st : List jV) (l0 l2 l3 l4 : Option jV) (w : jH) : jblk jT0 301 cl bk (n + 1) 3 [l0, some (.inl x), l2, l3, l4] st w = jblk jT0 301 cl bk n 4 [l0, some (.inl x), l2, l3, l4] (.inl x :: st) w := Eq.trans rfl rfl
theorem E301_4 (x : Int) (st : List jV) (l0 l1 l3 l4 : Option jV) (w : jH) : jblk jT0 301 cl bk (n + 1) 4 [l0, l1, some (.inl x), l3, l4] st w = jblk jT0 301 cl bk n 5 [l0, l1, some (.inl x), l3, l4] (.inl x :: st) w := Eq.trans rfl rfl
theorem E301_5 (a : Nat) (v0 : jV) (v1 : jV) (st : List jV) (l0 l1 l2 l3 l4 : Option jV) (w : jH) : jblk jT0 301 cl bk (n + 2) 5 [l0, l1, l2, l3, l4] (v1 :: v0 :: jr a :: st) w = jsh st (jgo w a 6 fun _ => jcl (cl 117 [jr a, v0, v1] w) (fun v w' => jblk jT0 301 cl bk (n + 1) 8 [l0, l1, l2, l3, l4] (jpush v st) w') (fun E w' => if E = "java/lang/IndexOutOfBoundsException" then jblk jT0 301 cl bk (n + 1) 15 [l0, l1, l2, l3, none] [] w' else if E = "java/util/NoSuchElementException" then jblk jT0 301 cl bk (n + 1) 19 [l0, l1, l2, l3, none] [] w' else none)) := by
  refine congrArg (jsh st) (congrArg (jgo w a _) (funext fun _ => congrArg (jcl _ _) (funext fun E => funext fun w' => ?_)))
  show (match jhx _ E with | some (h, k) => _ | none => _) = _
  unfold jhx
  by_cases h0 : E = "java/lang/IndexOutOfBoundsException"
  · rw [if_pos h0, if_pos h0]
    rfl
  rw [if_neg h0, if_neg h0]
  unfold jhx
  by_cases h1 : E = "java/util/NoSuchElementException"
  · rw [if_pos h1, if_pos h1]
    rfl
  rw [if_neg h1, if_neg h1]
  rfl
theorem E301_8 (x : Int) (st : List jV) (l0 l1 l2 l3 l4 : Option jV) (w : jH) : jblk jT0 301 cl bk (n + 1) 8 [l0, l1, l2, l3, l4] (.inl x :: st) w = jblk jT0 301 cl bk n 9 [l0, l1, l2, l3, l4] (.inr (.inl x) :: st) w := Eq.trans rfl rfl
theorem E301_9 (x : Int) (y : Int) (a : Nat) (st : List jV) (l0 l1 l2 l3 l4 : Option jV) (w : jH) : jblk jT0 301 cl bk (n + 1) 9 [l0, l1, l2, l3, l4] (.inr (.inl y) :: .inl x :: jr a :: st) w = jal w a x y fun w' => jblk jT0 301 cl bk n 10 [l0, l1, l2, l3, l4] st w' := Eq.trans rfl rfl
theorem E301_10 (st : List jV) (l0 l1 l2 l3 l4 : Option jV) (w : jH) : jblk jT0 301 cl bk (n + 1) 10 [l0, l1, l2, l3, l4] st w = jblk jT0 301 cl bk n 21 [l0, l1, l2, l3, l4] st w := Eq.trans rfl rfl
theorem E301_15 (st : List jV) (l0 l1 l2 l3 l4 : Option jV) (w : jH) : jblk jT0 301 cl bk (n + 1) 15 [l0, l1, l2, l3, l4] st w = jblk jT0 301 cl bk n 16 [l0, l1, l2, l3, l4] (.inl 1 :: st) w := Eq.trans rfl rfl
theorem E301_16 (x : Int) (l0 l1 l2 l3 l4 : Option jV) (w : jH) : jblk jT0 301 cl bk (n + 1) 16 [l0, l1, l2, l3, l4] [.inl x] w = if jfits .int x = true then some (.inl (some (.inl x)), w) else none := Eq.trans rfl rfl
theorem E301_19 (st : List jV) (l0 l1 l2 l3 l4 : Option jV) (w : jH) : jblk jT0 301 cl bk (n + 1) 19 [l0, l1, l2, l3, l4] st w = jblk jT0 301 cl bk n 20 [l0, l1, l2, l3, l4] (.inl 2 :: st) w := Eq.trans rfl rfl
theorem E301_20 (x : Int) (l0 l1 l2 l3 l4 : Option jV) (w : jH) : jblk jT0 301 cl bk (n + 1) 20 [l0, l1, l2, l3, l4] [.inl x] w = if jfits .int x = true then some (.inl (some (.inl x)), w) else none := Eq.trans rfl rfl
theorem E301_21 (st : List jV) (l0 l1 l2 l3 l4 : Option jV) (w : jH) : jblk jT0 301 cl bk (n + 1) 21 [l0, l1, l2, l3, l4] st w = jblk jT0 301 cl bk n 22 [l0, l1, l2, l3, l4] (.inl 0 :: st) w := Eq.trans rfl rfl
theorem E301_22 (x : Int) (l0 l1 l2 l3 l4 : Option jV) (w : jH) : jblk jT0 301 cl bk (n + 1) 22 [l0, l1, l2, l3, l4] [.inl x] w = if jfits .int x = true then some (.inl (some (.inl x)), w) else none := Eq.trans rfl rfl
theorem E302_0 (a : Nat) (st : List jV) (l0 l1 l3 : Option jV) (w : jH) : jblk jT0 302 cl bk (n + 1) 0 [l0, l1, some (jr a), l3] st w = jblk jT0 302 cl bk n 1 [l0, l1, some (jr a), l3] (jr a :: st) w := Eq.trans rfl rfl
theorem E302_1 (st : List jV) (l0 l1 l2 l3 : Option jV) (w : jH) : jblk jT0 302 cl bk (n + 1) 1 [l0, l1, l2, l3] st w = jblk jT0 302 cl bk n 2 [l0, l1, l2, l3] (.inl 0 :: st) w := Eq.trans rfl rfl
theorem E302_2 (a : Nat) (st : List jV) (l1 l2 l3 : Option jV) (w : jH) : jblk jT0 302 cl bk (n + 1) 2 [some (jr a), l1, l2, l3] st w = jblk jT0 302 cl bk n 3 [some (jr a), l1, l2, l3] (jr a :: st) w := Eq.trans rfl rfl
theorem E302_3 (x : Int) (st : List jV) (l0 l2 l3 : Option jV) (w : jH) : jblk jT0 302 cl bk (n + 1) 3 [l0, some (.inl x), l2, l3] st w = jblk jT0 302 cl bk n 4 [l0, some (.inl x), l2, l3] (.inl x :: st) w := Eq.trans rfl rfl
theorem E302_4 (a : Nat) (v0 : jV) (st : List jV) (l0 l1 l2 l3 : Option jV) (w : jH) : jblk jT0 302 cl bk (n + 2) 4 [l0, l1, l2, l3] (v0 :: jr a :: st) w = jsh st (jgo w a 6 fun _ => jcl (cl 118 [jr a, v0] w) (fun v w' => jblk jT0 302 cl bk (n + 1) 7 [l0, l1, l2, l3] (jpush v st) w') (fun E w' => if E = "java/lang/IndexOutOfBoundsException" then jblk jT0 302 cl bk (n + 1) 13 [l0, l1, l2, none] [] w' else if E = "java/util/NoSuchElementException" then jblk jT0 302 cl bk (n + 1) 16 [l0, l1, l2, none] [] w' else none)) := by
  refine congrArg (jsh st) (congrArg (jgo w a _) (funext fun _ => congrArg (jcl _ _) (funext fun E => funext fun w' => ?_)))
  show (match jhx _ E with | some (h, k) => _ | none => _) = _
  unfold jhx
  by_cases h0 : E = "java/lang/IndexOutOfBoundsException"
  · rw [if_pos h0, if_pos h0]
    rfl
  rw [if_neg h0, if_neg h0]
  unfold jhx
  by_cases h1 : E = "java/util/NoSuchElementException"
  · rw [if_pos h1, if_pos h1]
    rfl
  rw [if_neg h1, if_neg h1]
  rfl
theorem E302_7 (x : Int) (st : List jV) (l0 l1 l2 l3 : Option jV) (w : jH) : jblk jT0 302 cl bk (n + 1) 7 [l0, l1, l2, l3] (.inl x :: st) w = jblk jT0 302 cl bk n 8 [l0, l1, l2, l3] (.inr (.inl x) :: st) w := Eq.trans rfl rfl
theorem E302_8 (x : Int) (y : Int) (a : Nat) (st : List jV) (l0 l1 l2 l3 : Option jV) (w : jH) : jblk jT0 302 cl bk (n + 1) 8 [l0, l1, l2, l3] (.inr (.inl y) :: .inl x :: jr a :: st) w = jal w a x y fun w' => jblk jT0 302 cl bk n 9 [l0, l1, l2, l3] st w' := Eq.trans rfl rfl
theorem E302_9 (st : List jV) (l0 l1 l2 l3 : Option jV) (w : jH) : jblk jT0 302 cl bk (n + 1) 9 [l0, l1, l2, l3] st w = jblk jT0 302 cl bk n 18 [l0, l1, l2, l3] st w := Eq.trans rfl rfl
theorem E302_13 (st : List jV) (l0 l1 l2 l3 : Option jV) (w : jH) : jblk jT0 302 cl bk (n + 1) 13 [l0, l1, l2, l3] st w = jblk jT0 302 cl bk n 14 [l0, l1, l2, l3] (.inl 1 :: st) w := Eq.trans rfl rfl
theorem E302_14 (x : Int) (l0 l1 l2 l3 : Option jV) (w : jH) : jblk jT0 302 cl bk (n + 1) 14 [l0, l1, l2, l3] [.inl x] w = if jfits .int x = true then some (.inl (some (.inl x)), w) else none := Eq.trans rfl rfl
theorem E302_16 (st : List jV) (l0 l1 l2 l3 : Option jV) (w : jH) : jblk jT0 302 cl bk (n + 1) 16 [l0, l1, l2, l3] st w = jblk jT0 302 cl bk n 17 [l0, l1, l2, l3] (.inl 2 :: st) w := Eq.trans rfl rfl
theorem E302_17 (x : Int) (l0 l1 l2 l3 : Option jV) (w : jH) : jblk jT0 302 cl bk (n + 1) 17 [l0, l1, l2, l3] [.inl x] w = if jfits .int x = true then some (.inl (some (.inl x)), w) else none := Eq.trans rfl rfl
theorem E302_18 (st : List jV) (l0 l1 l2 l3 : Option jV) (w : jH) : jblk jT0 302 cl bk (n + 1) 18 [l0, l1, l2, l3] st w = jblk jT0 302 cl bk n 19 [l0, l1, l2, l3] (.inl 0 :: st) w := Eq.trans rfl rfl
theorem E302_19 (x : Int) (l0 l1 l2 l3 : Option jV) (w : jH) : jblk jT0 302 cl bk (n + 1) 19 [l0, l1, l2, l3] [.inl x] w = if jfits .int x = true then some (.inl (some (.inl x)), w) else none := Eq.trans rfl rfl
theorem E303_0 (a : Nat) (st : List jV) (l0 l1 l3 : Option jV) (w : jH) : jblk jT0 303 cl bk (n + 1) 0 [l0, l1, some (jr a), l3] st w = jblk jT0 303 cl bk n 1 [l0, l1, some (jr a), l3] (jr a :: st) w := Eq.trans rfl rfl
theorem E303_1 (st : List jV) (l0 l1 l2 l3 : Option jV) (w : jH) : jblk jT0 303 cl bk (n + 1) 1 [l0, l1, l2, l3] st w = jblk jT0 303 cl bk n 2 [l0, l1, l2, l3] (.inl 0 :: st) w := Eq.trans rfl rfl
theorem E303_2 (a : Nat) (st : List jV) (l1 l2 l3 : Option jV) (w : jH) : jblk jT0 303 cl bk (n + 1) 2 [some (jr a), l1, l2, l3] st w = jblk jT0 303 cl bk n 3 [some (jr a), l1, l2, l3] (jr a :: st) w := Eq.trans rfl rfl
theorem E303_3 (x : Int) (st : List jV) (l0 l2 l3 : Option jV) (w : jH) : jblk jT0 303 cl bk (n + 1) 3 [l0, some (.inl x), l2, l3] st w = jblk jT0 303 cl bk n 4 [l0, some (.inl x), l2, l3] (.inl x :: st) w := Eq.trans rfl rfl
theorem E303_4 (a : Nat) (v0 : jV) (st : List jV) (l0 l1 l2 l3 : Option jV) (w : jH) : jblk jT0 303 cl bk (n + 2) 4 [l0, l1, l2, l3] (v0 :: jr a :: st) w = jsh st (jgo w a 6 fun _ => jcl (cl 119 [jr a, v0] w) (fun v w' => jblk jT0 303 cl bk (n + 1) 7 [l0, l1, l2, l3] (jpush v st) w') (fun E w' => if E = "java/lang/IndexOutOfBoundsException" then jblk jT0 303 cl bk (n + 1) 13 [l0, l1, l2, none] [] w' else if E = "java/util/NoSuchElementException" then jblk jT0 303 cl bk (n + 1) 16 [l0, l1, l2, none] [] w' else none)) := by
  refine congrArg (jsh st) (congrArg (jgo w a _) (funext fun _ => congrArg (jcl _ _) (funext fun E => funext fun w' => ?_)))
  show (match jhx _ E with | some (h, k) => _ | none => _) = _
  unfold jhx
  by_cases h0 : E = "java/lang/IndexOutOfBoundsException"
  · rw [if_pos h0, if_pos h0]
    rfl
  rw [if_neg h0, if_neg h0]
  unfold jhx
  by_cases h1 : E = "java/util/NoSuchElementException"
  · rw [if_pos h1, if_pos h1]
    rfl
  rw [if_neg h1, if_neg h1]
  rfl
theorem E303_7 (x : Int) (st : List jV) (l0 l1 l2 l3 : Option jV) (w : jH) : jblk jT0 303 cl bk (n + 1) 7 [l0, l1, l2, l3] (.inl x :: st) w = jblk jT0 303 cl bk n 8 [l0, l1, l2, l3] (.inr (.inl x) :: st) w := Eq.trans rfl rfl
theorem E303_8 (x : Int) (y : Int) (a : Nat) (st : List jV) (l0 l1 l2 l3 : Option jV) (w : jH) : jblk jT0 303 cl bk (n + 1) 8 [l0, l1, l2, l3] (.inr (.inl y) :: .inl x :: jr a :: st) w = jal w a x y fun w' => jblk jT0 303 cl bk n 9 [l0, l1, l2, l3] st w' := Eq.trans rfl rfl
theorem E303_9 (st : List jV) (l0 l1 l2 l3 : Option jV) (w : jH) : jblk jT0 303 cl bk (n + 1) 9 [l0, l1, l2, l3] st w = jblk jT0 303 cl bk n 18 [l0, l1, l2, l3] st w := Eq.trans rfl rfl
theorem E303_13 (st : List jV) (l0 l1 l2 l3 : Option jV) (w : jH) : jblk jT0 303 cl bk (n + 1) 13 [l0, l1, l2, l3] st w = jblk jT0 303 cl bk n 14 [l0, l1, l2, l3] (.inl 1 :: st) w := Eq.trans rfl rfl
theorem E303_14 (x : Int) (l0 l1 l2 l3 : Option jV) (w : jH) : jblk jT0 303 cl bk (n + 1) 14 [l0, l1, l2, l3] [.inl x] w = if jfits .int x = true then some (.inl (some (.inl x)), w) else none := Eq.trans rfl rfl
theorem E303_16 (st : List jV) (l0 l1 l2 l3 : Option jV) (w : jH) : jblk jT0 303 cl bk (n + 1) 16 [l0, l1, l2, l3] st w = jblk jT0 303 cl bk n 17 [l0, l1, l2, l3] (.inl 2 :: st) w := Eq.trans rfl rfl
theorem E303_17 (x : Int) (l0 l1 l2 l3 : Option jV) (w : jH) : jblk jT0 303 cl bk (n + 1) 17 [l0, l1, l2, l3] [.inl x] w = if jfits .int x = true then some (.inl (some (.inl x)), w) else none := Eq.trans rfl rfl
theorem E303_18 (st : List jV) (l0 l1 l2 l3 : Option jV) (w : jH) : jblk jT0 303 cl bk (n + 1) 18 [l0, l1, l2, l3] st w = jblk jT0 303 cl bk n 19 [l0, l1, l2, l3] (.inl 0 :: st) w := Eq.trans rfl rfl
theorem E303_19 (x : Int) (l0 l1 l2 l3 : Option jV) (w : jH) : jblk jT0 303 cl bk (n + 1) 19 [l0, l1, l2, l3] [.inl x] w = if jfits .int x = true then some (.inl (some (.inl x)), w) else none := Eq.trans rfl rfl
theorem E304_0 (a : Nat) (st : List jV) (l0 l1 l3 : Option jV) (w : jH) : jblk jT0 304 cl bk (n + 1) 0 [l0, l1, some (jr a), l3] st w = jblk jT0 304 cl bk n 1 [l0, l1, some (jr a), l3] (jr a :: st) w := Eq.trans rfl rfl
theorem E304_1 (st : List jV) (l0 l1 l2 l3 : Option jV) (w : jH) : jblk jT0 304 cl bk (n + 1) 1 [l0, l1, l2, l3] st w = jblk jT0 304 cl bk n 2 [l0, l1, l2, l3] (.inl 0 :: st) w := Eq.trans rfl rfl
theorem E304_2 (a : Nat) (st : List jV) (l1 l2 l3 : Option jV) (w : jH) : jblk jT0 304 cl bk (n + 1) 2 [some (jr a), l1, l2, l3] st w = jblk jT0 304 cl bk n 3 [some (jr a), l1, l2, l3] (jr a :: st) w := Eq.trans rfl rfl
theorem E304_3 (x : Int) (st : List jV) (l0 l2 l3 : Option jV) (w : jH) : jblk jT0 304 cl bk (n + 1) 3 [l0, some (.inl x), l2, l3] st w = jblk jT0 304 cl bk n 4 [l0, some (.inl x), l2, l3] (.inl x :: st) w := Eq.trans rfl rfl
theorem E304_4 (a : Nat) (v0 : jV) (st : List jV) (l0 l1 l2 l3 : Option jV) (w : jH) : jblk jT0 304 cl bk (n + 2) 4 [l0, l1, l2, l3] (v0 :: jr a :: st) w = jsh st (jgo w a 6 fun _ => jcl (cl 120 [jr a, v0] w) (fun v w' => jblk jT0 304 cl bk (n + 1) 7 [l0, l1, l2, l3] (jpush v st) w') (fun E w' => if E = "java/lang/IndexOutOfBoundsException" then jblk jT0 304 cl bk (n + 1) 13 [l0, l1, l2, none] [] w' else if E = "java/util/NoSuchElementException" then jblk jT0 304 cl bk (n + 1) 16 [l0, l1, l2, none] [] w' else none)) := by
  refine congrArg (jsh st) (congrArg (jgo w a _) (funext fun _ => congrArg (jcl _ _) (funext fun E => funext fun w' => ?_)))
  show (match jhx _ E with | some (h, k) => _ | none => _) = _
  unfold jhx
  by_cases h0 : E = "java/lang/IndexOutOfBoundsException"
  · rw [if_pos h0, if_pos h0]
    rfl
  rw [if_neg h0, if_neg h0]
  unfold jhx
  by_cases h1 : E = "java/util/NoSuchElementException"
  · rw [if_pos h1, if_pos h1]
    rfl
  rw [if_neg h1, if_neg h1]
  rfl
theorem E304_7 (x : Int) (st : List jV) (l0 l1 l2 l3 : Option jV) (w : jH) : jblk jT0 304 cl bk (n + 1) 7 [l0, l1, l2, l3] (.inl x :: st) w = jblk jT0 304 cl bk n 8 [l0, l1, l2, l3] (.inr (.inl x) :: st) w := Eq.trans rfl rfl
theorem E304_8 (x : Int) (y : Int) (a : Nat) (st : List jV) (l0 l1 l2 l3 : Option jV) (w : jH) : jblk jT0 304 cl bk (n + 1) 8 [l0, l1, l2, l3] (.inr (.inl y) :: .inl x :: jr a :: st) w = jal w a x y fun w' => jblk jT0 304 cl bk n 9 [l0, l1, l2, l3] st w' := Eq.trans rfl rfl
theorem E304_9 (st : List jV) (l0 l1 l2 l3 : Option jV) (w : jH) : jblk jT0 304 cl bk (n + 1) 9 [l0, l1, l2, l3] st w = jblk jT0 304 cl bk n 18 [l0, l1, l2, l3] st w := Eq.trans rfl rfl
theorem E304_13 (st : List jV) (l0 l1 l2 l3 : Option jV) (w : jH) : jblk jT0 304 cl bk (n + 1) 13 [l0, l1, l2, l3] st w = jblk jT0 304 cl bk n 14 [l0, l1, l2, l3] (.inl 1 :: st) w := Eq.trans rfl rfl
theorem E304_14 (x : Int) (l0 l1 l2 l3 : Option jV) (w : jH) : jblk jT0 304 cl bk (n + 1) 14 [l0, l1, l2, l3] [.inl x] w = if jfits .int x = true then some (.inl (some (.inl x)), w) else none := Eq.trans rfl rfl
theorem E304_16 (st : List jV) (l0 l1 l2 l3 : Option jV) (w : jH) : jblk jT0 304 cl bk (n + 1) 16 [l0, l1, l2, l3] st w = jblk jT0 304 cl bk n 17 [l0, l1, l2, l3] (.inl 2 :: st) w := Eq.trans rfl rfl
theorem E304_17 (x : Int) (l0 l1 l2 l3 : Option jV) (w : jH) : jblk jT0 304 cl bk (n + 1) 17 [l0, l1, l2, l3] [.inl x] w = if jfits .int x = true then some (.inl (some (.inl x)), w) else none := Eq.trans rfl rfl
theorem E304_18 (st : List jV) (l0 l1 l2 l3 : Option jV) (w : jH) : jblk jT0 304 cl bk (n + 1) 18 [l0, l1, l2, l3] st w = jblk jT0 304 cl bk n 19 [l0, l1, l2, l3] (.inl 0 :: st) w := Eq.trans rfl rfl
theorem E304_19 (x : Int) (l0 l1 l2 l3 : Option jV) (w : jH) : jblk jT0 304 cl bk (n + 1) 19 [l0, l1, l2, l3] [.inl x] w = if jfits .int x = true then some (.inl (some (.inl x)), w) else none := Eq.trans rfl rfl
theorem E305_0 (a : Nat) (st : List jV) (l0 l1 l3 : Option jV) (w : jH) : jblk jT0 305 cl bk (n + 1) 0 [l0, l1, some (jr a), l3] st w = jblk jT0 305 cl bk n 1 [l0, l1, some (jr a), l3] (jr a :: st) w := Eq.trans rfl rfl
theorem E305_1 (st : List jV) (l0 l1 l2 l3 : Option jV) (w : jH) : jblk jT0 305 cl bk (n + 1) 1 [l0, l1, l2, l3] st w = jblk jT0 305 cl bk n 2 [l0, l1, l2, l3] (.inl 0 :: st) w := Eq.trans rfl rfl
theorem E305_2 (a : Nat) (st : List jV) (l1 l2 l3 : Option jV) (w : jH) : jblk jT0 305 cl bk (n + 1) 2 [some (jr a), l1, l2, l3] st w = jblk jT0 305 cl bk n 3 [some (jr a), l1, l2, l3] (jr a :: st) w := Eq.trans rfl rfl
theorem E305_3 (x : Int) (st : List jV) (l0 l2 l3 : Option jV) (w : jH) : jblk jT0 305 cl bk (n + 1) 3 [l0, some (.inl x), l2, l3] st w = jblk jT0 305 cl bk n 4 [l0, some (.inl x), l2, l3] (.inl x :: st) w := Eq.trans rfl rfl
theorem E305_4 (a : Nat) (v0 : jV) (st : List jV) (l0 l1 l2 l3 : Option jV) (w : jH) : jblk jT0 305 cl bk (n + 2) 4 [l0, l1, l2, l3] (v0 :: jr a :: st) w = jsh st (jgo w a 6 fun _ => jcl (cl 121 [jr a, v0] w) (fun v w' => jblk jT0 305 cl bk (n + 1) 7 [l0, l1, l2, l3] (jpush v st) w') (fun E w' => if E = "java/lang/IndexOutOfBoundsException" then jblk jT0 305 cl bk (n + 1) 13 [l0, l1, l2, none] [] w' else none)) := by
  refine congrArg (jsh st) (congrArg (jgo w a _) (funext fun _ => congrArg (jcl _ _) (funext fun E => funext fun w' => ?_)))
  show (match jhx _ E with | some (h, k) => _ | none => _) = _
  unfold jhx
  by_cases h0 : E = "java/lang/IndexOutOfBoundsException"
  · rw [if_pos h0, if_pos h0]
    rfl
  rw [if_neg h0, if_neg h0]
  rfl
theorem E305_7 (x : Int) (st : List jV) (l0 l1 l2 l3 : Option jV) (w : jH) : jblk jT0 305 cl bk (n + 1) 7 [l0, l1, l2, l3] (.inl x :: st) w = jblk jT0 305 cl bk n 8 [l0, l1, l2, l3] (.inr (.inl x) :: st) w := Eq.trans rfl rfl
theorem E305_8 (x : Int) (y : Int) (a : Nat) (st : List jV) (l0 l1 l2 l3 : Option jV) (w : jH) : jblk jT0 305 cl bk (n + 1) 8 [l0, l1, l2, l3] (.inr (.inl y) :: .inl x :: jr a :: st) w = jal w a x y fun w' => jblk jT0 305 cl bk n 9 [l0, l1, l2, l3] st w' := Eq.trans rfl rfl
theorem E305_9 (st : List jV) (l0 l1 l2 l3 : Option jV) (w : jH) : jblk jT0 305 cl bk (n + 1) 9 [l0, l1, l2, l3] st w = jblk jT0 305 cl bk n 15 [l0, l1, l2, l3] st w := Eq.trans rfl rfl
theorem E305_13 (st : List jV) (l0 l1 l2 l3 : Option jV) (w : jH) : jblk jT0 305 cl bk (n + 1) 13 [l0, l1, l2, l3] st w = jblk jT0 305 cl bk n 14 [l0, l1, l2, l3] (.inl 1 :: st) w := Eq.trans rfl rfl
theorem E305_14 (x : Int) (l0 l1 l2 l3 : Option jV) (w : jH) : jblk jT0 305 cl bk (n + 1) 14 [l0, l1, l2, l3] [.inl x] w = if jfits .int x = true then some (.inl (some (.inl x)), w) else none := Eq.trans rfl rfl
theorem E305_15 (st : List jV) (l0 l1 l2 l3 : Option jV) (w : jH) : jblk jT0 305 cl bk (n + 1) 15 [l0, l1, l2, l3] st w = jblk jT0 305 cl bk n 16 [l0, l1, l2, l3] (.inl 0 :: st) w := Eq.trans rfl rfl
theorem E305_16 (x : Int) (l0 l1 l2 l3 : Option jV) (w : jH) : jblk jT0 305 cl bk (n + 1) 16 [l0, l1, l2, l3] [.inl x] w = if jfits .int x = true then some (.inl (some (.inl x)), w) else none := Eq.trans rfl rfl
theorem E306_0 (a : Nat) (st : List jV) (l0 l1 l2 l3 l5 : Option jV) (w : jH) : jblk jT0 306 cl bk (n + 1) 0 [l0, l1, l2, l3, some (jr a), l5] st w = jblk jT0 306 cl bk n 2 [l0, l1, l2, l3, some (jr a), l5] (jr a :: st) w := Eq.trans rfl rfl
theorem E306_2 (st : List jV) (l0 l1 l2 l3 l4 l5 : Option jV) (w : jH) : jblk jT0 306 cl bk (n + 1) 2 [l0, l1, l2, l3, l4, l5] st w = jblk jT0 306 cl bk n 3 [l0, l1, l2, l3, l4, l5] (.inl 0 :: st) w := Eq.trans rfl rfl
theorem E306_3 (a : Nat) (st : List jV) (l1 l2 l3 l4 l5 : Option jV) (w : jH) : jblk jT0 306 cl bk (n + 1) 3 [some (jr a), l1, l2, l3, l4, l5] st w = jblk jT0 306 cl bk n 4 [some (jr a), l1, l2, l3, l4, l5] (jr a :: st) w := Eq.trans rfl rfl
theorem E306_4 (x : Int) (st : List jV) (l0 l2 l3 l4 l5 : Option jV) (w : jH) : jblk jT0 306 cl bk (n + 1) 4 [l0, some (.inl x), l2, l3, l4, l5] st w = jblk jT0 306 cl bk n 5 [l0, some (.inl x), l2, l3, l4, l5] (.inl x :: st) w := Eq.trans rfl rfl
theorem E306_5 (x : Int) (st : List jV) (l0 l1 l3 l4 l5 : Option jV) (w : jH) : jblk jT0 306 cl bk (n + 1) 5 [l0, l1, some (.inl x), l3, l4, l5] st w = jblk jT0 306 cl bk n 6 [l0, l1, some (.inl x), l3, l4, l5] (.inl x :: st) w := Eq.trans rfl rfl
theorem E306_6 (x : Int) (st : List jV) (l0 l1 l2 l4 l5 : Option jV) (w : jH) : jblk jT0 306 cl bk (n + 1) 6 [l0, l1, l2, some (.inl x), l4, l5] st w = jblk jT0 306 cl bk n 7 [l0, l1, l2, some (.inl x), l4, l5] (.inl x :: st) w := Eq.trans rfl rfl
theorem E306_7 (a : Nat) (v0 : jV) (v1 : jV) (v2 : jV) (st : List jV) (l0 l1 l2 l3 l4 l5 : Option jV) (w : jH) : jblk jT0 306 cl bk (n + 2) 7 [l0, l1, l2, l3, l4, l5] (v2 :: v1 :: v0 :: jr a :: st) w = jsh st (jgo w a 6 fun _ => jcl (cl 122 [jr a, v0, v1, v2] w) (fun v w' => jblk jT0 306 cl bk (n + 1) 10 [l0, l1, l2, l3, l4, l5] (jpush v st) w') (fun E w' => if E = "java/lang/IndexOutOfBoundsException" then jblk jT0 306 cl bk (n + 1) 17 [l0, l1, l2, l3, l4, none] [] w' else if E = "java/lang/IllegalArgumentException" then jblk jT0 306 cl bk (n + 1) 21 [l0, l1, l2, l3, l4, none] [] w' else if E = "java/lang/UnsupportedOperationException" then jblk jT0 306 cl bk (n + 1) 25 [l0, l1, l2, l3, l4, none] [] w' else none)) := by
  refine congrArg (jsh st) (congrArg (jgo w a _) (funext fun _ => congrArg (jcl _ _) (funext fun E => funext fun w' => ?_)))
  show (match jhx _ E with | some (h, k) => _ | none => _) = _
  unfold jhx
  by_cases h0 : E = "java/lang/IndexOutOfBoundsException"
  · rw [if_pos h0, if_pos h0]
    rfl
  rw [if_neg h0, if_neg h0]
  unfold jhx
  by_cases h1 : E = "java/lang/IllegalArgumentException"
  · rw [if_pos h1, if_pos h1]
    rfl
  rw [if_neg h1, if_neg h1]
  unfold jhx
  by_cases h2 : E = "java/lang/UnsupportedOperationException"
  · rw [if_pos h2, if_pos h2]
    rfl
  rw [if_neg h2, if_neg h2]
  rfl
theorem E306_10 (x : Int) (st : List jV) (l0 l1 l2 l3 l4 l5 : Option jV) (w : jH) : jblk jT0 306 cl bk (n + 1) 10 [l0, l1, l2, l3, l4, l5] (.inl x :: st) w = jblk jT0 306 cl bk n 11 [l0, l1, l2, l3, l4, l5] (.inr (.inl x) :: st) w := Eq.trans rfl rfl
theorem E306_11 (x : Int) (y : Int) (a : Nat) (st : List jV) (l0 l1 l2 l3 l4 l5 : Option jV) (w : jH) : jblk jT0 306 cl bk (n + 1) 11 [l0, l1, l2, l3, l4, l5] (.inr (.inl y) :: .inl x :: jr a :: st) w = jal w a x y fun w' => jblk jT0 306 cl bk n 12 [l0, l1, l2, l3, l4, l5] st w' := Eq.trans rfl rfl
theorem E306_12 (st : List jV) (l0 l1 l2 l3 l4 l5 : Option jV) (w : jH) : jblk jT0 306 cl bk (n + 1) 12 [l0, l1, l2, l3, l4, l5] st w = jblk jT0 306 cl bk n 27 [l0, l1, l2, l3, l4, l5] st w := Eq.trans rfl rfl
theorem E306_17 (st : List jV) (l0 l1 l2 l3 l4 l5 : Option jV) (w : jH) : jblk jT0 306 cl bk (n + 1) 17 [l0, l1, l2, l3, l4, l5] st w = jblk jT0 306 cl bk n 18 [l0, l1, l2, l3, l4, l5] (.inl 1 :: st) w := Eq.trans rfl rfl
theorem E306_18 (x : Int) (l0 l1 l2 l3 l4 l5 : Option jV) (w : jH) : jblk jT0 306 cl bk (n + 1) 18 [l0, l1, l2, l3, l4, l5] [.inl x] w = if jfits .int x = true then some (.inl (some (.inl x)), w) else none := Eq.trans rfl rfl
theorem E306_21 (st : List jV) (l0 l1 l2 l3 l4 l5 : Option jV) (w : jH) : jblk jT0 306 cl bk (n + 1) 21 [l0, l1, l2, l3, l4, l5] st w = jblk jT0 306 cl bk n 22 [l0, l1, l2, l3, l4, l5] (.inl 2 :: st) w := Eq.trans rfl rfl
theorem E306_22 (x : Int) (l0 l1 l2 l3 l4 l5 : Option jV) (w : jH) : jblk jT0 306 cl bk (n + 1) 22 [l0, l1, l2, l3, l4, l5] [.inl x] w = if jfits .int x = true then some (.inl (some (.inl x)), w) else none := Eq.trans rfl rfl
theorem E306_25 (st : List jV) (l0 l1 l2 l3 l4 l5 : Option jV) (w : jH) : jblk jT0 306 cl bk (n + 1) 25 [l0, l1, l2, l3, l4, l5] st w = jblk jT0 306 cl bk n 26 [l0, l1, l2, l3, l4, l5] (.inl 3 :: st) w := Eq.trans rfl rfl
theorem E306_26 (x : Int) (l0 l1 l2 l3 l4 l5 : Option jV) (w : jH) : jblk jT0 306 cl bk (n + 1) 26 [l0, l1, l2, l3, l4, l5] [.inl x] w = if jfits .int x = true then some (.inl (some (.inl x)), w) else none := Eq.trans rfl rfl
theorem E306_27 (st : List jV) (l0 l1 l2 l3 l4 l5 : Option jV) (w : jH) : jblk jT0 306 cl bk (n + 1) 27 [l0, l1, l2, l3, l4, l5] st w = jblk jT0 306 cl bk n 28 [l0, l1, l2, l3, l4, l5] (.inl 0 :: st) w := Eq.trans rfl rfl
theorem E306_28 (x : Int) (l0 l1 l2 l3 l4 l5 : Option jV) (w : jH) : jblk jT0 306 cl bk (n + 1) 28 [l0, l1, l2, l3, l4, l5] [.inl x] w = if jfits .int x = true then some (.inl (some (.inl x)), w) else none := Eq.trans rfl rfl
theorem E307_0 (a : Nat) (st : List jV) (l0 l1 l3 : Option jV) (w : jH) : jblk jT0 307 cl bk (n + 1) 0 [l0, l1, some (jr a), l3] st w = jblk jT0 307 cl bk n 1 [l0, l1, some (jr a), l3] (jr a :: st) w := Eq.trans rfl rfl
theorem E307_1 (st : List jV) (l0 l1 l2 l3 : Option jV) (w : jH) : jblk jT0 307 cl bk (n + 1) 1 [l0, l1, l2, l3] st w = jblk jT0 307 cl bk n 2 [l0, l1, l2, l3] (.inl 0 :: st) w := Eq.trans rfl rfl
theorem E307_2 (a : Nat) (st : List jV) (l1 l2 l3 : Option jV) (w : jH) : jblk jT0 307 cl bk (n + 1) 2 [some (jr a), l1, l2, l3] st w = jblk jT0 307 cl bk n 3 [some (jr a), l1, l2, l3] (jr a :: st) w := Eq.trans rfl rfl
theorem E307_3 (x : Int) (st : List jV) (l0 l2 l3 : Option jV) (w : jH) : jblk jT0 307 cl bk (n + 1) 3 [l0, some (.inl x), l2, l3] st w = jblk jT0 307 cl bk n 4 [l0, some (.inl x), l2, l3] (.inl x :: st) w := Eq.trans rfl rfl
theorem E307_4 (a : Nat) (v0 : jV) (st : List jV) (l0 l1 l2 l3 : Option jV) (w : jH) : jblk jT0 307 cl bk (n + 2) 4 [l0, l1, l2, l3] (v0 :: jr a :: st) w = jsh st (jgo w a 6 fun _ => jcl (cl 123 [jr a, v0] w) (fun v w' => jblk jT0 307 cl bk (n + 1) 7 [l0, l1, l2, l3] (jpush v st) w') (fun E w' => if E = "java/lang/IndexOutOfBoundsException" then jblk jT0 307 cl bk (n + 1) 13 [l0, l1, l2, none] [] w' else if E = "java/lang/UnsupportedOperationException" then jblk jT0 307 cl bk (n + 1) 16 [l0, l1, l2, none] [] w' else none)) := by
  refine congrArg (jsh st) (congrArg (jgo w a _) (funext fun _ => congrArg (jcl _ _) (funext fun E => funext fun w' => ?_)))
  show (match jhx _ E with | some (h, k) => _ | none => _) = _
  unfold jhx
  by_cases h0 : E = "java/lang/IndexOutOfBoundsException"
  · rw [if_pos h0, if_pos h0]
    rfl
  rw [if_neg h0, if_neg h0]
  unfold jhx
  by_cases h1 : E = "java/lang/UnsupportedOperationException"
  · rw [if_pos h1, if_pos h1]
    rfl
  rw [if_neg h1, if_neg h1]
  rfl
theorem E307_7 (x : Int) (st : List jV) (l0 l1 l2 l3 : Option jV) (w : jH) : jblk jT0 307 cl bk (n + 1) 7 [l0, l1, l2, l3] (.inl x :: st) w = jblk jT0 307 cl bk n 8 [l0, l1, l2, l3] (.inr (.inl x) :: st) w := Eq.trans rfl rfl
theorem E307_8 (x : Int) (y : Int) (a : Nat) (st : List jV) (l0 l1 l2 l3 : Option jV) (w : jH) : jblk jT0 307 cl bk (n + 1) 8 [l0, l1, l2, l3] (.inr (.inl y) :: .inl x :: jr a :: st) w = jal w a x y fun w' => jblk jT0 307 cl bk n 9 [l0, l1, l2, l3] st w' := Eq.trans rfl rfl
theorem E307_9 (st : List jV) (l0 l1 l2 l3 : Option jV) (w : jH) : jblk jT0 307 cl bk (n + 1) 9 [l0, l1, l2, l3] st w = jblk jT0 307 cl bk n 18 [l0, l1, l2, l3] st w := Eq.trans rfl rfl
theorem E307_13 (st : List jV) (l0 l1 l2 l3 : Option jV) (w : jH) : jblk jT0 307 cl bk (n + 1) 13 [l0, l1, l2, l3] st w = jblk jT0 307 cl bk n 14 [l0, l1, l2, l3] (.inl 1 :: st) w := Eq.trans rfl rfl
theorem E307_14 (x : Int) (l0 l1 l2 l3 : Option jV) (w : jH) : jblk jT0 307 cl bk (n + 1) 14 [l0, l1, l2, l3] [.inl x] w = if jfits .int x = true then some (.inl (some (.inl x)), w) else none := Eq.trans rfl rfl
theorem E307_16 (st : List jV) (l0 l1 l2 l3 : Option jV) (w : jH) : jblk jT0 307 cl bk (n + 1) 16 [l0, l1, l2, l3] st w = jblk jT0 307 cl bk n 17 [l0, l1, l2, l3] (.inl 2 :: st) w := Eq.trans rfl rfl
theorem E307_17 (x : Int) (l0 l1 l2 l3 : Option jV) (w : jH) : jblk jT0 307 cl bk (n + 1) 17 [l0, l1, l2, l3] [.inl x] w = if jfits .int x = true then some (.inl (some (.inl x)), w) else none := Eq.trans rfl rfl
theorem E307_18 (st : List jV) (l0 l1 l2 l3 : Option jV) (w : jH) : jblk jT0 307 cl bk (n + 1) 18 [l0, l1, l2, l3] st w = jblk jT0 307 cl bk n 19 [l0, l1, l2, l3] (.inl 0 :: st) w := Eq.trans rfl rfl
theorem E307_19 (x : Int) (l0 l1 l2 l3 : Option jV) (w : jH) : jblk jT0 307 cl bk (n + 1) 19 [l0, l1, l2, l3] [.inl x] w = if jfits .int x = true then some (.inl (some (.inl x)), w) else none := Eq.trans rfl rfl
theorem E308_0 (a : Nat) (st : List jV) (l0 l1 l3 : Option jV) (w : jH) : jblk jT0 308 cl bk (n + 1) 0 [l0, l1, some (jr a), l3] st w = jblk jT0 308 cl bk n 1 [l0, l1, some (jr a), l3] (jr a :: st) w := Eq.trans rfl rfl
theorem E308_1 (st : List jV) (l0 l1 l2 l3 : Option jV) (w : jH) : jblk jT0 308 cl bk (n + 1) 1 [l0, l1, l2, l3] st w = jblk jT0 308 cl bk n 2 [l0, l1, l2, l3] (.inl 0 :: st) w := Eq.trans rfl rfl
theorem E308_2 (a : Nat) (st : List jV) (l1 l2 l3 : Option jV) (w : jH) : jblk jT0 308 cl bk (n + 1) 2 [some (jr a), l1, l2, l3] st w = jblk jT0 308 cl bk n 3 [some (jr a), l1, l2, l3] (jr a :: st) w := Eq.trans rfl rfl
theorem E308_3 (x : Int) (st : List jV) (l0 l2 l3 : Option jV) (w : jH) : jblk jT0 308 cl bk (n + 1) 3 [l0, some (.inl x), l2, l3] st w = jblk jT0 308 cl bk n 4 [l0, some (.inl x), l2, l3] (.inl x :: st) w := Eq.trans rfl rfl
theorem E308_4 (a : Nat) (v0 : jV) (st : List jV) (l0 l1 l2 l3 : Option jV) (w : jH) : jblk jT0 308 cl bk (n + 2) 4 [l0, l1, l2, l3] (v0 :: jr a :: st) w = jsh st (jgo w a 6 fun _ => jcl (cl 124 [jr a, v0] w) (fun v w' => jblk jT0 308 cl bk (n + 1) 7 [l0, l1, l2, l3] (jpush v st) w') (fun E w' => if E = "java/lang/IndexOutOfBoundsException" then jblk jT0 308 cl bk (n + 1) 13 [l0, l1, l2, none] [] w' else if E = "java/lang/UnsupportedOperationException" then jblk jT0 308 cl bk (n + 1) 16 [l0, l1, l2, none] [] w' else none)) := by
  refine congrArg (jsh st) (congrArg (jgo w a _) (funext fun _ => congrArg (jcl _ _) (funext fun E => funext fun w' => ?_)))
  show (match jhx _ E with | some (h, k) => _ | none => _) = _
  unfold jhx
  by_cases h0 : E = "java/lang/IndexOutOfBoundsException"
  · rw [if_pos h0, if_pos h0]
    rfl
  rw [if_neg h0, if_neg h0]
  unfold jhx
  by_cases h1 : E = "java/lang/UnsupportedOperationException"
  · rw [if_pos h1, if_pos h1]
    rfl
  rw [if_neg h1, if_neg h1]
  rfl
theorem E308_7 (x : Int) (st : List jV) (l0 l1 l2 l3 : Option jV) (w : jH) : jblk jT0 308 cl bk (n + 1) 7 [l0, l1, l2, l3] (.inl x :: st) w = jblk jT0 308 cl bk n 8 [l0, l1, l2, l3] (.inr (.inl x) :: st) w := Eq.trans rfl rfl
theorem E308_8 (x : Int) (y : Int) (a : Nat) (st : List jV) (l0 l1 l2 l3 : Option jV) (w : jH) : jblk jT0 308 cl bk (n + 1) 8 [l0, l1, l2, l3] (.inr (.inl y) :: .inl x :: jr a :: st) w = jal w a x y fun w' => jblk jT0 308 cl bk n 9 [l0, l1, l2, l3] st w' := Eq.trans rfl rfl
theorem E308_9 (st : List jV) (l0 l1 l2 l3 : Option jV) (w : jH) : jblk jT0 308 cl bk (n + 1) 9 [l0, l1, l2, l3] st w = jblk jT0 308 cl bk n 18 [l0, l1, l2, l3] st w := Eq.trans rfl rfl
theorem E308_13 (st : List jV) (l0 l1 l2 l3 : Option jV) (w : jH) : jblk jT0 308 cl bk (n + 1) 13 [l0, l1, l2, l3] st w = jblk jT0 308 cl bk n 14 [l0, l1, l2, l3] (.inl 1 :: st) w := Eq.trans rfl rfl
theorem E308_14 (x : Int) (l0 l1 l2 l3 : Option jV) (w : jH) : jblk jT0 308 cl bk (n + 1) 14 [l0, l1, l2, l3] [.inl x] w = if jfits .int x = true then some (.inl (some (.inl x)), w) else none := Eq.trans rfl rfl
theorem E308_16 (st : List jV) (l0 l1 l2 l3 : Option jV) (w : jH) : jblk jT0 308 cl bk (n + 1) 16 [l0, l1, l2, l3] st w = jblk jT0 308 cl bk n 17 [l0, l1, l2, l3] (.inl 2 :: st) w := Eq.trans rfl rfl
theorem E308_17 (x : Int) (l0 l1 l2 l3 : Option jV) (w : jH) : jblk jT0 308 cl bk (n + 1) 17 [l0, l1, l2, l3] [.inl x] w = if jfits .int x = true then some (.inl (some (.inl x)), w) else none := Eq.trans rfl rfl
theorem E308_18 (st : List jV) (l0 l1 l2 l3 : Option jV) (w : jH) : jblk jT0 308 cl bk (n + 1) 18 [l0, l1, l2, l3] st w = jblk jT0 308 cl bk n 19 [l0, l1, l2, l3] (.inl 0 :: st) w := Eq.trans rfl rfl
theorem E308_19 (x : Int) (l0 l1 l2 l3 : Option jV) (w : jH) : jblk jT0 308 cl bk (n + 1) 19 [l0, l1, l2, l3] [.inl x] w = if jfits .int x = true then some (.inl (some (.inl x)), w) else none := Eq.trans rfl rfl
theorem E309_0 (a : Nat) (st : List jV) (l0 l1 l3 : Option jV) (w : jH) : jblk jT0 309 cl bk (n + 1) 0 [l0, l1, some (jr a), l3] st w = jblk jT0 309 cl bk n 1 [l0, l1, some (jr a), l3] (jr a :: st) w := Eq.trans rfl rfl
theorem E309_1 (st : List jV) (l0 l1 l2 l3 : Option jV) (w : jH) : jblk jT0 309 cl bk (n + 1) 1 [l0, l1, l2, l3] st w = jblk jT0 309 cl bk n 2 [l0, l1, l2, l3] (.inl 0 :: st) w := Eq.trans rfl rfl
theorem E309_2 (a : Nat) (st : List jV) (l1 l2 l3 : Option jV) (w : jH) : jblk jT0 309 cl bk (n + 1) 2 [some (jr a), l1, l2, l3] st w = jblk jT0 309 cl bk n 3 [some (jr a), l1, l2, l3] (jr a :: st) w := Eq.trans rfl rfl
theorem E309_3 (x : Int) (st : List jV) (l0 l2 l3 : Option jV) (w : jH) : jblk jT0 309 cl bk (n + 1) 3 [l0, some (.inl x), l2, l3] st w = jblk jT0 309 cl bk n 4 [l0, some (.inl x), l2, l3] (.inl x :: st) w := Eq.trans rfl rfl
theorem E309_4 (a : Nat) (v0 : jV) (st : List jV) (l0 l1 l2 l3 : Option jV) (w : jH) : jblk jT0 309 cl bk (n + 2) 4 [l0, l1, l2, l3] (v0 :: jr a :: st) w = jsh st (jgo w a 6 fun _ => jcl (cl 125 [jr a, v0] w) (fun v w' => jblk jT0 309 cl bk (n + 1) 7 [l0, l1, l2, l3] (jpush v st) w') (fun E w' => if E = "java/lang/IndexOutOfBoundsException" then jblk jT0 309 cl bk (n + 1) 13 [l0, l1, l2, none] [] w' else if E = "java/lang/UnsupportedOperationException" then jblk jT0 309 cl bk (n + 1) 16 [l0, l1, l2, none] [] w' else none)) := by
  refine congrArg (jsh st) (congrArg (jgo w a _) (funext fun _ => congrArg (jcl _ _) (funext fun E => funext fun w' => ?_)))
  show (match jhx _ E with | some (h, k) => _ | none => _) = _
  unfold jhx
  by_cases h0 : E = "java/lang/IndexOutOfBoundsException"
  · rw [if_pos h0, if_pos h0]
    rfl
  rw [if_neg h0, if_neg h0]
  unfold jhx
  by_cases h1 : E = "java/lang/UnsupportedOperationException"
  · rw [if_pos h1, if_pos h1]
    rfl
  rw [if_neg h1, if_neg h1]
  rfl
theorem E309_7 (x : Int) (st : List jV) (l0 l1 l2 l3 : Option jV) (w : jH) : jblk jT0 309 cl bk (n + 1) 7 [l0, l1, l2, l3] (.inl x :: st) w = jblk jT0 309 cl bk n 8 [l0, l1, l2, l3] (.inr (.inl x) :: st) w := Eq.trans rfl rfl
theorem E309_8 (x : Int) (y : Int) (a : Nat) (st : List jV) (l0 l1 l2 l3 : Option jV) (w : jH) : jblk jT0 309 cl bk (n + 1) 8 [l0, l1, l2, l3] (.inr (.inl y) :: .inl x :: jr a :: st) w = jal w a x y fun w' => jblk jT0 309 cl bk n 9 [l0, l1, l2, l3] st w' := Eq.trans rfl rfl
theorem E309_9 (st : List jV) (l0 l1 l2 l3 : Option jV) (w : jH) : jblk jT0 309 cl bk (n + 1) 9 [l0, l1, l2, l3] st w = jblk jT0 309 cl bk n 18 [l0, l1, l2, l3] st w := Eq.trans rfl rfl
theorem E309_13 (st : List jV) (l0 l1 l2 l3 : Option jV) (w : jH) : jblk jT0 309 cl bk (n + 1) 13 [l0, l1, l2, l3] st w = jblk jT0 309 cl bk n 14 [l0, l1, l2, l3] (.inl 1 :: st) w := Eq.trans rfl rfl
theorem E309_14 (x : Int) (l0 l1 l2 l3 : Option jV) (w : jH) : jblk jT0 309 cl bk (n + 1) 14 [l0, l1, l2, l3] [.inl x] w = if jfits .int x = true then some (.inl (some (.inl x)), w) else none := Eq.trans rfl rfl
theorem E309_16 (st : List jV) (l0 l1 l2 l3 : Option jV) (w : jH) : jblk jT0 309 cl bk (n + 1) 16 [l0, l1, l2, l3] st w = jblk jT0 309 cl bk n 17 [l0, l1, l2, l3] (.inl 2 :: st) w := Eq.trans rfl rfl
theorem E309_17 (x : Int) (l0 l1 l2 l3 : Option jV) (w : jH) : jblk jT0 309 cl bk (n + 1) 17 [l0, l1, l2, l3] [.inl x] w = if jfits .int x = true then some (.inl (some (.inl x)), w) else none := Eq.trans rfl rfl
theorem E309_18 (st : List jV) (l0 l1 l2 l3 : Option jV) (w : jH) : jblk jT0 309 cl bk (n + 1) 18 [l0, l1, l2, l3] st w = jblk jT0 309 cl bk n 19 [l0, l1, l2, l3] (.inl 0 :: st) w := Eq.trans rfl rfl
theorem E309_19 (x : Int) (l0 l1 l2 l3 : Option jV) (w : jH) : jblk jT0 309 cl bk (n + 1) 19 [l0, l1, l2, l3] [.inl x] w = if jfits .int x = true then some (.inl (some (.inl x)), w) else none := Eq.trans rfl rfl
theorem E310_0 (a : Nat) (st : List jV) (l0 l1 l3 : Option jV) (w : jH) : jblk jT0 310 cl bk (n + 1) 0 [l0, l1, some (jr a), l3] st w = jblk jT0 310 cl bk n 1 [l0, l1, some (jr a), l3] (jr a :: st) w := Eq.trans rfl rfl
theorem E310_1 (st : List jV) (l0 l1 l2 l3 : Option jV) (w : jH) : jblk jT0 310 cl bk (n + 1) 1 [l0, l1, l2, l3] st w = jblk jT0 310 cl bk n 2 [l0, l1, l2, l3] (.inl 0 :: st) w := Eq.trans rfl rfl
theorem E310_2 (a : Nat) (st : List jV) (l1 l2 l3 : Option jV) (w : jH) : jblk jT0 310 cl bk (n + 1) 2 [some (jr a), l1, l2, l3] st w = jblk jT0 310 cl bk n 3 [some (jr a), l1, l2, l3] (jr a :: st) w := Eq.trans rfl rfl
theorem E310_3 (x : Int) (st : List jV) (l0 l2 l3 : Option jV) (w : jH) : jblk jT0 310 cl bk (n + 1) 3 [l0, some (.inl x), l2, l3] st w = jblk jT0 310 cl bk n 4 [l0, some (.inl x), l2, l3] (.inl x :: st) w := Eq.trans rfl rfl
theorem E310_4 (a : Nat) (v0 : jV) (st : List jV) (l0 l1 l2 l3 : Option jV) (w : jH) : jblk jT0 310 cl bk (n + 2) 4 [l0, l1, l2, l3] (v0 :: jr a :: st) w = jsh st (jgo w a 6 fun _ => jcl (cl 126 [jr a, v0] w) (fun v w' => jblk jT0 310 cl bk (n + 1) 7 [l0, l1, l2, l3] (jpush v st) w') (fun E w' => if E = "java/lang/IndexOutOfBoundsException" then jblk jT0 310 cl bk (n + 1) 13 [l0, l1, l2, none] [] w' else if E = "java/lang/UnsupportedOperationException" then jblk jT0 310 cl bk (n + 1) 16 [l0, l1, l2, none] [] w' else none)) := by
  refine congrArg (jsh st) (congrArg (jgo w a _) (funext fun _ => congrArg (jcl _ _) (funext fun E => funext fun w' => ?_)))
  show (match jhx _ E with | some (h, k) => _ | none => _) = _
  unfold jhx
  by_cases h0 : E = "java/lang/IndexOutOfBoundsException"
  · rw [if_pos h0, if_pos h0]
    rfl
  rw [if_neg h0, if_neg h0]
  unfold jhx
  by_cases h1 : E = "java/lang/UnsupportedOperationException"
  · rw [if_pos h1, if_pos h1]
    rfl
  rw [if_neg h1, if_neg h1]
  rfl
theorem E310_7 (x : Int) (st : List jV) (l0 l1 l2 l3 : Option jV) (w : jH) : jblk jT0 310 cl bk (n + 1) 7 [l0, l1, l2, l3] (.inl x :: st) w = jblk jT0 310 cl bk n 8 [l0, l1, l2, l3] (.inr (.inl x) :: st) w := Eq.trans rfl rfl
theorem E310_8 (x : Int) (y : Int) (a : Nat) (st : List jV) (l0 l1 l2 l3 : Option jV) (w : jH) : jblk jT0 310 cl bk (n + 1) 8 [l0, l1, l2, l3] (.inr (.inl y) :: .inl x :: jr a :: st) w = jal w a x y fun w' => jblk jT0 310 cl bk n 9 [l0, l1, l2, l3] st w' := Eq.trans rfl rfl
theorem E310_9 (st : List jV) (l0 l1 l2 l3 : Option jV) (w : jH) : jblk jT0 310 cl bk (n + 1) 9 [l0, l1, l2, l3] st w = jblk jT0 310 cl bk n 18 [l0, l1, l2, l3] st w := Eq.trans rfl rfl
theorem E310_13 (st : List jV) (l0 l1 l2 l3 : Option jV) (w : jH) : jblk jT0 310 cl bk (n + 1) 13 [l0, l1, l2, l3] st w = jblk jT0 310 cl bk n 14 [l0, l1, l2, l3] (.inl 1 :: st) w := Eq.trans rfl rfl
theorem E310_14 (x : Int) (l0 l1 l2 l3 : Option jV) (w : jH) : jblk jT0 310 cl bk (n + 1) 14 [l0, l1, l2, l3] [.inl x] w = if jfits .int x = true then some (.inl (some (.inl x)), w) else none := Eq.trans rfl rfl
theorem E310_16 (st : List jV) (l0 l1 l2 l3 : Option jV) (w : jH) : jblk jT0 310 cl bk (n + 1) 16 [l0, l1, l2, l3] st w = jblk jT0 310 cl bk n 17 [l0, l1, l2, l3] (.inl 2 :: st) w := Eq.trans rfl rfl
theorem E310_17 (x : Int) (l0 l1 l2 l3 : Option jV) (w : jH) : jblk jT0 310 cl bk (n + 1) 17 [l0, l1, l2, l3] [.inl x] w = if jfits .int x = true then some (.inl (some (.inl x)), w) else none := Eq.trans rfl rfl
theorem E310_18 (st : List jV) (l0 l1 l2 l3 : Option jV) (w : jH) : jblk jT0 310 cl bk (n + 1) 18 [l0, l1, l2, l3] st w = jblk jT0 310 cl bk n 19 [l0, l1, l2, l3] (.inl 0 :: st) w := Eq.trans rfl rfl
theorem E310_19 (x : Int) (l0 l1 l2 l3 : Option jV) (w : jH) : jblk jT0 310 cl bk (n + 1) 19 [l0, l1, l2, l3] [.inl x] w = if jfits .int x = true then some (.inl (some (.inl x)), w) else none := Eq.trans rfl rfl
theorem E311_0 (a : Nat) (st : List jV) (l0 l1 l2 l4 : Option jV) (w : jH) : jblk jT0 311 cl bk (n + 1) 0 [l0, l1, l2, some (jr a), l4] st w = jblk jT0 311 cl bk n 1 [l0, l1, l2, some (jr a), l4] (jr a :: st) w := Eq.trans rfl rfl
theorem E311_1 (st : List jV) (l0 l1 l2 l3 l4 : Option jV) (w : jH) : jblk jT0 311 cl bk (n + 1) 1 [l0, l1, l2, l3, l4] st w = jblk jT0 311 cl bk n 2 [l0, l1, l2, l3, l4] (.inl 0 :: st) w := Eq.trans rfl rfl
theorem E311_2 (a : Nat) (st : List jV) (l1 l2 l3 l4 : Option jV) (w : jH) : jblk jT0 311 cl bk (n + 1) 2 [some (jr a), l1, l2, l3, l4] st w = jblk jT0 311 cl bk n 3 [some (jr a), l1, l2, l3, l4] (jr a :: st) w := Eq.trans rfl rfl
theorem E311_3 (x : Int) (st : List jV) (l0 l2 l3 l4 : Option jV) (w : jH) : jblk jT0 311 cl bk (n + 1) 3 [l0, some (.inl x), l2, l3, l4] st w = jblk jT0 311 cl bk n 4 [l0, some (.inl x), l2, l3, l4] (.inl x :: st) w := Eq.trans rfl rfl
theorem E311_4 (x : Int) (st : List jV) (l0 l1 l3 l4 : Option jV) (w : jH) : jblk jT0 311 cl bk (n + 1) 4 [l0, l1, some (.inl x), l3, l4] st w = jblk jT0 311 cl bk n 5 [l0, l1, some (.inl x), l3, l4] (.inl x :: st) w := Eq.trans rfl rfl
theorem E311_5 (a : Nat) (v0 : jV) (v1 : jV) (st : List jV) (l0 l1 l2 l3 l4 : Option jV) (w : jH) : jblk jT0 311 cl bk (n + 2) 5 [l0, l1, l2, l3, l4] (v1 :: v0 :: jr a :: st) w = jsh st (jgo w a 6 fun _ => jcl (cl 127 [jr a, v0, v1] w) (fun v w' => jblk jT0 311 cl bk (n + 1) 8 [l0, l1, l2, l3, l4] (jpush v st) w') (fun E w' => if E = "java/lang/IndexOutOfBoundsException" then jblk jT0 311 cl bk (n + 1) 15 [l0, l1, l2, l3, none] [] w' else if E = "java/lang/UnsupportedOperationException" then jblk jT0 311 cl bk (n + 1) 19 [l0, l1, l2, l3, none] [] w' else none)) := by
  refine congrArg (jsh st) (congrArg (jgo w a _) (funext fun _ => congrArg (jcl _ _) (funext fun E => funext fun w' => ?_)))
  show (match jhx _ E with | some (h, k) => _ | none => _) = _
  unfold jhx
  by_cases h0 : E = "java/lang/IndexOutOfBoundsException"
  · rw [if_pos h0, if_pos h0]
    rfl
  rw [if_neg h0, if_neg h0]
  unfold jhx
  by_cases h1 : E = "java/lang/UnsupportedOperationException"
  · rw [if_pos h1, if_pos h1]
    rfl
  rw [if_neg h1, if_neg h1]
  rfl
theorem E311_8 (x : Int) (st : List jV) (l0 l1 l2 l3 l4 : Option jV) (w : jH) : jblk jT0 311 cl bk (n + 1) 8 [l0, l1, l2, l3, l4] (.inl x :: st) w = jblk jT0 311 cl bk n 9 [l0, l1, l2, l3, l4] (.inr (.inl x) :: st) w := Eq.trans rfl rfl
theorem E311_9 (x : Int) (y : Int) (a : Nat) (st : List jV) (l0 l1 l2 l3 l4 : Option jV) (w : jH) : jblk jT0 311 cl bk (n + 1) 9 [l0, l1, l2, l3, l4] (.inr (.inl y) :: .inl x :: jr a :: st) w = jal w a x y fun w' => jblk jT0 311 cl bk n 10 [l0, l1, l2, l3, l4] st w' := Eq.trans rfl rfl
theorem E311_10 (st : List jV) (l0 l1 l2 l3 l4 : Option jV) (w : jH) : jblk jT0 311 cl bk (n + 1) 10 [l0, l1, l2, l3, l4] st w = jblk jT0 311 cl bk n 21 [l0, l1, l2, l3, l4] st w := Eq.trans rfl rfl
theorem E311_15 (st : List jV) (l0 l1 l2 l3 l4 : Option jV) (w : jH) : jblk jT0 311 cl bk (n + 1) 15 [l0, l1, l2, l3, l4] st w = jblk jT0 311 cl bk n 16 [l0, l1, l2, l3, l4] (.inl 1 :: st) w := Eq.trans rfl rfl
theorem E311_16 (x : Int) (l0 l1 l2 l3 l4 : Option jV) (w : jH) : jblk jT0 311 cl bk (n + 1) 16 [l0, l1, l2, l3, l4] [.inl x] w = if jfits .int x = true then some (.inl (some (.inl x)), w) else none := Eq.trans rfl rfl
theorem E311_19 (st : List jV) (l0 l1 l2 l3 l4 : Option jV) (w : jH) : jblk jT0 311 cl bk (n + 1) 19 [l0, l1, l2, l3, l4] st w = jblk jT0 311 cl bk n 20 [l0, l1, l2, l3, l4] (.inl 2 :: st) w := Eq.trans rfl rfl
theorem E311_20 (x : Int) (l0 l1 l2 l3 l4 : Option jV) (w : jH) : jblk jT0 311 cl bk (n + 1) 20 [l0, l1, l2, l3, l4] [.inl x] w = if jfits .int x = true then some (.inl (some (.inl x)), w) else none := Eq.trans rfl rfl
theorem E311_21 (st : List jV) (l0 l1 l2 l3 l4 : Option jV) (w : jH) : jblk jT0 311 cl bk (n + 1) 21 [l0, l1, l2, l3, l4] st w = jblk jT0 311 cl bk n 22 [l0, l1, l2, l3, l4] (.inl 0 :: st) w := Eq.trans rfl rfl
theorem E311_22 (x : Int) (l0 l1 l2 l3 l4 : Option jV) (w : jH) : jblk jT0 311 cl bk (n + 1) 22 [l0, l1, l2, l3, l4] [.inl x] w = if jfits .int x = true then some (.inl (some (.inl x)), w) else none := Eq.trans rfl rfl
theorem E312_0 (a : Nat) (st : List jV) (l0 l1 l3 : Option jV) (w : jH) : jblk jT0 312 cl bk (n + 1) 0 [l0, l1, some (jr a), l3] st w = jblk jT0 312 cl bk n 1 [l0, l1, some (jr a), l3] (jr a :: st) w := Eq.trans rfl rfl
theorem E312_1 (st : List jV) (l0 l1 l2 l3 : Option jV) (w : jH) : jblk jT0 312 cl bk (n + 1) 1 [l0, l1, l2, l3] st w = jblk jT0 312 cl bk n 2 [l0, l1, l2, l3] (.inl 0 :: st) w := Eq.trans rfl rfl
theorem E312_2 (a : Nat) (st : List jV) (l1 l2 l3 : Option jV) (w : jH) : jblk jT0 312 cl bk (n + 1) 2 [some (jr a), l1, l2, l3] st w = jblk jT0 312 cl bk n 3 [some (jr a), l1, l2, l3] (jr a :: st) w := Eq.trans rfl rfl
theorem E312_3 (x : Int) (st : List jV) (l0 l2 l3 : Option jV) (w : jH) : jblk jT0 312 cl bk (n + 1) 3 [l0, some (.inl x), l2, l3] st w = jblk jT0 312 cl bk n 4 [l0, some (.inl x), l2, l3] (.inl x :: st) w := Eq.trans rfl rfl
theorem E312_4 (a : Nat) (v0 : jV) (st : List jV) (l0 l1 l2 l3 : Option jV) (w : jH) : jblk jT0 312 cl bk (n + 2) 4 [l0, l1, l2, l3] (v0 :: jr a :: st) w = jsh st (jgo w a 6 fun _ => jcl (cl 129 [jr a, v0] w) (fun v w' => jblk jT0 312 cl bk (n + 1) 7 [l0, l1, l2, l3] (jpush v st) w') (fun E w' => if E = "java/lang/IndexOutOfBoundsException" then jblk jT0 312 cl bk (n + 1) 13 [l0, l1, l2, none] [] w' else none)) := by
  refine congrArg (jsh st) (congrArg (jgo w a _) (funext fun _ => congrArg (jcl _ _) (funext fun E => funext fun w' => ?_)))
  show (match jhx _ E with | some (h, k) => _ | none => _) = _
  unfold jhx
  by_cases h0 : E = "java/lang/IndexOutOfBoundsException"
  · rw [if_pos h0, if_pos h0]
    rfl
  rw [if_neg h0, if_neg h0]
  rfl
theorem E312_7 (x : Int) (st : List jV) (l0 l1 l2 l3 : Option jV) (w : jH) : jblk jT0 312 cl bk (n + 1) 7 [l0, l1, l2, l3] (.inl x :: st) w = jblk jT0 312 cl bk n 8 [l0, l1, l2, l3] (.inr (.inl x) :: st) w := Eq.trans rfl rfl
theorem E312_8 (x : Int) (y : Int) (a : Nat) (st : List jV) (l0 l1 l2 l3 : Option jV) (w : jH) : jblk jT0 312 cl bk (n + 1) 8 [l0, l1, l2, l3] (.inr (.inl y) :: .inl x :: jr a :: st) w = jal w a x y fun w' => jblk jT0 312 cl bk n 9 [l0, l1, l2, l3] st w' := Eq.trans rfl rfl
theorem E312_9 (st : List jV) (l0 l1 l2 l3 : Option jV) (w : jH) : jblk jT0 312 cl bk (n + 1) 9 [l0, l1, l2, l3] st w = jblk jT0 312 cl bk n 15 [l0, l1, l2, l3] st w := Eq.trans rfl rfl
theorem E312_13 (st : List jV) (l0 l1 l2 l3 : Option jV) (w : jH) : jblk jT0 312 cl bk (n + 1) 13 [l0, l1, l2, l3] st w = jblk jT0 312 cl bk n 14 [l0, l1, l2, l3] (.inl 1 :: st) w := Eq.trans rfl rfl
theorem E312_14 (x : Int) (l0 l1 l2 l3 : Option jV) (w : jH) : jblk jT0 312 cl bk (n + 1) 14 [l0, l1, l2, l3] [.inl x] w = if jfits .int x = true then some (.inl (some (.inl x)), w) else none := Eq.trans rfl rfl
theorem E312_15 (st : List jV) (l0 l1 l2 l3 : Option jV) (w : jH) : jblk jT0 312 cl bk (n + 1) 15 [l0, l1, l2, l3] st w = jblk jT0 312 cl bk n 16 [l0, l1, l2, l3] (.inl 0 :: st) w := Eq.trans rfl rfl
theorem E312_16 (x : Int) (l0 l1 l2 l3 : Option jV) (w : jH) : jblk jT0 312 cl bk (n + 1) 16 [l0, l1, l2, l3] [.inl x] w = if jfits .int x = true then some (.inl (some (.inl x)), w) else none := Eq.trans rfl rfl
theorem E313_0 (a : Nat) (st : List jV) (l0 l1 l3 : Option jV) (w : jH) : jblk jT0 313 cl bk (n + 1) 0 [l0, l1, some (jr a), l3] st w = jblk jT0 313 cl bk n 1 [l0, l1, some (jr a), l3] (jr a :: st) w := Eq.trans rfl rfl
theorem E313_1 (st : List jV) (l0 l1 l2 l3 : Option jV) (w : jH) : jblk jT0 313 cl bk (n + 1) 1 [l0, l1, l2, l3] st w = jblk jT0 313 cl bk n 2 [l0, l1, l2, l3] (.inl 0 :: st) w := Eq.trans rfl rfl
theorem E313_2 (a : Nat) (st : List jV) (l1 l2 l3 : Option jV) (w : jH) : jblk jT0 313 cl bk (n + 1) 2 [some (jr a), l1, l2, l3] st w = jblk jT0 313 cl bk n 3 [some (jr a), l1, l2, l3] (jr a :: st) w := Eq.trans rfl rfl
theorem E313_3 (x : Int) (st : List jV) (l0 l2 l3 : Option jV) (w : jH) : jblk jT0 313 cl bk (n + 1) 3 [l0, some (.inl x), l2, l3] st w = jblk jT0 313 cl bk n 4 [l0, some (.inl x), l2, l3] (.inl x :: st) w := Eq.trans rfl rfl
theorem E313_4 (a : Nat) (v0 : jV) (st : List jV) (l0 l1 l2 l3 : Option jV) (w : jH) : jblk jT0 313 cl bk (n + 2) 4 [l0, l1, l2, l3] (v0 :: jr a :: st) w = jsh st (jgo w a 6 fun _ => jcl (cl 130 [jr a, v0] w) (fun v w' => jblk jT0 313 cl bk (n + 1) 7 [l0, l1, l2, l3] (jpush v st) w') (fun E w' => if E = "java/lang/IndexOutOfBoundsException" then jblk jT0 313 cl bk (n + 1) 13 [l0, l1, l2, none] [] w' else none)) := by
  refine congrArg (jsh st) (congrArg (jgo w a _) (funext fun _ => congrArg (jcl _ _) (funext fun E => funext fun w' => ?_)))
  show (match jhx _ E with | some (h, k) => _ | none => _) = _
  unfold jhx
  by_cases h0 : E = "java/lang/IndexOutOfBoundsException"
  · rw [if_pos h0, if_pos h0]
    rfl
  rw [if_neg h0, if_neg h0]
  rfl
theorem E313_7 (x : Int) (st : List jV) (l0 l1 l2 l3 : Option jV) (w : jH) : jblk jT0 313 cl bk (n + 1) 7 [l0, l1, l2, l3] (.inl x :: st) w = jblk jT0 313 cl bk n 8 [l0, l1, l2, l3] (.inr (.inl x) :: st) w := Eq.trans rfl rfl
theorem E313_8 (x : Int) (y : Int) (a : Nat) (st : List jV) (l0 l1 l2 l3 : Option jV) (w : jH) : jblk jT0 313 cl bk (n + 1) 8 [l0, l1, l2, l3] (.inr (.inl y) :: .inl x :: jr a :: st) w = jal w a x y fun w' => jblk jT0 313 cl bk n 9 [l0, l1, l2, l3] st w' := Eq.trans rfl rfl
theorem E313_9 (st : List jV) (l0 l1 l2 l3 : Option jV) (w : jH) : jblk jT0 313 cl bk (n + 1) 9 [l0, l1, l2, l3] st w = jblk jT0 313 cl bk n 15 [l0, l1, l2, l3] st w := Eq.trans rfl rfl
theorem E313_13 (st : List jV) (l0 l1 l2 l3 : Option jV) (w : jH) : jblk jT0 313 cl bk (n + 1) 13 [l0, l1, l2, l3] st w = jblk jT0 313 cl bk n 14 [l0, l1, l2, l3] (.inl 1 :: st) w := Eq.trans rfl rfl
theorem E313_14 (x : Int) (l0 l1 l2 l3 : Option jV) (w : jH) : jblk jT0 313 cl bk (n + 1) 14 [l0, l1, l2, l3] [.inl x] w = if jfits .int x = true then some (.inl (some (.inl x)), w) else none := Eq.trans rfl rfl
theorem E313_15 (st : List jV) (l0 l1 l2 l3 : Option jV) (w : jH) : jblk jT0 313 cl bk (n + 1) 15 [l0, l1, l2, l3] st w = jblk jT0 313 cl bk n 16 [l0, l1, l2, l3] (.inl 0 :: st) w := Eq.trans rfl rfl
theorem E313_16 (x : Int) (l0 l1 l2 l3 : Option jV) (w : jH) : jblk jT0 313 cl bk (n + 1) 16 [l0, l1, l2, l3] [.inl x] w = if jfits .int x = true then some (.inl (some (.inl x)), w) else none := Eq.trans rfl rfl
theorem E314_0 (a : Nat) (st : List jV) (l0 l1 l3 : Option jV) (w : jH) : jblk jT0 314 cl bk (n + 1) 0 [l0, l1, some (jr a), l3] st w = jblk jT0 314 cl bk n 1 [l0, l1, some (jr a), l3] (jr a :: st) w := Eq.trans rfl rfl
theorem E314_1 (st : List jV) (l0 l1 l2 l3 : Option jV) (w : jH) : jblk jT0 314 cl bk (n + 1) 1 [l0, l1, l2, l3] st w = jblk jT0 314 cl bk n 2 [l0, l1, l2, l3] (.inl 0 :: st) w := Eq.trans rfl rfl
theorem E314_2 (a : Nat) (st : List jV) (l1 l2 l3 : Option jV) (w : jH) : jblk jT0 314 cl bk (n + 1) 2 [some (jr a), l1, l2, l3] st w = jblk jT0 314 cl bk n 3 [some (jr a), l1, l2, l3] (jr a :: st) w := Eq.trans rfl rfl
theorem E314_3 (x : Int) (st : List jV) (l0 l2 l3 : Option jV) (w : jH) : jblk jT0 314 cl bk (n + 1) 3 [l0, some (.inl x), l2, l3] st w = jblk jT0 314 cl bk n 4 [l0, some (.inl x), l2, l3] (.inl x :: st) w := Eq.trans rfl rfl
theorem E314_4 (a : Nat) (v0 : jV) (st : List jV) (l0 l1 l2 l3 : Option jV) (w : jH) : jblk jT0 314 cl bk (n + 2) 4 [l0, l1, l2, l3] (v0 :: jr a :: st) w = jsh st (jgo w a 6 fun _ => jcl (cl 131 [jr a, v0] w) (fun v w' => jblk jT0 314 cl bk (n + 1) 7 [l0, l1, l2, l3] (jpush v st) w') (fun E w' => if E = "java/lang/IndexOutOfBoundsException" then jblk jT0 314 cl bk (n + 1) 13 [l0, l1, l2, none] [] w' else if E = "java/util/NoSuchElementException" then jblk jT0 314 cl bk (n + 1) 16 [l0, l1, l2, none] [] w' else none)) := by
  refine congrArg (jsh st) (congrArg (jgo w a _) (funext fun _ => congrArg (jcl _ _) (funext fun E => funext fun w' => ?_)))
  show (match jhx _ E with | some (h, k) => _ | none => _) = _
  unfold jhx
  by_cases h0 : E = "java/lang/IndexOutOfBoundsException"
  · rw [if_pos h0, if_pos h0]
    rfl
  rw [if_neg h0, if_neg h0]
  unfold jhx
  by_cases h1 : E = "java/util/NoSuchElementException"
  · rw [if_pos h1, if_pos h1]
    rfl
  rw [if_neg h1, if_neg h1]
  rfl
theorem E314_7 (x : Int) (st : List jV) (l0 l1 l2 l3 : Option jV) (w : jH) : jblk jT0 314 cl bk (n + 1) 7 [l0, l1, l2, l3] (.inl x :: st) w = jblk jT0 314 cl bk n 8 [l0, l1, l2, l3] (.inr (.inl x) :: st) w := Eq.trans rfl rfl
theorem E314_8 (x : Int) (y : Int) (a : Nat) (st : List jV) (l0 l1 l2 l3 : Option jV) (w : jH) : jblk jT0 314 cl bk (n + 1) 8 [l0, l1, l2, l3] (.inr (.inl y) :: .inl x :: jr a :: st) w = jal w a x y fun w' => jblk jT0 314 cl bk n 9 [l0, l1, l2, l3] st w' := Eq.trans rfl rfl
theorem E314_9 (st : List jV) (l0 l1 l2 l3 : Option jV) (w : jH) : jblk jT0 314 cl bk (n + 1) 9 [l0, l1, l2, l3] st w = jblk jT0 314 cl bk n 18 [l0, l1, l2, l3] st w := Eq.trans rfl rfl
theorem E314_13 (st : List jV) (l0 l1 l2 l3 : Option jV) (w : jH) : jblk jT0 314 cl bk (n + 1) 13 [l0, l1, l2, l3] st w = jblk jT0 314 cl bk n 14 [l0, l1, l2, l3] (.inl 1 :: st) w := Eq.trans rfl rfl
theorem E314_14 (x : Int) (l0 l1 l2 l3 : Option jV) (w : jH) : jblk jT0 314 cl bk (n + 1) 14 [l0, l1, l2, l3] [.inl x] w = if jfits .int x = true then some (.inl (some (.inl x)), w) else none := Eq.trans rfl rfl
theorem E314_16 (st : List jV) (l0 l1 l2 l3 : Option jV) (w : jH) : jblk jT0 314 cl bk (n + 1) 16 [l0, l1, l2, l3] st w = jblk jT0 314 cl bk n 17 [l0, l1, l2, l3] (.inl 2 :: st) w := Eq.trans rfl rfl
theorem E314_17 (x : Int) (l0 l1 l2 l3 : Option jV) (w : jH) : jblk jT0 314 cl bk (n + 1) 17 [l0, l1, l2, l3] [.inl x] w = if jfits .int x = true then some (.inl (some (.inl x)), w) else none := Eq.trans rfl rfl
theorem E314_18 (st : List jV) (l0 l1 l2 l3 : Option jV) (w : jH) : jblk jT0 314 cl bk (n + 1) 18 [l0, l1, l2, l3] st w = jblk jT0 314 cl bk n 19 [l0, l1, l2, l3] (.inl 0 :: st) w := Eq.trans rfl rfl
theorem E314_19 (x : Int) (l0 l1 l2 l3 : Option jV) (w : jH) : jblk jT0 314 cl bk (n + 1) 19 [l0, l1, l2, l3] [.inl x] w = if jfits .int x = true then some (.inl (some (.inl x)), w) else none := Eq.trans rfl rfl
theorem E315_0 (a : Nat) (st : List jV) (l0 l1 l3 : Option jV) (w : jH) : jblk jT0 315 cl bk (n + 1) 0 [l0, l1, some (jr a), l3] st w = jblk jT0 315 cl bk n 1 [l0, l1, some (jr a), l3] (jr a :: st) w := Eq.trans rfl rfl
theorem E315_1 (st : List jV) (l0 l1 l2 l3 : Option jV) (w : jH) : jblk jT0 315 cl bk (n + 1) 1 [l0, l1, l2, l3] st w = jblk jT0 315 cl bk n 2 [l0, l1, l2, l3] (.inl 0 :: st) w := Eq.trans rfl rfl
theorem E315_2 (a : Nat) (st : List jV) (l1 l2 l3 : Option jV) (w : jH) : jblk jT0 315 cl bk (n + 1) 2 [some (jr a), l1, l2, l3] st w = jblk jT0 315 cl bk n 3 [some (jr a), l1, l2, l3] (jr a :: st) w := Eq.trans rfl rfl
theorem E315_3 (x : Int) (st : List jV) (l0 l2 l3 : Option jV) (w : jH) : jblk jT0 315 cl bk (n + 1) 3 [l0, some (.inl x), l2, l3] st w = jblk jT0 315 cl bk n 4 [l0, some (.inl x), l2, l3] (.inl x :: st) w := Eq.trans rfl rfl
theorem E315_4 (a : Nat) (v0 : jV) (st : List jV) (l0 l1 l2 l3 : Option jV) (w : jH) : jblk jT0 315 cl bk (n + 2) 4 [l0, l1, l2, l3] (v0 :: jr a :: st) w = jsh st (jgo w a 6 fun _ => jcl (cl 132 [jr a, v0] w) (fun v w' => jblk jT0 315 cl bk (n + 1) 7 [l0, l1, l2, l3] (jpush v st) w') (fun E w' => if E = "java/lang/IndexOutOfBoundsException" then jblk jT0 315 cl bk (n + 1) 20 [l0, l1, l2, none] [] w' else none)) := by
  refine congrArg (jsh st) (congrArg (jgo w a _) (funext fun _ => congrArg (jcl _ _) (funext fun E => funext fun w' => ?_)))
  show (match jhx _ E with | some (h, k) => _ | none => _) = _
  unfold jhx
  by_cases h0 : E = "java/lang/IndexOutOfBoundsException"
  · rw [if_pos h0, if_pos h0]
    rfl
  rw [if_neg h0, if_neg h0]
  rfl
theorem E315_7 (x : Int) (st : List jV) (l0 l1 l2 l3 : Option jV) (w : jH) : jblk jT0 315 cl bk (n + 1) 7 [l0, l1, l2, l3] (.inl x :: st) w = if x = 0 then jblk jT0 315 cl bk n 14 [l0, l1, l2, l3] st w else jblk jT0 315 cl bk n 10 [l0, l1, l2, l3] st w := Eq.trans rfl rfl
theorem E315_10 (st : List jV) (l0 l1 l2 l3 : Option jV) (w : jH) : jblk jT0 315 cl bk (n + 1) 10 [l0, l1, l2, l3] st w = jblk jT0 315 cl bk n 11 [l0, l1, l2, l3] (.inr (.inl 1) :: st) w := Eq.trans rfl rfl
theorem E315_11 (st : List jV) (l0 l1 l2 l3 : Option jV) (w : jH) : jblk jT0 315 cl bk (n + 1) 11 [l0, l1, l2, l3] st w = jblk jT0 315 cl bk n 15 [l0, l1, l2, l3] st w := Eq.trans rfl rfl
theorem E315_14 (st : List jV) (l0 l1 l2 l3 : Option jV) (w : jH) : jblk jT0 315 cl bk (n + 1) 14 [l0, l1, l2, l3] st w = jblk jT0 315 cl bk n 15 [l0, l1, l2, l3] (.inr (.inl 0) :: st) w := Eq.trans rfl rfl
theorem E315_15 (x : Int) (y : Int) (a : Nat) (st : List jV) (l0 l1 l2 l3 : Option jV) (w : jH) : jblk jT0 315 cl bk (n + 1) 15 [l0, l1, l2, l3] (.inr (.inl y) :: .inl x :: jr a :: st) w = jal w a x y fun w' => jblk jT0 315 cl bk n 16 [l0, l1, l2, l3] st w' := Eq.trans rfl rfl
theorem E315_16 (st : List jV) (l0 l1 l2 l3 : Option jV) (w : jH) : jblk jT0 315 cl bk (n + 1) 16 [l0, l1, l2, l3] st w = jblk jT0 315 cl bk n 22 [l0, l1, l2, l3] st w := Eq.trans rfl rfl
theorem E315_20 (st : List jV) (l0 l1 l2 l3 : Option jV) (w : jH) : jblk jT0 315 cl bk (n + 1) 20 [l0, l1, l2, l3] st w = jblk jT0 315 cl bk n 21 [l0, l1, l2, l3] (.inl 1 :: st) w := Eq.trans rfl rfl
theorem E315_21 (x : Int) (l0 l1 l2 l3 : Option jV) (w : jH) : jblk jT0 315 cl bk (n + 1) 21 [l0, l1, l2, l3] [.inl x] w = if jfits .int x = true then some (.inl (some (.inl x)), w) else none := Eq.trans rfl rfl
theorem E315_22 (st : List jV) (l0 l1 l2 l3 : Option jV) (w : jH) : jblk jT0 315 cl bk (n + 1) 22 [l0, l1, l2, l3] st w = jblk jT0 315 cl bk n 23 [l0, l1, l2, l3] (.inl 0 :: st) w := Eq.trans rfl rfl
theorem E315_23 (x : Int) (l0 l1 l2 l3 : Option jV) (w : jH) : jblk jT0 315 cl bk (n + 1) 23 [l0, l1, l2, l3] [.inl x] w = if jfits .int x = true then some (.inl (some (.inl x)), w) else none := Eq.trans rfl rfl
theorem E316_0 (a : Nat) (st : List jV) (l0 l1 l3 : Option jV) (w : jH) : jblk jT0 316 cl bk (n + 1) 0 [l0, l1, some (jr a), l3] st w = jblk jT0 316 cl bk n 1 [l0, l1, some (jr a), l3] (jr a :: st) w := Eq.trans rfl rfl
theorem E316_1 (st : List jV) (l0 l1 l2 l3 : Option jV) (w : jH) : jblk jT0 316 cl bk (n + 1) 1 [l0, l1, l2, l3] st w = jblk jT0 316 cl bk n 2 [l0, l1, l2, l3] (.inl 0 :: st) w := Eq.trans rfl rfl
theorem E316_2 (a : Nat) (st : List jV) (l1 l2 l3 : Option jV) (w : jH) : jblk jT0 316 cl bk (n + 1) 2 [some (jr a), l1, l2, l3] st w = jblk jT0 316 cl bk n 3 [some (jr a), l1, l2, l3] (jr a :: st) w := Eq.trans rfl rfl
theorem E316_3 (x : Int) (st : List jV) (l0 l2 l3 : Option jV) (w : jH) : jblk jT0 316 cl bk (n + 1) 3 [l0, some (.inl x), l2, l3] st w = jblk jT0 316 cl bk n 4 [l0, some (.inl x), l2, l3] (.inl x :: st) w := Eq.trans rfl rfl
theorem E316_4 (a : Nat) (v0 : jV) (st : List jV) (l0 l1 l2 l3 : Option jV) (w : jH) : jblk jT0 316 cl bk (n + 2) 4 [l0, l1, l2, l3] (v0 :: jr a :: st) w = jsh st (jgo w a 6 fun _ => jcl (cl 133 [jr a, v0] w) (fun v w' => jblk jT0 316 cl bk (n + 1) 7 [l0, l1, l2, l3] (jpush v st) w') (fun E w' => if E = "java/lang/IndexOutOfBoundsException" then jblk jT0 316 cl bk (n + 1) 20 [l0, l1, l2, none] [] w' else none)) := by
  refine congrArg (jsh st) (congrArg (jgo w a _) (funext fun _ => congrArg (jcl _ _) (funext fun E => funext fun w' => ?_)))
  show (match jhx _ E with | some (h, k) => _ | none => _) = _
  unfold jhx
  by_cases h0 : E = "java/lang/IndexOutOfBoundsException"
  · rw [if_pos h0, if_pos h0]
    rfl
  rw [if_neg h0, if_neg h0]
  rfl
theorem E316_7 (x : Int) (st : List jV) (l0 l1 l2 l3 : Option jV) (w : jH) : jblk jT0 316 cl bk (n + 1) 7 [l0, l1, l2, l3] (.inl x :: st) w = if x = 0 then jblk jT0 316 cl bk n 14 [l0, l1, l2, l3] st w else jblk jT0 316 cl bk n 10 [l0, l1, l2, l3] st w := Eq.trans rfl rfl
theorem E316_10 (st : List jV) (l0 l1 l2 l3 : Option jV) (w : jH) : jblk jT0 316 cl bk (n + 1) 10 [l0, l1, l2, l3] st w = jblk jT0 316 cl bk n 11 [l0, l1, l2, l3] (.inr (.inl 1) :: st) w := Eq.trans rfl rfl
theorem E316_11 (st : List jV) (l0 l1 l2 l3 : Option jV) (w : jH) : jblk jT0 316 cl bk (n + 1) 11 [l0, l1, l2, l3] st w = jblk jT0 316 cl bk n 15 [l0, l1, l2, l3] st w := Eq.trans rfl rfl
theorem E316_14 (st : List jV) (l0 l1 l2 l3 : Option jV) (w : jH) : jblk jT0 316 cl bk (n + 1) 14 [l0, l1, l2, l3] st w = jblk jT0 316 cl bk n 15 [l0, l1, l2, l3] (.inr (.inl 0) :: st) w := Eq.trans rfl rfl
theorem E316_15 (x : Int) (y : Int) (a : Nat) (st : List jV) (l0 l1 l2 l3 : Option jV) (w : jH) : jblk jT0 316 cl bk (n + 1) 15 [l0, l1, l2, l3] (.inr (.inl y) :: .inl x :: jr a :: st) w = jal w a x y fun w' => jblk jT0 316 cl bk n 16 [l0, l1, l2, l3] st w' := Eq.trans rfl rfl
theorem E316_16 (st : List jV) (l0 l1 l2 l3 : Option jV) (w : jH) : jblk jT0 316 cl bk (n + 1) 16 [l0, l1, l2, l3] st w = jblk jT0 316 cl bk n 22 [l0, l1, l2, l3] st w := Eq.trans rfl rfl
theorem E316_20 (st : List jV) (l0 l1 l2 l3 : Option jV) (w : jH) : jblk jT0 316 cl bk (n + 1) 20 [l0, l1, l2, l3] st w = jblk jT0 316 cl bk n 21 [l0, l1, l2, l3] (.inl 1 :: st) w := Eq.trans rfl rfl
theorem E316_21 (x : Int) (l0 l1 l2 l3 : Option jV) (w : jH) : jblk jT0 316 cl bk (n + 1) 21 [l0, l1, l2, l3] [.inl x] w = if jfits .int x = true then some (.inl (some (.inl x)), w) else none := Eq.trans rfl rfl
theorem E316_22 (st : List jV) (l0 l1 l2 l3 : Option jV) (w : jH) : jblk jT0 316 cl bk (n + 1) 22 [l0, l1, l2, l3] st w = jblk jT0 316 cl bk n 23 [l0, l1, l2, l3] (.inl 0 :: st) w := Eq.trans rfl rfl
theorem E316_23 (x : Int) (l0 l1 l2 l3 : Option jV) (w : jH) : jblk jT0 316 cl bk (n + 1) 23 [l0, l1, l2, l3] [.inl x] w = if jfits .int x = true then some (.inl (some (.inl x)), w) else none := Eq.trans rfl rfl
theorem E317_0 (a : Nat) (st : List jV) (l0 l1 l3 : Option jV) (w : jH) : jblk jT0 317 cl bk (n + 1) 0 [l0, l1, some (jr a), l3] st w = jblk jT0 317 cl bk n 1 [l0, l1, some (jr a), l3] (jr a :: st) w := Eq.trans rfl rfl
theorem E317_1 (st : List jV) (l0 l1 l2 l3 : Option jV) (w : jH) : jblk jT0 317 cl bk (n + 1) 1 [l0, l1, l2, l3] st w = jblk jT0 317 cl bk n 2 [l0, l1, l2, l3] (.inl 0 :: st) w := Eq.trans rfl rfl
theorem E317_2 (a : Nat) (st : List jV) (l1 l2 l3 : Option jV) (w : jH) : jblk jT0 317 cl bk (n + 1) 2 [some (jr a), l1, l2, l3] st w = jblk jT0 317 cl bk n 3 [some (jr a), l1, l2, l3] (jr a :: st) w := Eq.trans rfl rfl
theorem E317_3 (x : Int) (st : List jV) (l0 l2 l3 : Option jV) (w : jH) : jblk jT0 317 cl bk (n + 1) 3 [l0, some (.inl x), l2, l3] st w = jblk jT0 317 cl bk n 4 [l0, some (.inl x), l2, l3] (.inl x :: st) w := Eq.trans rfl rfl
theorem E317_4 (a : Nat) (v0 : jV) (st : List jV) (l0 l1 l2 l3 : Option jV) (w : jH) : jblk jT0 317 cl bk (n + 2) 4 [l0, l1, l2, l3] (v0 :: jr a :: st) w = jsh st (jgo w a 6 fun _ => jcl (cl 134 [jr a, v0] w) (fun v w' => jblk jT0 317 cl bk (n + 1) 7 [l0, l1, l2, l3] (jpush v st) w') (fun E w' => if E = "java/lang/IndexOutOfBoundsException" then jblk jT0 317 cl bk (n + 1) 20 [l0, l1, l2, none] [] w' else none)) := by
  refine congrArg (jsh st) (congrArg (jgo w a _) (funext fun _ => congrArg (jcl _ _) (funext fun E => funext fun w' => ?_)))
  show (match jhx _ E with | some (h, k) => _ | none => _) = _
  unfold jhx
  by_cases h0 : E = "java/lang/IndexOutOfBoundsException"
  · rw [if_pos h0, if_pos h0]
    rfl
  rw [if_neg h0, if_neg h0]
  rfl
theorem E317_7 (x : Int) (st : List jV) (l0 l1 l2 l3 : Option jV) (w : jH) : jblk jT0 317 cl bk (n + 1) 7 [l0, l1, l2, l3] (.inl x :: st) w = if x = 0 then jblk jT0 317 cl bk n 14 [l0, l1, l2, l3] st w else jblk jT0 317 cl bk n 10 [l0, l1, l2, l3] st w := Eq.trans rfl rfl
theorem E317_10 (st : List jV) (l0 l1 l2 l3 : Option jV) (w : jH) : jblk jT0 317 cl bk (n + 1) 10 [l0, l1, l2, l3] st w = jblk jT0 317 cl bk n 11 [l0, l1, l2, l3] (.inr (.inl 1) :: st) w := Eq.trans rfl rfl
theorem E317_11 (st : List jV) (l0 l1 l2 l3 : Option jV) (w : jH) : jblk jT0 317 cl bk (n + 1) 11 [l0, l1, l2, l3] st w = jblk jT0 317 cl bk n 15 [l0, l1, l2, l3] st w := Eq.trans rfl rfl
theorem E317_14 (st : List jV) (l0 l1 l2 l3 : Option jV) (w : jH) : jblk jT0 317 cl bk (n + 1) 14 [l0, l1, l2, l3] st w = jblk jT0 317 cl bk n 15 [l0, l1, l2, l3] (.inr (.inl 0) :: st) w := Eq.trans rfl rfl
theorem E317_15 (x : Int) (y : Int) (a : Nat) (st : List jV) (l0 l1 l2 l3 : Option jV) (w : jH) : jblk jT0 317 cl bk (n + 1) 15 [l0, l1, l2, l3] (.inr (.inl y) :: .inl x :: jr a :: st) w = jal w a x y fun w' => jblk jT0 317 cl bk n 16 [l0, l1, l2, l3] st w' := Eq.trans rfl rfl
theorem E317_16 (st : List jV) (l0 l1 l2 l3 : Option jV) (w : jH) : jblk jT0 317 cl bk (n + 1) 16 [l0, l1, l2, l3] st w = jblk jT0 317 cl bk n 22 [l0, l1, l2, l3] st w := Eq.trans rfl rfl
theorem E317_20 (st : List jV) (l0 l1 l2 l3 : Option jV) (w : jH) : jblk jT0 317 cl bk (n + 1) 20 [l0, l1, l2, l3] st w = jblk jT0 317 cl bk n 21 [l0, l1, l2, l3] (.inl 1 :: st) w := Eq.trans rfl rfl
theorem E317_21 (x : Int) (l0 l1 l2 l3 : Option jV) (w : jH) : jblk jT0 317 cl bk (n + 1) 21 [l0, l1, l2, l3] [.inl x] w = if jfits .int x = true then some (.inl (some (.inl x)), w) else none := Eq.trans rfl rfl
theorem E317_22 (st : List jV) (l0 l1 l2 l3 : Option jV) (w : jH) : jblk jT0 317 cl bk (n + 1) 22 [l0, l1, l2, l3] st w = jblk jT0 317 cl bk n 23 [l0, l1, l2, l3] (.inl 0 :: st) w := Eq.trans rfl rfl
theorem E317_23 (x : Int) (l0 l1 l2 l3 : Option jV) (w : jH) : jblk jT0 317 cl bk (n + 1) 23 [l0, l1, l2, l3] [.inl x] w = if jfits .int x = true then some (.inl (some (.inl x)), w) else none := Eq.trans rfl rfl
theorem E318_0 (a : Nat) (st : List jV) (l0 l1 l2 l4 : Option jV) (w : jH) : jblk jT0 318 cl bk (n + 1) 0 [l0, l1, l2, some (jr a), l4] st w = jblk jT0 318 cl bk n 1 [l0, l1, l2, some (jr a), l4] (jr a :: st) w := Eq.trans rfl rfl
theorem E318_1 (st : List jV) (l0 l1 l2 l3 l4 : Option jV) (w : jH) : jblk jT0 318 cl bk (n + 1) 1 [l0, l1, l2, l3, l4] st w = jblk jT0 318 cl bk n 2 [l0, l1, l2, l3, l4] (.inl 0 :: st) w := Eq.trans rfl rfl
theorem E318_2 (a : Nat) (st : List jV) (l1 l2 l3 l4 : Option jV) (w : jH) : jblk jT0 318 cl bk (n + 1) 2 [some (jr a), l1, l2, l3, l4] st w = jblk jT0 318 cl bk n 3 [some (jr a), l1, l2, l3, l4] (jr a :: st) w := Eq.trans rfl rfl
theorem E318_3 (x : Int) (st : List jV) (l0 l2 l3 l4 : Option jV) (w : jH) : jblk jT0 318 cl bk (n + 1) 3 [l0, some (.inl x), l2, l3, l4] st w = jblk jT0 318 cl bk n 4 [l0, some (.inl x), l2, l3, l4] (.inl x :: st) w := Eq.trans rfl rfl
theorem E318_4 (x : Int) (st : List jV) (l0 l1 l3 l4 : Option jV) (w : jH) : jblk jT0 318 cl bk (n + 1) 4 [l0, l1, some (.inl x), l3, l4] st w = jblk jT0 318 cl bk n 5 [l0, l1, some (.inl x), l3, l4] (.inl x :: st) w := Eq.trans rfl rfl
theorem E318_5 (a : Nat) (v0 : jV) (v1 : jV) (st : List jV) (l0 l1 l2 l3 l4 : Option jV) (w : jH) : jblk jT0 318 cl bk (n + 2) 5 [l0, l1, l2, l3, l4] (v1 :: v0 :: jr a :: st) w = jsh st (jgo w a 6 fun _ => jcl (cl 135 [jr a, v0, v1] w) (fun v w' => jblk jT0 318 cl bk (n + 1) 8 [l0, l1, l2, l3, l4] (jpush v st) w') (fun E w' => if E = "java/lang/IndexOutOfBoundsException" then jblk jT0 318 cl bk (n + 1) 15 [l0, l1, l2, l3, none] [] w' else if E = "java/lang/IllegalArgumentException" then jblk jT0 318 cl bk (n + 1) 19 [l0, l1, l2, l3, none] [] w' else if E = "java/util/NoSuchElementException" then jblk jT0 318 cl bk (n + 1) 23 [l0, l1, l2, l3, none] [] w' else none)) := by
  refine congrArg (jsh st) (congrArg (jgo w a _) (funext fun _ => congrArg (jcl _ _) (funext fun E => funext fun w' => ?_)))
  show (match jhx _ E with | some (h, k) => _ | none => _) = _
  unfold jhx
  by_cases h0 : E = "java/lang/IndexOutOfBoundsException"
  · rw [if_pos h0, if_pos h0]
    rfl
  rw [if_neg h0, if_neg h0]
  unfold jhx
  by_cases h1 : E = "java/lang/IllegalArgumentException"
  · rw [if_pos h1, if_pos h1]
    rfl
  rw [if_neg h1, if_neg h1]
  unfold jhx
  by_cases h2 : E = "java/util/NoSuchElementException"
  · rw [if_pos h2, if_pos h2]
    rfl
  rw [if_neg h2, if_neg h2]
  rfl
theorem E318_8 (x : Int) (st : List jV) (l0 l1 l2 l3 l4 : Option jV) (w : jH) : jblk jT0 318 cl bk (n + 1) 8 [l0, l1, l2, l3, l4] (.inl x :: st) w = jblk jT0 318 cl bk n 9 [l0, l1, l2, l3, l4] (.inr (.inl x) :: st) w := Eq.trans rfl rfl
theorem E318_9 (x : Int) (y : Int) (a : Nat) (st : List jV) (l0 l1 l2 l3 l4 : Option jV) (w : jH) : jblk jT0 318 cl bk (n + 1) 9 [l0, l1, l2, l3, l4] (.inr (.inl y) :: .inl x :: jr a :: st) w = jal w a x y fun w' => jblk jT0 318 cl bk n 10 [l0, l1, l2, l3, l4] st w' := Eq.trans rfl rfl
theorem E318_10 (st : List jV) (l0 l1 l2 l3 l4 : Option jV) (w : jH) : jblk jT0 318 cl bk (n + 1) 10 [l0, l1, l2, l3, l4] st w = jblk jT0 318 cl bk n 25 [l0, l1, l2, l3, l4] st w := Eq.trans rfl rfl
theorem E318_15 (st : List jV) (l0 l1 l2 l3 l4 : Option jV) (w : jH) : jblk jT0 318 cl bk (n + 1) 15 [l0, l1, l2, l3, l4] st w = jblk jT0 318 cl bk n 16 [l0, l1, l2, l3, l4] (.inl 1 :: st) w := Eq.trans rfl rfl
theorem E318_16 (x : Int) (l0 l1 l2 l3 l4 : Option jV) (w : jH) : jblk jT0 318 cl bk (n + 1) 16 [l0, l1, l2, l3, l4] [.inl x] w = if jfits .int x = true then some (.inl (some (.inl x)), w) else none := Eq.trans rfl rfl
theorem E318_19 (st : List jV) (l0 l1 l2 l3 l4 : Option jV) (w : jH) : jblk jT0 318 cl bk (n + 1) 19 [l0, l1, l2, l3, l4] st w = jblk jT0 318 cl bk n 20 [l0, l1, l2, l3, l4] (.inl 2 :: st) w := Eq.trans rfl rfl
theorem E318_20 (x : Int) (l0 l1 l2 l3 l4 : Option jV) (w : jH) : jblk jT0 318 cl bk (n + 1) 20 [l0, l1, l2, l3, l4] [.inl x] w = if jfits .int x = true then some (.inl (some (.inl x)), w) else none := Eq.trans rfl rfl
theorem E318_23 (st : List jV) (l0 l1 l2 l3 l4 : Option jV) (w : jH) : jblk jT0 318 cl bk (n + 1) 23 [l0, l1, l2, l3, l4] st w = jblk jT0 318 cl bk n 24 [l0, l1, l2, l3, l4] (.inl 3 :: st) w := Eq.trans rfl rfl
theorem E318_24 (x : Int) (l0 l1 l2 l3 l4 : Option jV) (w : jH) : jblk jT0 318 cl bk (n + 1) 24 [l0, l1, l2, l3, l4] [.inl x] w = if jfits .int x = true then some (.inl (some (.inl x)), w) else none := Eq.trans rfl rfl
theorem E318_25 (st : List jV) (l0 l1 l2 l3 l4 : Option jV) (w : jH) : jblk jT0 318 cl bk (n + 1) 25 [l0, l1, l2, l3, l4] st w = jblk jT0 318 cl bk n 26 [l0, l1, l2, l3, l4] (.inl 0 :: st) w := Eq.trans rfl rfl
theorem E318_26 (x : Int) (l0 l1 l2 l3 l4 : Option jV) (w : jH) : jblk jT0 318 cl bk (n + 1) 26 [l0, l1, l2, l3, l4] [.inl x] w = if jfits .int x = true then some (.inl (some (.inl x)), w) else none := Eq.trans rfl rfl
theorem E319_0 (a : Nat) (st : List jV) (l0 l1 l3 : Option jV) (w : jH) : jblk jT0 319 cl bk (n + 1) 0 [l0, l1, some (jr a), l3] st w = jblk jT0 319 cl bk n 1 [l0, l1, some (jr a), l3] (jr a :: st) w := Eq.trans rfl rfl
theorem E319_1 (st : List jV) (l0 l1 l2 l3 : Option jV) (w : jH) : jblk jT0 319 cl bk (n + 1) 1 [l0, l1, l2, l3] st w = jblk jT0 319 cl bk n 2 [l0, l1, l2, l3] (.inl 0 :: st) w := Eq.trans rfl rfl
theorem E319_2 (a : Nat) (st : List jV) (l1 l2 l3 : Option jV) (w : jH) : jblk jT0 319 cl bk (n + 1) 2 [some (jr a), l1, l2, l3] st w = jblk jT0 319 cl bk n 3 [some (jr a), l1, l2, l3] (jr a :: st) w := Eq.trans rfl rfl
theorem E319_3 (x : Int) (st : List jV) (l0 l2 l3 : Option jV) (w : jH) : jblk jT0 319 cl bk (n + 1) 3 [l0, some (.inl x), l2, l3] st w = jblk jT0 319 cl bk n 4 [l0, some (.inl x), l2, l3] (.inl x :: st) w := Eq.trans rfl rfl
theorem E319_4 (a : Nat) (v0 : jV) (st : List jV) (l0 l1 l2 l3 : Option jV) (w : jH) : jblk jT0 319 cl bk (n + 2) 4 [l0, l1, l2, l3] (v0 :: jr a :: st) w = jsh st (jgo w a 6 fun _ => jcl (cl 136 [jr a, v0] w) (fun v w' => jblk jT0 319 cl bk (n + 1) 7 [l0, l1, l2, l3] (jpush v st) w') (fun E w' => if E = "java/lang/IndexOutOfBoundsException" then jblk jT0 319 cl bk (n + 1) 13 [l0, l1, l2, none] [] w' else none)) := by
  refine congrArg (jsh st) (congrArg (jgo w a _) (funext fun _ => congrArg (jcl _ _) (funext fun E => funext fun w' => ?_)))
  show (match jhx _ E with | some (h, k) => _ | none => _) = _
  unfold jhx
  by_cases h0 : E = "java/lang/IndexOutOfBoundsException"
  · rw [if_pos h0, if_pos h0]
    rfl
  rw [if_neg h0, if_neg h0]
  rfl
theorem E319_7 (x : Int) (st : List jV) (l0 l1 l2 l3 : Option jV) (w : jH) : jblk jT0 319 cl bk (n + 1) 7 [l0, l1, l2, l3] (.inl x :: st) w = jblk jT0 319 cl bk n 8 [l0, l1, l2, l3] (.inr (.inl x) :: st) w := Eq.trans rfl rfl
theorem E319_8 (x : Int) (y : Int) (a : Nat) (st : List jV) (l0 l1 l2 l3 : Option jV) (w : jH) : jblk jT0 319 cl bk (n + 1) 8 [l0, l1, l2, l3] (.inr (.inl y) :: .inl x :: jr a :: st) w = jal w a x y fun w' => jblk jT0 319 cl bk n 9 [l0, l1, l2, l3] st w' := Eq.trans rfl rfl
theorem E319_9 (st : List jV) (l0 l1 l2 l3 : Option jV) (w : jH) : jblk jT0 319 cl bk (n + 1) 9 [l0, l1, l2, l3] st w = jblk jT0 319 cl bk n 15 [l0, l1, l2, l3] st w := Eq.trans rfl rfl
theorem E319_13 (st : List jV) (l0 l1 l2 l3 : Option jV) (w : jH) : jblk jT0 319 cl bk (n + 1) 13 [l0, l1, l2, l3] st w = jblk jT0 319 cl bk n 14 [l0, l1, l2, l3] (.inl 1 :: st) w := Eq.trans rfl rfl
theorem E319_14 (x : Int) (l0 l1 l2 l3 : Option jV) (w : jH) : jblk jT0 319 cl bk (n + 1) 14 [l0, l1, l2, l3] [.inl x] w = if jfits .int x = true then some (.inl (some (.inl x)), w) else none := Eq.trans rfl rfl
theorem E319_15 (st : List jV) (l0 l1 l2 l3 : Option jV) (w : jH) : jblk jT0 319 cl bk (n + 1) 15 [l0, l1, l2, l3] st w = jblk jT0 319 cl bk n 16 [l0, l1, l2, l3] (.inl 0 :: st) w := Eq.trans rfl rfl
theorem E319_16 (x : Int) (l0 l1 l2 l3 : Option jV) (w : jH) : jblk jT0 319 cl bk (n + 1) 16 [l0, l1, l2, l3] [.inl x] w = if jfits .int x = true then some (.inl (some (.inl x)), w) else none := Eq.trans rfl rfl
theorem E320_0 (a : Nat) (st : List jV) (l0 l1 l3 : Option jV) (w : jH) : jblk jT0 320 cl bk (n + 1) 0 [l0, l1, some (jr a), l3] st w = jblk jT0 320 cl bk n 1 [l0, l1, some (jr a), l3] (jr a :: st) w := Eq.trans rfl rfl
theorem E320_1 (st : List jV) (l0 l1 l2 l3 : Option jV) (w : jH) : jblk jT0 320 cl bk (n + 1) 1 [l0, l1, l2, l3] st w = jblk jT0 320 cl bk n 2 [l0, l1, l2, l3] (.inl 0 :: st) w := Eq.trans rfl rfl
theorem E320_2 (a : Nat) (st : List jV) (l1 l2 l3 : Option jV) (w : jH) : jblk jT0 320 cl bk (n + 1) 2 [some (jr a), l1, l2, l3] st w = jblk jT0 320 cl bk n 3 [some (jr a), l1, l2, l3] (jr a :: st) w := Eq.trans rfl rfl
theorem E320_3 (x : Int) (st : List jV) (l0 l2 l3 : Option jV) (w : jH) : jblk jT0 320 cl bk (n + 1) 3 [l0, some (.inl x), l2, l3] st w = jblk jT0 320 cl bk n 4 [l0, some (.inl x), l2, l3] (.inl x :: st) w := Eq.trans rfl rfl
theorem E320_4 (a : Nat) (v0 : jV) (st : List jV) (l0 l1 l2 l3 : Option jV) (w : jH) : jblk jT0 320 cl bk (n + 2) 4 [l0, l1, l2, l3] (v0 :: jr a :: st) w = jsh st (jgo w a 6 fun _ => jcl (cl 137 [jr a, v0] w) (fun v w' => jblk jT0 320 cl bk (n + 1) 7 [l0, l1, l2, l3] (jpush v st) w') (fun E w' => if E = "java/lang/IllegalArgumentException" then jblk jT0 320 cl bk (n + 1) 13 [l0, l1, l2, none] [] w' else none)) := by
  refine congrArg (jsh st) (congrArg (jgo w a _) (funext fun _ => congrArg (jcl _ _) (funext fun E => funext fun w' => ?_)))
  show (match jhx _ E with | some (h, k) => _ | none => _) = _
  unfold jhx
  by_cases h0 : E = "java/lang/IllegalArgumentException"
  · rw [if_pos h0, if_pos h0]
    rfl
  rw [if_neg h0, if_neg h0]
  rfl
theorem E320_7 (x : Int) (st : List jV) (l0 l1 l2 l3 : Option jV) (w : jH) : jblk jT0 320 cl bk (n + 1) 7 [l0, l1, l2, l3] (.inl x :: st) w = jblk jT0 320 cl bk n 8 [l0, l1, l2, l3] (.inr (.inl x) :: st) w := Eq.trans rfl rfl
theorem E320_8 (x : Int) (y : Int) (a : Nat) (st : List jV) (l0 l1 l2 l3 : Option jV) (w : jH) : jblk jT0 320 cl bk (n + 1) 8 [l0, l1, l2, l3] (.inr (.inl y) :: .inl x :: jr a :: st) w = jal w a x y fun w' => jblk jT0 320 cl bk n 9 [l0, l1, l2, l3] st w' := Eq.trans rfl rfl
theorem E320_9 (st : List jV) (l0 l1 l2 l3 : Option jV) (w : jH) : jblk jT0 320 cl bk (n + 1) 9 [l0, l1, l2, l3] st w = jblk jT0 320 cl bk n 15 [l0, l1, l2, l3] st w := Eq.trans rfl rfl
theorem E320_13 (st : List jV) (l0 l1 l2 l3 : Option jV) (w : jH) : jblk jT0 320 cl bk (n + 1) 13 [l0, l1, l2, l3] st w = jblk jT0 320 cl bk n 14 [l0, l1, l2, l3] (.inl 1 :: st) w := Eq.trans rfl rfl
theorem E320_14 (x : Int) (l0 l1 l2 l3 : Option jV) (w : jH) : jblk jT0 320 cl bk (n + 1) 14 [l0, l1, l2, l3] [.inl x] w = if jfits .int x = true then some (.inl (some (.inl x)), w) else none := Eq.trans rfl rfl
theorem E320_15 (st : List jV) (l0 l1 l2 l3 : Option jV) (w : jH) : jblk jT0 320 cl bk (n + 1) 15 [l0, l1, l2, l3] st w = jblk jT0 320 cl bk n 16 [l0, l1, l2, l3] (.inl 0 :: st) w := Eq.trans rfl rfl
theorem E320_16 (x : Int) (l0 l1 l2 l3 : Option jV) (w : jH) : jblk jT0 320 cl bk (n + 1) 16 [l0, l1, l2, l3] [.inl x] w = if jfits .int x = true then some (.inl (some (.inl x)), w) else none := Eq.trans rfl rfl
theorem E321_0 (a : Nat) (st : List jV) (l0 l1 l3 : Option jV) (w : jH) : jblk jT0 321 cl bk (n + 1) 0 [l0, l1, some (jr a), l3] st w = jblk jT0 321 cl bk n 1 [l0, l1, some (jr a), l3] (jr a :: st) w := Eq.trans rfl rfl
theorem E321_1 (st : List jV) (l0 l1 l2 l3 : Option jV) (w : jH) : jblk jT0 321 cl bk (n + 1) 1 [l0, l1, l2, l3] st w = jblk jT0 321 cl bk n 2 [l0, l1, l2, l3] (.inl 0 :: st) w := Eq.trans rfl rfl
theorem E321_2 (a : Nat) (st : List jV) (l1 l2 l3 : Option jV) (w : jH) : jblk jT0 321 cl bk (n + 1) 2 [some (jr a), l1, l2, l3] st w = jblk jT0 321 cl bk n 3 [some (jr a), l1, l2, l3] (jr a :: st) w := Eq.trans rfl rfl
theorem E321_3 (x : Int) (st : List jV) (l0 l2 l3 : Option jV) (w : jH) : jblk jT0 321 cl bk (n + 1) 3 [l0, some (.inl x), l2, l3] st w = jblk jT0 321 cl bk n 4 [l0, some (.inl x), l2, l3] (.inl x :: st) w := Eq.trans rfl rfl
theorem E321_4 (a : Nat) (v0 : jV) (st : List jV) (l0 l1 l2 l3 : Option jV) (w : jH) : jblk jT0 321 cl bk (n + 2) 4 [l0, l1, l2, l3] (v0 :: jr a :: st) w = jsh st (jgo w a 6 fun _ => jcl (cl 139 [jr a, v0] w) (fun v w' => jblk jT0 321 cl bk (n + 1) 7 [l0, l1, l2, l3] (jpush v st) w') (fun E w' => if E = "java/lang/IndexOutOfBoundsException" then jblk jT0 321 cl bk (n + 1) 13 [l0, l1, l2, none] [] w' else if E = "java/util/NoSuchElementException" then jblk jT0 321 cl bk (n + 1) 16 [l0, l1, l2, none] [] w' else none)) := by
  refine congrArg (jsh st) (congrArg (jgo w a _) (funext fun _ => congrArg (jcl _ _) (funext fun E => funext fun w' => ?_)))
  show (match jhx _ E with | some (h, k) => _ | none => _) = _
  unfold jhx
  by_cases h0 : E = "java/lang/IndexOutOfBoundsException"
  · rw [if_pos h0, if_pos h0]
    rfl
  rw [if_neg h0, if_neg h0]
  unfold jhx
  by_cases h1 : E = "java/util/NoSuchElementException"
  · rw [if_pos h1, if_pos h1]
    rfl
  rw [if_neg h1, if_neg h1]
  rfl
theorem E321_7 (x : Int) (st : List jV) (l0 l1 l2 l3 : Option jV) (w : jH) : jblk jT0 321 cl bk (n + 1) 7 [l0, l1, l2, l3] (.inl x :: st) w = jblk jT0 321 cl bk n 8 [l0, l1, l2, l3] (.inr (.inl x) :: st) w := Eq.trans rfl rfl
theorem E321_8 (x : Int) (y : Int) (a : Nat) (st : List jV) (l0 l1 l2 l3 : Option jV) (w : jH) : jblk jT0 321 cl bk (n + 1) 8 [l0, l1, l2, l3] (.inr (.inl y) :: .inl x :: jr a :: st) w = jal w a x y fun w' => jblk jT0 321 cl bk n 9 [l0, l1, l2, l3] st w' := Eq.trans rfl rfl
theorem E321_9 (st : List jV) (l0 l1 l2 l3 : Option jV) (w : jH) : jblk jT0 321 cl bk (n + 1) 9 [l0, l1, l2, l3] st w = jblk jT0 321 cl bk n 18 [l0, l1, l2, l3] st w := Eq.trans rfl rfl
theorem E321_13 (st : List jV) (l0 l1 l2 l3 : Option jV) (w : jH) : jblk jT0 321 cl bk (n + 1) 13 [l0, l1, l2, l3] st w = jblk jT0 321 cl bk n 14 [l0, l1, l2, l3] (.inl 1 :: st) w := Eq.trans rfl rfl
theorem E321_14 (x : Int) (l0 l1 l2 l3 : Option jV) (w : jH) : jblk jT0 321 cl bk (n + 1) 14 [l0, l1, l2, l3] [.inl x] w = if jfits .int x = true then some (.inl (some (.inl x)), w) else none := Eq.trans rfl rfl
theorem E321_16 (st : List jV) (l0 l1 l2 l3 : Option jV) (w : jH) : jblk jT0 321 cl bk (n + 1) 16 [l0, l1, l2, l3] st w = jblk jT0 321 cl bk n 17 [l0, l1, l2, l3] (.inl 2 :: st) w := Eq.trans rfl rfl
theorem E321_17 (x : Int) (l0 l1 l2 l3 : Option jV) (w : jH) : jblk jT0 321 cl bk (n + 1) 17 [l0, l1, l2, l3] [.inl x] w = if jfits .int x = true then some (.inl (some (.inl x)), w) else none := Eq.trans rfl rfl
theorem E321_18 (st : List jV) (l0 l1 l2 l3 : Option jV) (w : jH) : jblk jT0 321 cl bk (n + 1) 18 [l0, l1, l2, l3] st w = jblk jT0 321 cl bk n 19 [l0, l1, l2, l3] (.inl 0 :: st) w := Eq.trans rfl rfl
theorem E321_19 (x : Int) (l0 l1 l2 l3 : Option jV) (w : jH) : jblk jT0 321 cl bk (n + 1) 19 [l0, l1, l2, l3] [.inl x] w = if jfits .int x = true then some (.inl (some (.inl x)), w) else none := Eq.trans rfl rfl
theorem E322_0 (a : Nat) (st : List jV) (l0 l1 l3 : Option jV) (w : jH) : jblk jT0 322 cl bk (n + 1) 0 [l0, l1, some (jr a), l3] st w = jblk jT0 322 cl bk n 1 [l0, l1, some (jr a), l3] (jr a :: st) w := Eq.trans rfl rfl
theorem E322_1 (st : List jV) (l0 l1 l2 l3 : Option jV) (w : jH) : jblk jT0 322 cl bk (n + 1) 1 [l0, l1, l2, l3] st w = jblk jT0 322 cl bk n 2 [l0, l1, l2, l3] (.inl 0 :: st) w := Eq.trans rfl rfl
theorem E322_2 (a : Nat) (st : List jV) (l1 l2 l3 : Option jV) (w : jH) : jblk jT0 322 cl bk (n + 1) 2 [some (jr a), l1, l2, l3] st w = jblk jT0 322 cl bk n 3 [some (jr a), l1, l2, l3] (jr a :: st) w := Eq.trans rfl rfl
theorem E322_3 (x : Int) (st : List jV) (l0 l2 l3 : Option jV) (w : jH) : jblk jT0 322 cl bk (n + 1) 3 [l0, some (.inl x), l2, l3] st w = jblk jT0 322 cl bk n 4 [l0, some (.inl x), l2, l3] (.inl x :: st) w := Eq.trans rfl rfl
theorem E322_4 (a : Nat) (v0 : jV) (st : List jV) (l0 l1 l2 l3 : Option jV) (w : jH) : jblk jT0 322 cl bk (n + 2) 4 [l0, l1, l2, l3] (v0 :: jr a :: st) w = jsh st (jgo w a 6 fun _ => jcl (cl 145 [jr a, v0] w) (fun v w' => jblk jT0 322 cl bk (n + 1) 7 [l0, l1, l2, l3] (jpush v st) w') (fun E w' => if E = "java/util/NoSuchElementException" then jblk jT0 322 cl bk (n + 1) 13 [l0, l1, l2, none] [] w' else none)) := by
  refine congrArg (jsh st) (congrArg (jgo w a _) (funext fun _ => congrArg (jcl _ _) (funext fun E => funext fun w' => ?_)))
  show (match jhx _ E with | some (h, k) => _ | none => _) = _
  unfold jhx
  by_cases h0 : E = "java/util/NoSuchElementException"
  · rw [if_pos h0, if_pos h0]
    rfl
  rw [if_neg h0, if_neg h0]
  rfl
theorem E322_7 (x : Int) (st : List jV) (l0 l1 l2 l3 : Option jV) (w : jH) : jblk jT0 322 cl bk (n + 1) 7 [l0, l1, l2, l3] (.inl x :: st) w = jblk jT0 322 cl bk n 8 [l0, l1, l2, l3] (.inr (.inl x) :: st) w := Eq.trans rfl rfl
theorem E322_8 (x : Int) (y : Int) (a : Nat) (st : List jV) (l0 l1 l2 l3 : Option jV) (w : jH) : jblk jT0 322 cl bk (n + 1) 8 [l0, l1, l2, l3] (.inr (.inl y) :: .inl x :: jr a :: st) w = jal w a x y fun w' => jblk jT0 322 cl bk n 9 [l0, l1, l2, l3] st w' := Eq.trans rfl rfl
theorem E322_9 (st : List jV) (l0 l1 l2 l3 : Option jV) (w : jH) : jblk jT0 322 cl bk (n + 1) 9 [l0, l1, l2, l3] st w = jblk jT0 322 cl bk n 15 [l0, l1, l2, l3] st w := Eq.trans rfl rfl
theorem E322_13 (st : List jV) (l0 l1 l2 l3 : Option jV) (w : jH) : jblk jT0 322 cl bk (n + 1) 13 [l0, l1, l2, l3] st w = jblk jT0 322 cl bk n 14 [l0, l1, l2, l3] (.inl 1 :: st) w := Eq.trans rfl rfl
theorem E322_14 (x : Int) (l0 l1 l2 l3 : Option jV) (w : jH) : jblk jT0 322 cl bk (n + 1) 14 [l0, l1, l2, l3] [.inl x] w = if jfits .int x = true then some (.inl (some (.inl x)), w) else none := Eq.trans rfl rfl
theorem E322_15 (st : List jV) (l0 l1 l2 l3 : Option jV) (w : jH) : jblk jT0 322 cl bk (n + 1) 15 [l0, l1, l2, l3] st w = jblk jT0 322 cl bk n 16 [l0, l1, l2, l3] (.inl 0 :: st) w := Eq.trans rfl rfl
theorem E322_16 (x : Int) (l0 l1 l2 l3 : Option jV) (w : jH) : jblk jT0 322 cl bk (n + 1) 16 [l0, l1, l2, l3] [.inl x] w = if jfits .int x = true then some (.inl (some (.inl x)), w) else none := Eq.trans rfl rfl
theorem E323_0 (a : Nat) (st : List jV) (l0 l1 l3 : Option jV) (w : jH) : jblk jT0 323 cl bk (n + 1) 0 [l0, l1, some (jr a), l3] st w = jblk jT0 323 cl bk n 1 [l0, l1, some (jr a), l3] (jr a :: st) w := Eq.trans rfl rfl
theorem E323_1 (st : List jV) (l0 l1 l2 l3 : Option jV) (w : jH) : jblk jT0 323 cl bk (n + 1) 1 [l0, l1, l2, l3] st w = jblk jT0 323 cl bk n 2 [l0, l1, l2, l3] (.inl 0 :: st) w := Eq.trans rfl rfl
theorem E323_2 (a : Nat) (st : List jV) (l1 l2 l3 : Option jV) (w : jH) : jblk jT0 323 cl bk (n + 1) 2 [some (jr a), l1, l2, l3] st w = jblk jT0 323 cl bk n 3 [some (jr a), l1, l2, l3] (jr a :: st) w := Eq.trans rfl rfl
theorem E323_3 (x : Int) (st : List jV) (l0 l2 l3 : Option jV) (w : jH) : jblk jT0 323 cl bk (n + 1) 3 [l0, some (.inl x), l2, l3] st w = jblk jT0 323 cl bk n 4 [l0, some (.inl x), l2, l3] (.inl x :: st) w := Eq.trans rfl rfl
theorem E323_4 (a : Nat) (v0 : jV) (st : List jV) (l0 l1 l2 l3 : Option jV) (w : jH) : jblk jT0 323 cl bk (n + 2) 4 [l0, l1, l2, l3] (v0 :: jr a :: st) w = jsh st (jgo w a 6 fun _ => jcl (cl 146 [jr a, v0] w) (fun v w' => jblk jT0 323 cl bk (n + 1) 7 [l0, l1, l2, l3] (jpush v st) w') (fun E w' => if E = "java/util/NoSuchElementException" then jblk jT0 323 cl bk (n + 1) 13 [l0, l1, l2, none] [] w' else none)) := by
  refine congrArg (jsh st) (congrArg (jgo w a _) (funext fun _ => congrArg (jcl _ _) (funext fun E => funext fun w' => ?_)))
  show (match jhx _ E with | some (h, k) => _ | none => _) = _
  unfold jhx
  by_cases h0 : E = "java/util/NoSuchElementException"
  · rw [if_pos h0, if_pos h0]
    rfl
  rw [if_neg h0, if_neg h0]
  rfl
theorem E323_7 (x : Int) (st : List jV) (l0 l1 l2 l3 : Option jV) (w : jH) : jblk jT0 323 cl bk (n + 1) 7 [l0, l1, l2, l3] (.inl x :: st) w = jblk jT0 323 cl bk n 8 [l0, l1, l2, l3] (.inr (.inl x) :: st) w := Eq.trans rfl rfl
theorem E323_8 (x : Int) (y : Int) (a : Nat) (st : List jV) (l0 l1 l2 l3 : Option jV) (w : jH) : jblk jT0 323 cl bk (n + 1) 8 [l0, l1, l2, l3] (.inr (.inl y) :: .inl x :: jr a :: st) w = jal w a x y fun w' => jblk jT0 323 cl bk n 9 [l0, l1, l2, l3] st w' := Eq.trans rfl rfl
theorem E323_9 (st : List jV) (l0 l1 l2 l3 : Option jV) (w : jH) : jblk jT0 323 cl bk (n + 1) 9 [l0, l1, l2, l3] st w = jblk jT0 323 cl bk n 15 [l0, l1, l2, l3] st w := Eq.trans rfl rfl
theorem E323_13 (st : List jV) (l0 l1 l2 l3 : Option jV) (w : jH) : jblk jT0 323 cl bk (n + 1) 13 [l0, l1, l2, l3] st w = jblk jT0 323 cl bk n 14 [l0, l1, l2, l3] (.inl 1 :: st) w := Eq.trans rfl rfl
theorem E323_14 (x : Int) (l0 l1 l2 l3 : Option jV) (w : jH) : jblk jT0 323 cl bk (n + 1) 14 [l0, l1, l2, l3] [.inl x] w = if jfits .int x = true then some (.inl (some (.inl x)), w) else none := Eq.trans rfl rfl
theorem E323_15 (st : List jV) (l0 l1 l2 l3 : Option jV) (w : jH) : jblk jT0 323 cl bk (n + 1) 15 [l0, l1, l2, l3] st w = jblk jT0 323 cl bk n 16 [l0, l1, l2, l3] (.inl 0 :: st) w := Eq.trans rfl rfl
theorem E323_16 (x : Int) (l0 l1 l2 l3 : Option jV) (w : jH) : jblk jT0 323 cl bk (n + 1) 16 [l0, l1, l2, l3] [.inl x] w = if jfits .int x = true then some (.inl (some (.inl x)), w) else none := Eq.trans rfl rfl
theorem E326_0 (a : Nat) (st : List jV) (l0 l1 l3 : Option jV) (w : jH) : jblk jT0 326 cl bk (n + 1) 0 [l0, l1, some (jr a), l3] st w = jblk jT0 326 cl bk n 1 [l0, l1, some (jr a), l3] (jr a :: st) w := Eq.trans rfl rfl
theorem E326_1 (st : List jV) (l0 l1 l2 l3 : Option jV) (w : jH) : jblk jT0 326 cl bk (n + 1) 1 [l0, l1, l2, l3] st w = jblk jT0 326 cl bk n 2 [l0, l1, l2, l3] (.inl 0 :: st) w := Eq.trans rfl rfl
theorem E326_2 (a : Nat) (st : List jV) (l1 l2 l3 : Option jV) (w : jH) : jblk jT0 326 cl bk (n + 1) 2 [some (jr a), l1, l2, l3] st w = jblk jT0 326 cl bk n 3 [some (jr a), l1, l2, l3] (jr a :: st) w := Eq.trans rfl rfl
theorem E326_3 (x : Int) (st : List jV) (l0 l2 l3 : Option jV) (w : jH) : jblk jT0 326 cl bk (n + 1) 3 [l0, some (.inl x), l2, l3] st w = jblk jT0 326 cl bk n 4 [l0, some (.inl x), l2, l3] (.inl x :: st) w := Eq.trans rfl rfl
theorem E326_4 (a : Nat) (v0 : jV) (st : List jV) (l0 l1 l2 l3 : Option jV) (w : jH) : jblk jT0 326 cl bk (n + 2) 4 [l0, l1, l2, l3] (v0 :: jr a :: st) w = jsh st (jgo w a 6 fun _ => jcl (cl 151 [jr a, v0] w) (fun v w' => jblk jT0 326 cl bk (n + 1) 7 [l0, l1, l2, l3] (jpush v st) w') (fun E w' => if E = "java/lang/IndexOutOfBoundsException" then jblk jT0 326 cl bk (n + 1) 13 [l0, l1, l2, none] [] w' else none)) := by
  refine congrArg (jsh st) (congrArg (jgo w a _) (funext fun _ => congrArg (jcl _ _) (funext fun E => funext fun w' => ?_)))
  show (match jhx _ E with | some (h, k) => _ | none => _) = _
  unfold jhx
  by_cases h0 : E = "java/lang/IndexOutOfBoundsException"
  · rw [if_pos h0, if_pos h0]
    rfl
  rw [if_neg h0, if_neg h0]
  rfl
theorem E326_7 (x : Int) (st : List jV) (l0 l1 l2 l3 : Option jV) (w : jH) : jblk jT0 326 cl bk (n + 1) 7 [l0, l1, l2, l3] (.inl x :: st) w = jblk jT0 326 cl bk n 8 [l0, l1, l2, l3] (.inr (.inl x) :: st) w := Eq.trans rfl rfl
theorem E326_8 (x : Int) (y : Int) (a : Nat) (st : List jV) (l0 l1 l2 l3 : Option jV) (w : jH) : jblk jT0 326 cl bk (n + 1) 8 [l0, l1, l2, l3] (.inr (.inl y) :: .inl x :: jr a :: st) w = jal w a x y fun w' => jblk jT0 326 cl bk n 9 [l0, l1, l2, l3] st w' := Eq.trans rfl rfl
theorem E326_9 (st : List jV) (l0 l1 l2 l3 : Option jV) (w : jH) : jblk jT0 326 cl bk (n + 1) 9 [l0, l1, l2, l3] st w = jblk jT0 326 cl bk n 15 [l0, l1, l2, l3] st w := Eq.trans rfl rfl
theorem E326_13 (st : List jV) (l0 l1 l2 l3 : Option jV) (w : jH) : jblk jT0 326 cl bk (n + 1) 13 [l0, l1, l2, l3] st w = jblk jT0 326 cl bk n 14 [l0, l1, l2, l3] (.inl 1 :: st) w := Eq.trans rfl rfl
theorem E326_14 (x : Int) (l0 l1 l2 l3 : Option jV) (w : jH) : jblk jT0 326 cl bk (n + 1) 14 [l0, l1, l2, l3] [.inl x] w = if jfits .int x = true then some (.inl (some (.inl x)), w) else none := Eq.trans rfl rfl
theorem E326_15 (st : List jV) (l0 l1 l2 l3 : Option jV) (w : jH) : jblk jT0 326 cl bk (n + 1) 15 [l0, l1, l2, l3] st w = jblk jT0 326 cl bk n 16 [l0, l1, l2, l3] (.inl 0 :: st) w := Eq.trans rfl rfl
theorem E326_16 (x : Int) (l0 l1 l2 l3 : Option jV) (w : jH) : jblk jT0 326 cl bk (n + 1) 16 [l0, l1, l2, l3] [.inl x] w = if jfits .int x = true then some (.inl (some (.inl x)), w) else none := Eq.trans rfl rfl
theorem E327_0 (a : Nat) (st : List jV) (l0 l1 l3 : Option jV) (w : jH) : jblk jT0 327 cl bk (n + 1) 0 [l0, l1, some (jr a), l3] st w = jblk jT0 327 cl bk n 1 [l0, l1, some (jr a), l3] (jr a :: st) w := Eq.trans rfl rfl
theorem E327_1 (st : List jV) (l0 l1 l2 l3 : Option jV) (w : jH) : jblk jT0 327 cl bk (n + 1) 1 [l0, l1, l2, l3] st w = jblk jT0 327 cl bk n 2 [l0, l1, l2, l3] (.inl 0 :: st) w := Eq.trans rfl rfl
theorem E327_2 (a : Nat) (st : List jV) (l1 l2 l3 : Option jV) (w : jH) : jblk jT0 327 cl bk (n + 1) 2 [some (jr a), l1, l2, l3] st w = jblk jT0 327 cl bk n 3 [some (jr a), l1, l2, l3] (jr a :: st) w := Eq.trans rfl rfl
theorem E327_3 (x : Int) (st : List jV) (l0 l2 l3 : Option jV) (w : jH) : jblk jT0 327 cl bk (n + 1) 3 [l0, some (.inl x), l2, l3] st w = jblk jT0 327 cl bk n 4 [l0, some (.inl x), l2, l3] (.inl x :: st) w := Eq.trans rfl rfl
theorem E327_4 (a : Nat) (v0 : jV) (st : List jV) (l0 l1 l2 l3 : Option jV) (w : jH) : jblk jT0 327 cl bk (n + 2) 4 [l0, l1, l2, l3] (v0 :: jr a :: st) w = jsh st (jgo w a 6 fun _ => jcl (cl 153 [jr a, v0] w) (fun v w' => jblk jT0 327 cl bk (n + 1) 7 [l0, l1, l2, l3] (jpush v st) w') (fun E w' => if E = "java/lang/IndexOutOfBoundsException" then jblk jT0 327 cl bk (n + 1) 13 [l0, l1, l2, none] [] w' else none)) := by
  refine congrArg (jsh st) (congrArg (jgo w a _) (funext fun _ => congrArg (jcl _ _) (funext fun E => funext fun w' => ?_)))
  show (match jhx _ E with | some (h, k) => _ | none => _) = _
  unfold jhx
  by_cases h0 : E = "java/lang/IndexOutOfBoundsException"
  · rw [if_pos h0, if_pos h0]
    rfl
  rw [if_neg h0, if_neg h0]
  rfl
theorem E327_7 (x : Int) (st : List jV) (l0 l1 l2 l3 : Option jV) (w : jH) : jblk jT0 327 cl bk (n + 1) 7 [l0, l1, l2, l3] (.inl x :: st) w = jblk jT0 327 cl bk n 8 [l0, l1, l2, l3] (.inr (.inl x) :: st) w := Eq.trans rfl rfl
theorem E327_8 (x : Int) (y : Int) (a : Nat) (st : List jV) (l0 l1 l2 l3 : Option jV) (w : jH) : jblk jT0 327 cl bk (n + 1) 8 [l0, l1, l2, l3] (.inr (.inl y) :: .inl x :: jr a :: st) w = jal w a x y fun w' => jblk jT0 327 cl bk n 9 [l0, l1, l2, l3] st w' := Eq.trans rfl rfl
theorem E327_9 (st : List jV) (l0 l1 l2 l3 : Option jV) (w : jH) : jblk jT0 327 cl bk (n + 1) 9 [l0, l1, l2, l3] st w = jblk jT0 327 cl bk n 15 [l0, l1, l2, l3] st w := Eq.trans rfl rfl
theorem E327_13 (st : List jV) (l0 l1 l2 l3 : Option jV) (w : jH) : jblk jT0 327 cl bk (n + 1) 13 [l0, l1, l2, l3] st w = jblk jT0 327 cl bk n 14 [l0, l1, l2, l3] (.inl 1 :: st) w := Eq.trans rfl rfl
theorem E327_14 (x : Int) (l0 l1 l2 l3 : Option jV) (w : jH) : jblk jT0 327 cl bk (n + 1) 14 [l0, l1, l2, l3] [.inl x] w = if jfits .int x = true then some (.inl (some (.inl x)), w) else none := Eq.trans rfl rfl
theorem E327_15 (st : List jV) (l0 l1 l2 l3 : Option jV) (w : jH) : jblk jT0 327 cl bk (n + 1) 15 [l0, l1, l2, l3] st w = jblk jT0 327 cl bk n 16 [l0, l1, l2, l3] (.inl 0 :: st) w := Eq.trans rfl rfl
theorem E327_16 (x : Int) (l0 l1 l2 l3 : Option jV) (w : jH) : jblk jT0 327 cl bk (n + 1) 16 [l0, l1, l2, l3] [.inl x] w = if jfits .int x = true then some (.inl (some (.inl x)), w) else none := Eq.trans rfl rfl
theorem E328_0 (a : Nat) (st : List jV) (l0 l1 l3 : Option jV) (w : jH) : jblk jT0 328 cl bk (n + 1) 0 [l0, l1, some (jr a), l3] st w = jblk jT0 328 cl bk n 1 [l0, l1, some (jr a), l3] (jr a :: st) w := Eq.trans rfl rfl
theorem E328_1 (st : List jV) (l0 l1 l2 l3 : Option jV) (w : jH) : jblk jT0 328 cl bk (n + 1) 1 [l0, l1, l2, l3] st w = jblk jT0 328 cl bk n 2 [l0, l1, l2, l3] (.inl 0 :: st) w := Eq.trans rfl rfl
theorem E328_2 (a : Nat) (st : List jV) (l1 l2 l3 : Option jV) (w : jH) : jblk jT0 328 cl bk (n + 1) 2 [some (jr a), l1, l2, l3] st w = jblk jT0 328 cl bk n 3 [some (jr a), l1, l2, l3] (jr a :: st) w := Eq.trans rfl rfl
theorem E328_3 (x : Int) (st : List jV) (l0 l2 l3 : Option jV) (w : jH) : jblk jT0 328 cl bk (n + 1) 3 [l0, some (.inl x), l2, l3] st w = jblk jT0 328 cl bk n 4 [l0, some (.inl x), l2, l3] (.inl x :: st) w := Eq.trans rfl rfl
theorem E328_4 (a : Nat) (v0 : jV) (st : List jV) (l0 l1 l2 l3 : Option jV) (w : jH) : jblk jT0 328 cl bk (n + 2) 4 [l0, l1, l2, l3] (v0 :: jr a :: st) w = jsh st (jgo w a 6 fun _ => jcl (cl 154 [jr a, v0] w) (fun v w' => jblk jT0 328 cl bk (n + 1) 7 [l0, l1, l2, l3] (jpush v st) w') (fun E w' => if E = "java/lang/IndexOutOfBoundsException" then jblk jT0 328 cl bk (n + 1) 13 [l0, l1, l2, none] [] w' else none)) := by
  refine congrArg (jsh st) (congrArg (jgo w a _) (funext fun _ => congrArg (jcl _ _) (funext fun E => funext fun w' => ?_)))
  show (match jhx _ E with | some (h, k) => _ | none => _) = _
  unfold jhx
  by_cases h0 : E = "java/lang/IndexOutOfBoundsException"
  · rw [if_pos h0, if_pos h0]
    rfl
  rw [if_neg h0, if_neg h0]
  rfl
theorem E328_7 (x : Int) (st : List jV) (l0 l1 l2 l3 : Option jV) (w : jH) : jblk jT0 328 cl bk (n + 1) 7 [l0, l1, l2, l3] (.inl x :: st) w = jblk jT0 328 cl bk n 8 [l0, l1, l2, l3] (.inr (.inl x) :: st) w := Eq.trans rfl rfl
theorem E328_8 (x : Int) (y : Int) (a : Nat) (st : List jV) (l0 l1 l2 l3 : Option jV) (w : jH) : jblk jT0 328 cl bk (n + 1) 8 [l0, l1, l2, l3] (.inr (.inl y) :: .inl x :: jr a :: st) w = jal w a x y fun w' => jblk jT0 328 cl bk n 9 [l0, l1, l2, l3] st w' := Eq.trans rfl rfl
theorem E328_9 (st : List jV) (l0 l1 l2 l3 : Option jV) (w : jH) : jblk jT0 328 cl bk (n + 1) 9 [l0, l1, l2, l3] st w = jblk jT0 328 cl bk n 15 [l0, l1, l2, l3] st w := Eq.trans rfl rfl
theorem E328_13 (st : List jV) (l0 l1 l2 l3 : Option jV) (w : jH) : jblk jT0 328 cl bk (n + 1) 13 [l0, l1, l2, l3] st w = jblk jT0 328 cl bk n 14 [l0, l1, l2, l3] (.inl 1 :: st) w := Eq.trans rfl rfl
theorem E328_14 (x : Int) (l0 l1 l2 l3 : Option jV) (w : jH) : jblk jT0 328 cl bk (n + 1) 14 [l0, l1, l2, l3] [.inl x] w = if jfits .int x = true then some (.inl (some (.inl x)), w) else none := Eq.trans rfl rfl
theorem E328_15 (st : List jV) (l0 l1 l2 l3 : Option jV) (w : jH) : jblk jT0 328 cl bk (n + 1) 15 [l0, l1, l2, l3] st w = jblk jT0 328 cl bk n 16 [l0, l1, l2, l3] (.inl 0 :: st) w := Eq.trans rfl rfl
theorem E328_16 (x : Int) (l0 l1 l2 l3 : Option jV) (w : jH) : jblk jT0 328 cl bk (n + 1) 16 [l0, l1, l2, l3] [.inl x] w = if jfits .int x = true then some (.inl (some (.inl x)), w) else none := Eq.trans rfl rfl
theorem E329_0 (a : Nat) (st : List jV) (l0 l1 l3 : Option jV) (w : jH) : jblk jT0 329 cl bk (n + 1) 0 [l0, l1, some (jr a), l3] st w = jblk jT0 329 cl bk n 1 [l0, l1, some (jr a), l3] (jr a :: st) w := Eq.trans rfl rfl
theorem E329_1 (st : List jV) (l0 l1 l2 l3 : Option jV) (w : jH) : jblk jT0 329 cl bk (n + 1) 1 [l0, l1, l2, l3] st w = jblk jT0 329 cl bk n 2 [l0, l1, l2, l3] (.inl 0 :: st) w := Eq.trans rfl rfl
theorem E329_2 (a : Nat) (st : List jV) (l1 l2 l3 : Option jV) (w : jH) : jblk jT0 329 cl bk (n + 1) 2 [some (jr a), l1, l2, l3] st w = jblk jT0 329 cl bk n 3 [some (jr a), l1, l2, l3] (jr a :: st) w := Eq.trans rfl rfl
theorem E329_3 (x : Int) (st : List jV) (l0 l2 l3 : Option jV) (w : jH) : jblk jT0 329 cl bk (n + 1) 3 [l0, some (.inl x), l2, l3] st w = jblk jT0 329 cl bk n 4 [l0, some (.inl x), l2, l3] (.inl x :: st) w := Eq.trans rfl rfl
theorem E329_4 (a : Nat) (v0 : jV) (st : List jV) (l0 l1 l2 l3 : Option jV) (w : jH) : jblk jT0 329 cl bk (n + 2) 4 [l0, l1, l2, l3] (v0 :: jr a :: st) w = jsh st (jgo w a 6 fun _ => jcl (cl 155 [jr a, v0] w) (fun v w' => jblk jT0 329 cl bk (n + 1) 7 [l0, l1, l2, l3] (jpush v st) w') (fun E w' => if E = "java/lang/IllegalArgumentException" then jblk jT0 329 cl bk (n + 1) 13 [l0, l1, l2, none] [] w' else if E = "java/lang/IllegalStateException" then jblk jT0 329 cl bk (n + 1) 16 [l0, l1, l2, none] [] w' else none)) := by
  refine congrArg (jsh st) (congrArg (jgo w a _) (funext fun _ => congrArg (jcl _ _) (funext fun E => funext fun w' => ?_)))
  show (match jhx _ E with | some (h, k) => _ | none => _) = _
  unfold jhx
  by_cases h0 : E = "java/lang/IllegalArgumentException"
  · rw [if_pos h0, if_pos h0]
    rfl
  rw [if_neg h0, if_neg h0]
  unfold jhx
  by_cases h1 : E = "java/lang/IllegalStateException"
  · rw [if_pos h1, if_pos h1]
    rfl
  rw [if_neg h1, if_neg h1]
  rfl
theorem E329_7 (x : Int) (st : List jV) (l0 l1 l2 l3 : Option jV) (w : jH) : jblk jT0 329 cl bk (n + 1) 7 [l0, l1, l2, l3] (.inl x :: st) w = jblk jT0 329 cl bk n 8 [l0, l1, l2, l3] (.inr (.inl x) :: st) w := Eq.trans rfl rfl
theorem E329_8 (x : Int) (y : Int) (a : Nat) (st : List jV) (l0 l1 l2 l3 : Option jV) (w : jH) : jblk jT0 329 cl bk (n + 1) 8 [l0, l1, l2, l3] (.inr (.inl y) :: .inl x :: jr a :: st) w = jal w a x y fun w' => jblk jT0 329 cl bk n 9 [l0, l1, l2, l3] st w' := Eq.trans rfl rfl
theorem E329_9 (st : List jV) (l0 l1 l2 l3 : Option jV) (w : jH) : jblk jT0 329 cl bk (n + 1) 9 [l0, l1, l2, l3] st w = jblk jT0 329 cl bk n 18 [l0, l1, l2, l3] st w := Eq.trans rfl rfl
theorem E329_13 (st : List jV) (l0 l1 l2 l3 : Option jV) (w : jH) : jblk jT0 329 cl bk (n + 1) 13 [l0, l1, l2, l3] st w = jblk jT0 329 cl bk n 14 [l0, l1, l2, l3] (.inl 1 :: st) w := Eq.trans rfl rfl
theorem E329_14 (x : Int) (l0 l1 l2 l3 : Option jV) (w : jH) : jblk jT0 329 cl bk (n + 1) 14 [l0, l1, l2, l3] [.inl x] w = if jfits .int x = true then some (.inl (some (.inl x)), w) else none := Eq.trans rfl rfl
theorem E329_16 (st : List jV) (l0 l1 l2 l3 : Option jV) (w : jH) : jblk jT0 329 cl bk (n + 1) 16 [l0, l1, l2, l3] st w = jblk jT0 329 cl bk n 17 [l0, l1, l2, l3] (.inl 2 :: st) w := Eq.trans rfl rfl
theorem E329_17 (x : Int) (l0 l1 l2 l3 : Option jV) (w : jH) : jblk jT0 329 cl bk (n + 1) 17 [l0, l1, l2, l3] [.inl x] w = if jfits .int x = true then some (.inl (some (.inl x)), w) else none := Eq.trans rfl rfl
theorem E329_18 (st : List jV) (l0 l1 l2 l3 : Option jV) (w : jH) : jblk jT0 329 cl bk (n + 1) 18 [l0, l1, l2, l3] st w = jblk jT0 329 cl bk n 19 [l0, l1, l2, l3] (.inl 0 :: st) w := Eq.trans rfl rfl
theorem E329_19 (x : Int) (l0 l1 l2 l3 : Option jV) (w : jH) : jblk jT0 329 cl bk (n + 1) 19 [l0, l1, l2, l3] [.inl x] w = if jfits .int x = true then some (.inl (some (.inl x)), w) else none := Eq.trans rfl rfl
theorem E330_0 (a : Nat) (st : List jV) (l0 l2 : Option jV) (w : jH) : jblk jT0 330 cl bk (n + 1) 0 [l0, some (jr a), l2] st w = jblk jT0 330 cl bk n 1 [l0, some (jr a), l2] (jr a :: st) w := Eq.trans rfl rfl
theorem E330_1 (st : List jV) (l0 l1 l2 : Option jV) (w : jH) : jblk jT0 330 cl bk (n + 1) 1 [l0, l1, l2] st w = jblk jT0 330 cl bk n 2 [l0, l1, l2] (.inl 0 :: st) w := Eq.trans rfl rfl
theorem E330_2 (a : Nat) (st : List jV) (l1 l2 : Option jV) (w : jH) : jblk jT0 330 cl bk (n + 1) 2 [some (jr a), l1, l2] st w = jblk jT0 330 cl bk n 3 [some (jr a), l1, l2] (jr a :: st) w := Eq.trans rfl rfl
theorem E330_3 (a : Nat) (st : List jV) (l0 l1 l2 : Option jV) (w : jH) : jblk jT0 330 cl bk (n + 2) 3 [l0, l1, l2] (jr a :: st) w = jsh st (jgo w a 6 fun _ => jcl (cl 156 [jr a] w) (fun v w' => jblk jT0 330 cl bk (n + 1) 6 [l0, l1, l2] (jpush v st) w') (fun E w' => if E = "java/lang/IllegalArgumentException" then jblk jT0 330 cl bk (n + 1) 12 [l0, l1, none] [] w' else if E = "java/lang/IllegalStateException" then jblk jT0 330 cl bk (n + 1) 15 [l0, l1, none] [] w' else if E = "java/lang/UnsupportedOperationException" then jblk jT0 330 cl bk (n + 1) 18 [l0, l1, none] [] w' else none)) := by
  refine congrArg (jsh st) (congrArg (jgo w a _) (funext fun _ => congrArg (jcl _ _) (funext fun E => funext fun w' => ?_)))
  show (match jhx _ E with | some (h, k) => _ | none => _) = _
  unfold jhx
  by_cases h0 : E = "java/lang/IllegalArgumentException"
  · rw [if_pos h0, if_pos h0]
    rfl
  rw [if_neg h0, if_neg h0]
  unfold jhx
  by_cases h1 : E = "java/lang/IllegalStateException"
  · rw [if_pos h1, if_pos h1]
    rfl
  rw [if_neg h1, if_neg h1]
  unfold jhx
  by_cases h2 : E = "java/lang/UnsupportedOperationException"
  · rw [if_pos h2, if_pos h2]
    rfl
  rw [if_neg h2, if_neg h2]
  rfl
theorem E330_6 (x : Int) (st : List jV) (l0 l1 l2 : Option jV) (w : jH) : jblk jT0 330 cl bk (n + 1) 6 [l0, l1, l2] (.inl x :: st) w = jblk jT0 330 cl bk n 7 [l0, l1, l2] (.inr (.inl x) :: st) w := Eq.trans rfl rfl
theorem E330_7 (x : Int) (y : Int) (a : Nat) (st : List jV) (l0 l1 l2 : Option jV) (w : jH) : jblk jT0 330 cl bk (n + 1) 7 [l0, l1, l2] (.inr (.inl y) :: .inl x :: jr a :: st) w = jal w a x y fun w' => jblk jT0 330 cl bk n 8 [l0, l1, l2] st w' := Eq.trans rfl rfl
theorem E330_8 (st : List jV) (l0 l1 l2 : Option jV) (w : jH) : jblk jT0 330 cl bk (n + 1) 8 [l0, l1, l2] st w = jblk jT0 330 cl bk n 20 [l0, l1, l2] st w := Eq.trans rfl rfl
theorem E330_12 (st : List jV) (l0 l1 l2 : Option jV) (w : jH) : jblk jT0 330 cl bk (n + 1) 12 [l0, l1, l2] st w = jblk jT0 330 cl bk n 13 [l0, l1, l2] (.inl 1 :: st) w := Eq.trans rfl rfl
theorem E330_13 (x : Int) (l0 l1 l2 : Option jV) (w : jH) : jblk jT0 330 cl bk (n + 1) 13 [l0, l1, l2] [.inl x] w = if jfits .int x = true then some (.inl (some (.inl x)), w) else none := Eq.trans rfl rfl
theorem E330_15 (st : List jV) (l0 l1 l2 : Option jV) (w : jH) : jblk jT0 330 cl bk (n + 1) 15 [l0, l1, l2] st w = jblk jT0 330 cl bk n 16 [l0, l1, l2] (.inl 2 :: st) w := Eq.trans rfl rfl
theorem E330_16 (x : Int) (l0 l1 l2 : Option jV) (w : jH) : jblk jT0 330 cl bk (n + 1) 16 [l0, l1, l2] [.inl x] w = if jfits .int x = true then some (.inl (some (.inl x)), w) else none := Eq.trans rfl rfl
theorem E330_18 (st : List jV) (l0 l1 l2 : Option jV) (w : jH) : jblk jT0 330 cl bk (n + 1) 18 [l0, l1, l2] st w = jblk jT0 330 cl bk n 19 [l0, l1, l2] (.inl 3 :: st) w := Eq.trans rfl rfl
theorem E330_19 (x : Int) (l0 l1 l2 : Option jV) (w : jH) : jblk jT0 330 cl bk (n + 1) 19 [l0, l1, l2] [.inl x] w = if jfits .int x = true then some (.inl (some (.inl x)), w) else none := Eq.trans rfl rfl
theorem E330_20 (st : List jV) (l0 l1 l2 : Option jV) (w : jH) : jblk jT0 330 cl bk (n + 1) 20 [l0, l1, l2] st w = jblk jT0 330 cl bk n 21 [l0, l1, l2] (.inl 0 :: st) w := Eq.trans rfl rfl
theorem E330_21 (x : Int) (l0 l1 l2 : Option jV) (w : jH) : jblk jT0 330 cl bk (n + 1) 21 [l0, l1, l2] [.inl x] w = if jfits .int x = true then some (.inl (some (.inl x)), w) else none := Eq.trans rfl rfl
theorem E331_0 (a : Nat) (st : List jV) (l0 l2 : Option jV) (w : jH) : jblk jT0 331 cl bk (n + 1) 0 [l0, some (jr a), l2] st w = jblk jT0 331 cl bk n 1 [l0, some (jr a), l2] (jr a :: st) w := Eq.trans rfl rfl
theorem E331_1 (st : List jV) (l0 l1 l2 : Option jV) (w : jH) : jblk jT0 331 cl bk (n + 1) 1 [l0, l1, l2] st w = jblk jT0 331 cl bk n 2 [l0, l1, l2] (.inl 0 :: st) w := Eq.trans rfl rfl
theorem E331_2 (a : Nat) (st : List jV) (l1 l2 : Option jV) (w : jH) : jblk jT0 331 cl bk (n + 1) 2 [some (jr a), l1, l2] st w = jblk jT0 331 cl bk n 3 [some (jr a), l1, l2] (jr a :: st) w := Eq.trans rfl rfl
theorem E331_3 (a : Nat) (st : List jV) (l0 l1 l2 : Option jV) (w : jH) : jblk jT0 331 cl bk (n + 2) 3 [l0, l1, l2] (jr a :: st) w = jsh st (jgo w a 6 fun _ => jcl (cl 158 [jr a] w) (fun v w' => jblk jT0 331 cl bk (n + 1) 6 [l0, l1, l2] (jpush v st) w') (fun E w' => if E = "java/util/NoSuchElementException" then jblk jT0 331 cl bk (n + 1) 12 [l0, l1, none] [] w' else none)) := by
  refine congrArg (jsh st) (congrArg (jgo w a _) (funext fun _ => congrArg (jcl _ _) (funext fun E => funext fun w' => ?_)))
  show (match jhx _ E with | some (h, k) => _ | none => _) = _
  unfold jhx
  by_cases h0 : E = "java/util/NoSuchElementException"
  · rw [if_pos h0, if_pos h0]
    rfl
  rw [if_neg h0, if_neg h0]
  rfl
theorem E331_6 (x : Int) (st : List jV) (l0 l1 l2 : Option jV) (w : jH) : jblk jT0 331 cl bk (n + 1) 6 [l0, l1, l2] (.inl x :: st) w = jblk jT0 331 cl bk n 7 [l0, l1, l2] (.inr (.inl x) :: st) w := Eq.trans rfl rfl
theorem E331_7 (x : Int) (y : Int) (a : Nat) (st : List jV) (l0 l1 l2 : Option jV) (w : jH) : jblk jT0 331 cl bk (n + 1) 7 [l0, l1, l2] (.inr (.inl y) :: .inl x :: jr a :: st) w = jal w a x y fun w' => jblk jT0 331 cl bk n 8 [l0, l1, l2] st w' := Eq.trans rfl rfl
theorem E331_8 (st : List jV) (l0 l1 l2 : Option jV) (w : jH) : jblk jT0 331 cl bk (n + 1) 8 [l0, l1, l2] st w = jblk jT0 331 cl bk n 14 [l0, l1, l2] st w := Eq.trans rfl rfl
theorem E331_12 (st : List jV) (l0 l1 l2 : Option jV) (w : jH) : jblk jT0 331 cl bk (n + 1) 12 [l0, l1, l2] st w = jblk jT0 331 cl bk n 13 [l0, l1, l2] (.inl 1 :: st) w := Eq.trans rfl rfl
theorem E331_13 (x : Int) (l0 l1 l2 : Option jV) (w : jH) : jblk jT0 331 cl bk (n + 1) 13 [l0, l1, l2] [.inl x] w = if jfits .int x = true then some (.inl (some (.inl x)), w) else none := Eq.trans rfl rfl
theorem E331_14 (st : List jV) (l0 l1 l2 : Option jV) (w : jH) : jblk jT0 331 cl bk (n + 1) 14 [l0, l1, l2] st w = jblk jT0 331 cl bk n 15 [l0, l1, l2] (.inl 0 :: st) w := Eq.trans rfl rfl
theorem E331_15 (x : Int) (l0 l1 l2 : Option jV) (w : jH) : jblk jT0 331 cl bk (n + 1) 15 [l0, l1, l2] [.inl x] w = if jfits .int x = true then some (.inl (some (.inl x)), w) else none := Eq.trans rfl rfl
theorem E332_0 (a : Nat) (st : List jV) (l0 l2 : Option jV) (w : jH) : jblk jT0 332 cl bk (n + 1) 0 [l0, some (jr a), l2] st w = jblk jT0 332 cl bk n 1 [l0, some (jr a), l2] (jr a :: st) w := Eq.trans rfl rfl
theorem E332_1 (st : List jV) (l0 l1 l2 : Option jV) (w : jH) : jblk jT0 332 cl bk (n + 1) 1 [l0, l1, l2] st w = jblk jT0 332 cl bk n 2 [l0, l1, l2] (.inl 0 :: st) w := Eq.trans rfl rfl
theorem E332_2 (a : Nat) (st : List jV) (l1 l2 : Option jV) (w : jH) : jblk jT0 332 cl bk (n + 1) 2 [some (jr a), l1, l2] st w = jblk jT0 332 cl bk n 3 [some (jr a), l1, l2] (jr a :: st) w := Eq.trans rfl rfl
theorem E332_3 (a : Nat) (st : List jV) (l0 l1 l2 : Option jV) (w : jH) : jblk jT0 332 cl bk (n + 2) 3 [l0, l1, l2] (jr a :: st) w = jsh st (jgo w a 6 fun _ => jcl (cl 159 [jr a] w) (fun v w' => jblk jT0 332 cl bk (n + 1) 6 [l0, l1, l2] (jpush v st) w') (fun E w' => if E = "java/util/NoSuchElementException" then jblk jT0 332 cl bk (n + 1) 12 [l0, l1, none] [] w' else none)) := by
  refine congrArg (jsh st) (congrArg (jgo w a _) (funext fun _ => congrArg (jcl _ _) (funext fun E => funext fun w' => ?_)))
  show (match jhx _ E with | some (h, k) => _ | none => _) = _
  unfold jhx
  by_cases h0 : E = "java/util/NoSuchElementException"
  · rw [if_pos h0, if_pos h0]
    rfl
  rw [if_neg h0, if_neg h0]
  rfl
theorem E332_6 (x : Int) (st : List jV) (l0 l1 l2 : Option jV) (w : jH) : jblk jT0 332 cl bk (n + 1) 6 [l0, l1, l2] (.inl x :: st) w = jblk jT0 332 cl bk n 7 [l0, l1, l2] (.inr (.inl x) :: st) w := Eq.trans rfl rfl
theorem E332_7 (x : Int) (y : Int) (a : Nat) (st : List jV) (l0 l1 l2 : Option jV) (w : jH) : jblk jT0 332 cl bk (n + 1) 7 [l0, l1, l2] (.inr (.inl y) :: .inl x :: jr a :: st) w = jal w a x y fun w' => jblk jT0 332 cl bk n 8 [l0, l1, l2] st w' := Eq.trans rfl rfl
theorem E332_8 (st : List jV) (l0 l1 l2 : Option jV) (w : jH) : jblk jT0 332 cl bk (n + 1) 8 [l0, l1, l2] st w = jblk jT0 332 cl bk n 14 [l0, l1, l2] st w := Eq.trans rfl rfl
theorem E332_12 (st : List jV) (l0 l1 l2 : Option jV) (w : jH) : jblk jT0 332 cl bk (n + 1) 12 [l0, l1, l2] st w = jblk jT0 332 cl bk n 13 [l0, l1, l2] (.inl 1 :: st) w := Eq.trans rfl rfl
theorem E332_13 (x : Int) (l0 l1 l2 : Option jV) (w : jH) : jblk jT0 332 cl bk (n + 1) 13 [l0, l1, l2] [.inl x] w = if jfits .int x = true then some (.inl (some (.inl x)), w) else none := Eq.trans rfl rfl
theorem E332_14 (st : List jV) (l0 l1 l2 : Option jV) (w : jH) : jblk jT0 332 cl bk (n + 1) 14 [l0, l1, l2] st w = jblk jT0 332 cl bk n 15 [l0, l1, l2] (.inl 0 :: st) w := Eq.trans rfl rfl
theorem E332_15 (x : Int) (l0 l1 l2 : Option jV) (w : jH) : jblk jT0 332 cl bk (n + 1) 15 [l0, l1, l2] [.inl x] w = if jfits .int x = true then some (.inl (some (.inl x)), w) else none := Eq.trans rfl rfl
theorem E333_0 (a : Nat) (st : List jV) (l0 l2 : Option jV) (w : jH) : jblk jT0 333 cl bk (n + 1) 0 [l0, some (jr a), l2] st w = jblk jT0 333 cl bk n 1 [l0, some (jr a), l2] (jr a :: st) w := Eq.trans rfl rfl
theorem E333_1 (st : List jV) (l0 l1 l2 : Option jV) (w : jH) : jblk jT0 333 cl bk (n + 1) 1 [l0, l1, l2] st w = jblk jT0 333 cl bk n 2 [l0, l1, l2] (.inl 0 :: st) w := Eq.trans rfl rfl
theorem E333_2 (a : Nat) (st : List jV) (l1 l2 : Option jV) (w : jH) : jblk jT0 333 cl bk (n + 1) 2 [some (jr a), l1, l2] st w = jblk jT0 333 cl bk n 3 [some (jr a), l1, l2] (jr a :: st) w := Eq.trans rfl rfl
theorem E333_3 (a : Nat) (st : List jV) (l0 l1 l2 : Option jV) (w : jH) : jblk jT0 333 cl bk (n + 2) 3 [l0, l1, l2] (jr a :: st) w = jsh st (jgo w a 6 fun _ => jcl (cl 160 [jr a] w) (fun v w' => jblk jT0 333 cl bk (n + 1) 6 [l0, l1, l2] (jpush v st) w') (fun E w' => if E = "java/util/NoSuchElementException" then jblk jT0 333 cl bk (n + 1) 12 [l0, l1, none] [] w' else none)) := by
  refine congrArg (jsh st) (congrArg (jgo w a _) (funext fun _ => congrArg (jcl _ _) (funext fun E => funext fun w' => ?_)))
  show (match jhx _ E with | some (h, k) => _ | none => _) = _
  unfold jhx
  by_cases h0 : E = "java/util/NoSuchElementException"
  · rw [if_pos h0, if_pos h0]
    rfl
  rw [if_neg h0, if_neg h0]
  rfl
theorem E333_6 (x : Int) (st : List jV) (l0 l1 l2 : Option jV) (w : jH) : jblk jT0 333 cl bk (n + 1) 6 [l0, l1, l2] (.inl x :: st) w = jblk jT0 333 cl bk n 7 [l0, l1, l2] (.inr (.inl x) :: st) w := Eq.trans rfl rfl
theorem E333_7 (x : Int) (y : Int) (a : Nat) (st : List jV) (l0 l1 l2 : Option jV) (w : jH) : jblk jT0 333 cl bk (n + 1) 7 [l0, l1, l2] (.inr (.inl y) :: .inl x :: jr a :: st) w = jal w a x y fun w' => jblk jT0 333 cl bk n 8 [l0, l1, l2] st w' := Eq.trans rfl rfl
theorem E333_8 (st : List jV) (l0 l1 l2 : Option jV) (w : jH) : jblk jT0 333 cl bk (n + 1) 8 [l0, l1, l2] st w = jblk jT0 333 cl bk n 14 [l0, l1, l2] st w := Eq.trans rfl rfl
theorem E333_12 (st : List jV) (l0 l1 l2 : Option jV) (w : jH) : jblk jT0 333 cl bk (n + 1) 12 [l0, l1, l2] st w = jblk jT0 333 cl bk n 13 [l0, l1, l2] (.inl 1 :: st) w := Eq.trans rfl rfl
theorem E333_13 (x : Int) (l0 l1 l2 : Option jV) (w : jH) : jblk jT0 333 cl bk (n + 1) 13 [l0, l1, l2] [.inl x] w = if jfits .int x = true then some (.inl (some (.inl x)), w) else none := Eq.trans rfl rfl
theorem E333_14 (st : List jV) (l0 l1 l2 : Option jV) (w : jH) : jblk jT0 333 cl bk (n + 1) 14 [l0, l1, l2] st w = jblk jT0 333 cl bk n 15 [l0, l1, l2] (.inl 0 :: st) w := Eq.trans rfl rfl
theorem E333_15 (x : Int) (l0 l1 l2 : Option jV) (w : jH) : jblk jT0 333 cl bk (n + 1) 15 [l0, l1, l2] [.inl x] w = if jfits .int x = true then some (.inl (some (.inl x)), w) else none := Eq.trans rfl rfl
theorem E334_0 (a : Nat) (st : List jV) (l0 l2 : Option jV) (w : jH) : jblk jT0 334 cl bk (n + 1) 0 [l0, some (jr a), l2] st w = jblk jT0 334 cl bk n 1 [l0, some (jr a), l2] (jr a :: st) w := Eq.trans rfl rfl
theorem E334_1 (st : List jV) (l0 l1 l2 : Option jV) (w : jH) : jblk jT0 334 cl bk (n + 1) 1 [l0, l1, l2] st w = jblk jT0 334 cl bk n 2 [l0, l1, l2] (.inl 0 :: st) w := Eq.trans rfl rfl
theorem E334_2 (a : Nat) (st : List jV) (l1 l2 : Option jV) (w : jH) : jblk jT0 334 cl bk (n + 1) 2 [some (jr a), l1, l2] st w = jblk jT0 334 cl bk n 3 [some (jr a), l1, l2] (jr a :: st) w := Eq.trans rfl rfl
theorem E334_3 (a : Nat) (st : List jV) (l0 l1 l2 : Option jV) (w : jH) : jblk jT0 334 cl bk (n + 2) 3 [l0, l1, l2] (jr a :: st) w = jsh st (jgo w a 6 fun _ => jcl (cl 161 [jr a] w) (fun v w' => jblk jT0 334 cl bk (n + 1) 6 [l0, l1, l2] (jpush v st) w') (fun E w' => if E = "java/util/NoSuchElementException" then jblk jT0 334 cl bk (n + 1) 12 [l0, l1, none] [] w' else none)) := by
  refine congrArg (jsh st) (congrArg (jgo w a _) (funext fun _ => congrArg (jcl _ _) (funext fun E => funext fun w' => ?_)))
  show (match jhx _ E with | some (h, k) => _ | none => _) = _
  unfold jhx
  by_cases h0 : E = "java/util/NoSuchElementException"
  · rw [if_pos h0, if_pos h0]
    rfl
  rw [if_neg h0, if_neg h0]
  rfl
theorem E334_6 (x : Int) (st : List jV) (l0 l1 l2 : Option jV) (w : jH) : jblk jT0 334 cl bk (n + 1) 6 [l0, l1, l2] (.inl x :: st) w = jblk jT0 334 cl bk n 7 [l0, l1, l2] (.inr (.inl x) :: st) w := Eq.trans rfl rfl
theorem E334_7 (x : Int) (y : Int) (a : Nat) (st : List jV) (l0 l1 l2 : Option jV) (w : jH) : jblk jT0 334 cl bk (n + 1) 7 [l0, l1, l2] (.inr (.inl y) :: .inl x :: jr a :: st) w = jal w a x y fun w' => jblk jT0 334 cl bk n 8 [l0, l1, l2] st w' := Eq.trans rfl rfl
theorem E334_8 (st : List jV) (l0 l1 l2 : Option jV) (w : jH) : jblk jT0 334 cl bk (n + 1) 8 [l0, l1, l2] st w = jblk jT0 334 cl bk n 14 [l0, l1, l2] st w := Eq.trans rfl rfl
theorem E334_12 (st : List jV) (l0 l1 l2 : Option jV) (w : jH) : jblk jT0 334 cl bk (n + 1) 12 [l0, l1, l2] st w = jblk jT0 334 cl bk n 13 [l0, l1, l2] (.inl 1 :: st) w := Eq.trans rfl rfl
theorem E334_13 (x : Int) (l0 l1 l2 : Option jV) (w : jH) : jblk jT0 334 cl bk (n + 1) 13 [l0, l1, l2] [.inl x] w = if jfits .int x = true then some (.inl (some (.inl x)), w) else none := Eq.trans rfl rfl
theorem E334_14 (st : List jV) (l0 l1 l2 : Option jV) (w : jH) : jblk jT0 334 cl bk (n + 1) 14 [l0, l1, l2] st w = jblk jT0 334 cl bk n 15 [l0, l1, l2] (.inl 0 :: st) w := Eq.trans rfl rfl
theorem E334_15 (x : Int) (l0 l1 l2 : Option jV) (w : jH) : jblk jT0 334 cl bk (n + 1) 15 [l0, l1, l2] [.inl x] w = if jfits .int x = true then some (.inl (some (.inl x)), w) else none := Eq.trans rfl rfl
theorem E335_0 (a : Nat) (st : List jV) (l0 l2 : Option jV) (w : jH) : jblk jT0 335 cl bk (n + 1) 0 [l0, some (jr a), l2] st w = jblk jT0 335 cl bk n 1 [l0, some (jr a), l2] (jr a :: st) w := Eq.trans rfl rfl
theorem E335_1 (st : List jV) (l0 l1 l2 : Option jV) (w : jH) : jblk jT0 335 cl bk (n + 1) 1 [l0, l1, l2] st w = jblk jT0 335 cl bk n 2 [l0, l1, l2] (.inl 0 :: st) w := Eq.trans rfl rfl
theorem E335_2 (a : Nat) (st : List jV) (l1 l2 : Option jV) (w : jH) : jblk jT0 335 cl bk (n + 1) 2 [some (jr a), l1, l2] st w = jblk jT0 335 cl bk n 3 [some (jr a), l1, l2] (jr a :: st) w := Eq.trans rfl rfl
theorem E335_3 (a : Nat) (st : List jV) (l0 l1 l2 : Option jV) (w : jH) : jblk jT0 335 cl bk (n + 2) 3 [l0, l1, l2] (jr a :: st) w = jsh st (jgo w a 6 fun _ => jcl (cl 162 [jr a] w) (fun v w' => jblk jT0 335 cl bk (n + 1) 6 [l0, l1, l2] (jpush v st) w') (fun E w' => if E = "java/lang/IllegalStateException" then jblk jT0 335 cl bk (n + 1) 12 [l0, l1, none] [] w' else none)) := by
  refine congrArg (jsh st) (congrArg (jgo w a _) (funext fun _ => congrArg (jcl _ _) (funext fun E => funext fun w' => ?_)))
  show (match jhx _ E with | some (h, k) => _ | none => _) = _
  unfold jhx
  by_cases h0 : E = "java/lang/IllegalStateException"
  · rw [if_pos h0, if_pos h0]
    rfl
  rw [if_neg h0, if_neg h0]
  rfl
theorem E335_6 (x : Int) (st : List jV) (l0 l1 l2 : Option jV) (w : jH) : jblk jT0 335 cl bk (n + 1) 6 [l0, l1, l2] (.inl x :: st) w = jblk jT0 335 cl bk n 7 [l0, l1, l2] (.inr (.inl x) :: st) w := Eq.trans rfl rfl
theorem E335_7 (x : Int) (y : Int) (a : Nat) (st : List jV) (l0 l1 l2 : Option jV) (w : jH) : jblk jT0 335 cl bk (n + 1) 7 [l0, l1, l2] (.inr (.inl y) :: .inl x :: jr a :: st) w = jal w a x y fun w' => jblk jT0 335 cl bk n 8 [l0, l1, l2] st w' := Eq.trans rfl rfl
theorem E335_8 (st : List jV) (l0 l1 l2 : Option jV) (w : jH) : jblk jT0 335 cl bk (n + 1) 8 [l0, l1, l2] st w = jblk jT0 335 cl bk n 14 [l0, l1, l2] st w := Eq.trans rfl rfl
theorem E335_12 (st : List jV) (l0 l1 l2 : Option jV) (w : jH) : jblk jT0 335 cl bk (n + 1) 12 [l0, l1, l2] st w = jblk jT0 335 cl bk n 13 [l0, l1, l2] (.inl 1 :: st) w := Eq.trans rfl rfl
theorem E335_13 (x : Int) (l0 l1 l2 : Option jV) (w : jH) : jblk jT0 335 cl bk (n + 1) 13 [l0, l1, l2] [.inl x] w = if jfits .int x = true then some (.inl (some (.inl x)), w) else none := Eq.trans rfl rfl
theorem E335_14 (st : List jV) (l0 l1 l2 : Option jV) (w : jH) : jblk jT0 335 cl bk (n + 1) 14 [l0, l1, l2] st w = jblk jT0 335 cl bk n 15 [l0, l1, l2] (.inl 0 :: st) w := Eq.trans rfl rfl
theorem E335_15 (x : Int) (l0 l1 l2 : Option jV) (w : jH) : jblk jT0 335 cl bk (n + 1) 15 [l0, l1, l2] [.inl x] w = if jfits .int x = true then some (.inl (some (.inl x)), w) else none := Eq.trans rfl rfl
theorem E336_0 (a : Nat) (st : List jV) (l0 l2 : Option jV) (w : jH) : jblk jT0 336 cl bk (n + 1) 0 [l0, some (jr a), l2] st w = jblk jT0 336 cl bk n 1 [l0, some (jr a), l2] (jr a :: st) w := Eq.trans rfl rfl
theorem E336_1 (st : List jV) (l0 l1 l2 : Option jV) (w : jH) : jblk jT0 336 cl bk (n + 1) 1 [l0, l1, l2] st w = jblk jT0 336 cl bk n 2 [l0, l1, l2] (.inl 0 :: st) w := Eq.trans rfl rfl
theorem E336_2 (a : Nat) (st : List jV) (l1 l2 : Option jV) (w : jH) : jblk jT0 336 cl bk (n + 1) 2 [some (jr a), l1, l2] st w = jblk jT0 336 cl bk n 3 [some (jr a), l1, l2] (jr a :: st) w := Eq.trans rfl rfl
theorem E336_3 (a : Nat) (st : List jV) (l0 l1 l2 : Option jV) (w : jH) : jblk jT0 336 cl bk (n + 2) 3 [l0, l1, l2] (jr a :: st) w = jsh st (jgo w a 6 fun _ => jcl (cl 165 [jr a] w) (fun v w' => jblk jT0 336 cl bk (n + 1) 6 [l0, l1, l2] (jpush v st) w') (fun E w' => if E = "java/lang/IllegalStateException" then jblk jT0 336 cl bk (n + 1) 12 [l0, l1, none] [] w' else none)) := by
  refine congrArg (jsh st) (congrArg (jgo w a _) (funext fun _ => congrArg (jcl _ _) (funext fun E => funext fun w' => ?_)))
  show (match jhx _ E with | some (h, k) => _ | none => _) = _
  unfold jhx
  by_cases h0 : E = "java/lang/IllegalStateException"
  · rw [if_pos h0, if_pos h0]
    rfl
  rw [if_neg h0, if_neg h0]
  rfl
theorem E336_6 (x : Int) (st : List jV) (l0 l1 l2 : Option jV) (w : jH) : jblk jT0 336 cl bk (n + 1) 6 [l0, l1, l2] (.inl x :: st) w = jblk jT0 336 cl bk n 7 [l0, l1, l2] (.inr (.inl x) :: st) w := Eq.trans rfl rfl
theorem E336_7 (x : Int) (y : Int) (a : Nat) (st : List jV) (l0 l1 l2 : Option jV) (w : jH) : jblk jT0 336 cl bk (n + 1) 7 [l0, l1, l2] (.inr (.inl y) :: .inl x :: jr a :: st) w = jal w a x y fun w' => jblk jT0 336 cl bk n 8 [l0, l1, l2] st w' := Eq.trans rfl rfl
theorem E336_8 (st : List jV) (l0 l1 l2 : Option jV) (w : jH) : jblk jT0 336 cl bk (n + 1) 8 [l0, l1, l2] st w = jblk jT0 336 cl bk n 14 [l0, l1, l2] st w := Eq.trans rfl rfl
theorem E336_12 (st : List jV) (l0 l1 l2 : Option jV) (w : jH) : jblk jT0 336 cl bk (n + 1) 12 [l0, l1, l2] st w = jblk jT0 336 cl bk n 13 [l0, l1, l2] (.inl 1 :: st) w := Eq.trans rfl rfl
theorem E336_13 (x : Int) (l0 l1 l2 : Option jV) (w : jH) : jblk jT0 336 cl bk (n + 1) 13 [l0, l1, l2] [.inl x] w = if jfits .int x = true then some (.inl (some (.inl x)), w) else none := Eq.trans rfl rfl
theorem E336_14 (st : List jV) (l0 l1 l2 : Option jV) (w : jH) : jblk jT0 336 cl bk (n + 1) 14 [l0, l1, l2] st w = jblk jT0 336 cl bk n 15 [l0, l1, l2] (.inl 0 :: st) w := Eq.trans rfl rfl
theorem E336_15 (x : Int) (l0 l1 l2 : Option jV) (w : jH) : jblk jT0 336 cl bk (n + 1) 15 [l0, l1, l2] [.inl x] w = if jfits .int x = true then some (.inl (some (.inl x)), w) else none := Eq.trans rfl rfl
end
theorem M288 (d : Nat) (r0 : Nat) (r1 : Nat) (w : jH) : jme jT0 jMx (d + 1) 288 [jr r0, jr r1] w = jblk jT0 288 (jme jT0 jMx d) (jlp jT0 288 (jme jT0 jMx d) 99999) 4000 0 [some (jr r0), some (jr r1), none] [] w := (show _ = jlp jT0 288 (jme jT0 jMx d) 100000 0 [some (jr r0), some (jr r1), none] [] w from rfl).trans jlp_s
theorem M289 (d : Nat) (r0 : Nat) (a1 : Int) (r2 : Nat) (w : jH) : jme jT0 jMx (d + 1) 289 [jr r0, .inl a1, jr r2] w = jblk jT0 289 (jme jT0 jMx d) (jlp jT0 289 (jme jT0 jMx d) 99999) 4000 0 [some (jr r0), some (.inl a1), some (jr r2), none] [] w := (show _ = jlp jT0 289 (jme jT0 jMx d) 100000 0 [some (jr r0), some (.inl a1), some (jr r2), none] [] w from rfl).trans jlp_s
theorem M290 (d : Nat) (r0 : Nat) (a1 : Int) (r2 : Nat) (w : jH) : jme jT0 jMx (d + 1) 290 [jr r0, .inl a1, jr r2] w = jblk jT0 290 (jme jT0 jMx d) (jlp jT0 290 (jme jT0 jMx d) 99999) 4000 0 [some (jr r0), some (.inl a1), some (jr r2), none] [] w := (show _ = jlp jT0 290 (jme jT0 jMx d) 100000 0 [some (jr r0), some (.inl a1), some (jr r2), none] [] w from rfl).trans jlp_s
theorem M291 (d : Nat) (r0 : Nat) (a1 : Int) (r2 : Nat) (w : jH) : jme jT0 jMx (d + 1) 291 [jr r0, .inl a1, jr r2] w = jblk jT0 291 (jme jT0 jMx d) (jlp jT0 291 (jme jT0 jMx d) 99999) 4000 0 [some (jr r0), some (.inl a1), some (jr r2), none] [] w := (show _ = jlp jT0 291 (jme jT0 jMx d) 100000 0 [some (jr r0), some (.inl a1), some (jr r2), none] [] w from rfl).trans jlp_s
theorem M292 (d : Nat) (r0 : Nat) (a1 : Int) (r2 : Nat) (w : jH) : jme jT0 jMx (d + 1) 292 [jr r0, .inl a1, jr r2] w = jblk jT0 292 (jme jT0 jMx d) (jlp jT0 292 (jme jT0 jMx d) 99999) 4000 0 [some (jr r0), some (.inl a1), some (jr r2), none] [] w := (show _ = jlp jT0 292 (jme jT0 jMx d) 100000 0 [some (jr r0), some (.inl a1), some (jr r2), none] [] w from rfl).trans jlp_s
theorem M293 (d : Nat) (r0 : Nat) (a1 : Int) (r2 : Nat) (w : jH) : jme jT0 jMx (d + 1) 293 [jr r0, .inl a1, jr r2] w = jblk jT0 293 (jme jT0 jMx d) (jlp jT0 293 (jme jT0 jMx d) 99999) 4000 0 [some (jr r0), some (.inl a1), some (jr r2), none] [] w := (show _ = jlp jT0 293 (jme jT0 jMx d) 100000 0 [some (jr r0), some (.inl a1), some (jr r2), none] [] w from rfl).trans jlp_s
theorem M294 (d : Nat) (r0 : Nat) (a1 : Int) (r2 : Nat) (w : jH) : jme jT0 jMx (d + 1) 294 [jr r0, .inl a1, jr r2] w = jblk jT0 294 (jme jT0 jMx d) (jlp jT0 294 (jme jT0 jMx d) 99999) 4000 0 [some (jr r0), some (.inl a1), some (jr r2), none] [] w := (show _ = jlp jT0 294 (jme jT0 jMx d) 100000 0 [some (jr r0), some (.inl a1), some (jr r2), none] [] w from rfl).trans jlp_s
theorem M295 (d : Nat) (r0 : Nat) (a1 : Int) (a2 : Int) (r3 : Nat) (w : jH) : jme jT0 jMx (d + 1) 295 [jr r0, .inl a1, .inl a2, jr r3] w = jblk jT0 295 (jme jT0 jMx d) (jlp jT0 295 (jme jT0 jMx d) 99999) 4000 0 [some (jr r0), some (.inl a1), some (.inl a2), some (jr r3), none] [] w := (show _ = jlp jT0 295 (jme jT0 jMx d) 100000 0 [some (jr r0), some (.inl a1), some (.inl a2), some (jr r3), none] [] w from rfl).trans jlp_s
theorem M296 (d : Nat) (r0 : Nat) (a1 : Int) (r2 : Nat) (w : jH) : jme jT0 jMx (d + 1) 296 [jr r0, .inl a1, jr r2] w = jblk jT0 296 (jme jT0 jMx d) (jlp jT0 296 (jme jT0 jMx d) 99999) 4000 0 [some (jr r0), some (.inl a1), some (jr r2), none] [] w := (show _ = jlp jT0 296 (jme jT0 jMx d) 100000 0 [some (jr r0), some (.inl a1), some (jr r2), none] [] w from rfl).trans jlp_s
theorem M297 (d : Nat) (r0 : Nat) (a1 : Int) (r2 : Nat) (w : jH) : jme jT0 jMx (d + 1) 297 [jr r0, .inl a1, jr r2] w = jblk jT0 297 (jme jT0 jMx d) (jlp jT0 297 (jme jT0 jMx d) 99999) 4000 0 [some (jr r0), some (.inl a1), some (jr r2), none] [] w := (show _ = jlp jT0 297 (jme jT0 jMx d) 100000 0 [some (jr r0), some (.inl a1), some (jr r2), none] [] w from rfl).trans jlp_s
theorem M298 (d : Nat) (r0 : Nat) (a1 : Int) (a2 : Int) (r3 : Nat) (w : jH) : jme jT0 jMx (d + 1) 298 [jr r0, .inl a1, .inl a2, jr r3] w = jblk jT0 298 (jme jT0 jMx d) (jlp jT0 298 (jme jT0 jMx d) 99999) 4000 0 [some (jr r0), some (.inl a1), some (.inl a2), some (jr r3), none] [] w := (show _ = jlp jT0 298 (jme jT0 jMx d) 100000 0 [some (jr r0), some (.inl a1), some (.inl a2), some (jr r3), none] [] w from rfl).trans jlp_s
theorem M299 (d : Nat) (r0 : Nat) (a1 : Int) (a2 : Int) (r3 : Nat) (w : jH) : jme jT0 jMx (d + 1) 299 [jr r0, .inl a1, .inl a2, jr r3] w = jblk jT0 299 (jme jT0 jMx d) (jlp jT0 299 (jme jT0 jMx d) 99999) 4000 0 [some (jr r0), some (.inl a1), some (.inl a2), some (jr r3), none] [] w := (show _ = jlp jT0 299 (jme jT0 jMx d) 100000 0 [some (jr r0), some (.inl a1), some (.inl a2), some (jr r3), none] [] w from rfl).trans jlp_s
theorem M300 (d : Nat) (r0 : Nat) (a1 : Int) (a2 : Int) (r3 : Nat) (w : jH) : jme jT0 jMx (d + 1) 300 [jr r0, .inl a1, .inl a2, jr r3] w = jblk jT0 300 (jme jT0 jMx d) (jlp jT0 300 (jme jT0 jMx d) 99999) 4000 0 [some (jr r0), some (.inl a1), some (.inl a2), some (jr r3), none] [] w := (show _ = jlp jT0 300 (jme jT0 jMx d) 100000 0 [some (jr r0), some (.inl a1), some (.inl a2), some (jr r3), none] [] w from rfl).trans jlp_s
theorem M301 (d : Nat) (r0 : Nat) (a1 : Int) (a2 : Int) (r3 : Nat) (w : jH) : jme jT0 jMx (d + 1) 301 [jr r0, .inl a1, .inl a2, jr r3] w = jblk jT0 301 (jme jT0 jMx d) (jlp jT0 301 (jme jT0 jMx d) 99999) 4000 0 [some (jr r0), some (.inl a1), some (.inl a2), some (jr r3), none] [] w := (show _ = jlp jT0 301 (jme jT0 jMx d) 100000 0 [some (jr r0), some (.inl a1), some (.inl a2), some (jr r3), none] [] w from rfl).trans jlp_s
theorem M302 (d : Nat) (r0 : Nat) (a1 : Int) (r2 : Nat) (w : jH) : jme jT0 jMx (d + 1) 302 [jr r0, .inl a1, jr r2] w = jblk jT0 302 (jme jT0 jMx d) (jlp jT0 302 (jme jT0 jMx d) 99999) 4000 0 [some (jr r0), some (.inl a1), some (jr r2), none] [] w := (show _ = jlp jT0 302 (jme jT0 jMx d) 100000 0 [some (jr r0), some (.inl a1), some (jr r2), none] [] w from rfl).trans jlp_s
theorem M303 (d : Nat) (r0 : Nat) (a1 : Int) (r2 : Nat) (w : jH) : jme jT0 jMx (d + 1) 303 [jr r0, .inl a1, jr r2] w = jblk jT0 303 (jme jT0 jMx d) (jlp jT0 303 (jme jT0 jMx d) 99999) 4000 0 [some (jr r0), some (.inl a1), some (jr r2), none] [] w := (show _ = jlp jT0 303 (jme jT0 jMx d) 100000 0 [some (jr r0), some (.inl a1), some (jr r2), none] [] w from rfl).trans jlp_s
theorem M304 (d : Nat) (r0 : Nat) (a1 : Int) (r2 : Nat) (w : jH) : jme jT0 jMx (d + 1) 304 [jr r0, .inl a1, jr r2] w = jblk jT0 304 (jme jT0 jMx d) (jlp jT0 304 (jme jT0 jMx d) 99999) 4000 0 [some (jr r0), some (.inl a1), some (jr r2), none] [] w := (show _ = jlp jT0 304 (jme jT0 jMx d) 100000 0 [some (jr r0), some (.inl a1), some (jr r2), none] [] w from rfl).trans jlp_s
theorem M305 (d : Nat) (r0 : Nat) (a1 : Int) (r2 : Nat) (w : jH) : jme jT0 jMx (d + 1) 305 [jr r0, .inl a1, jr r2] w = jblk jT0 305 (jme jT0 jMx d) (jlp jT0 305 (jme jT0 jMx d) 99999) 4000 0 [some (jr r0), some (.inl a1), some (jr r2), none] [] w := (show _ = jlp jT0 305 (jme jT0 jMx d) 100000 0 [some (jr r0), some (.inl a1), some (jr r2), none] [] w from rfl).trans jlp_s
theorem M306 (d : Nat) (r0 : Nat) (a1 : Int) (a2 : Int) (a3 : Int) (r4 : Nat) (w : jH) : jme jT0 jMx (d + 1) 306 [jr r0, .inl a1, .inl a2, .inl a3, jr r4] w = jblk jT0 306 (jme jT0 jMx d) (jlp jT0 306 (jme jT0 jMx d) 99999) 4000 0 [some (jr r0), some (.inl a1), some (.inl a2), some (.inl a3), some (jr r4), none] [] w := (show _ = jlp jT0 306 (jme jT0 jMx d) 100000 0 [some (jr r0), some (.inl a1), some (.inl a2), some (.inl a3), some (jr r4), none] [] w from rfl).trans jlp_s
theorem M307 (d : Nat) (r0 : Nat) (a1 : Int) (r2 : Nat) (w : jH) : jme jT0 jMx (d + 1) 307 [jr r0, .inl a1, jr r2] w = jblk jT0 307 (jme jT0 jMx d) (jlp jT0 307 (jme jT0 jMx d) 99999) 4000 0 [some (jr r0), some (.inl a1), some (jr r2), none] [] w := (show _ = jlp jT0 307 (jme jT0 jMx d) 100000 0 [some (jr r0), some (.inl a1), some (jr r2), none] [] w from rfl).trans jlp_s
theorem M308 (d : Nat) (r0 : Nat) (a1 : Int) (r2 : Nat) (w : jH) : jme jT0 jMx (d + 1) 308 [jr r0, .inl a1, jr r2] w = jblk jT0 308 (jme jT0 jMx d) (jlp jT0 308 (jme jT0 jMx d) 99999) 4000 0 [some (jr r0), some (.inl a1), some (jr r2), none] [] w := (show _ = jlp jT0 308 (jme jT0 jMx d) 100000 0 [some (jr r0), some (.inl a1), some (jr r2), none] [] w from rfl).trans jlp_s
theorem M309 (d : Nat) (r0 : Nat) (a1 : Int) (r2 : Nat) (w : jH) : jme jT0 jMx (d + 1) 309 [jr r0, .inl a1, jr r2] w = jblk jT0 309 (jme jT0 jMx d) (jlp jT0 309 (jme jT0 jMx d) 99999) 4000 0 [some (jr r0), some (.inl a1), some (jr r2), none] [] w := (show _ = jlp jT0 309 (jme jT0 jMx d) 100000 0 [some (jr r0), some (.inl a1), some (jr r2), none] [] w from rfl).trans jlp_s
theorem M310 (d : Nat) (r0 : Nat) (a1 : Int) (r2 : Nat) (w : jH) : jme jT0 jMx (d + 1) 310 [jr r0, .inl a1, jr r2] w = jblk jT0 310 (jme jT0 jMx d) (jlp jT0 310 (jme jT0 jMx d) 99999) 4000 0 [some (jr r0), some (.inl a1), some (jr r2), none] [] w := (show _ = jlp jT0 310 (jme jT0 jMx d) 100000 0 [some (jr r0), some (.inl a1), some (jr r2), none] [] w from rfl).trans jlp_s
theorem M311 (d : Nat) (r0 : Nat) (a1 : Int) (a2 : Int) (r3 : Nat) (w : jH) : jme jT0 jMx (d + 1) 311 [jr r0, .inl a1, .inl a2, jr r3] w = jblk jT0 311 (jme jT0 jMx d) (jlp jT0 311 (jme jT0 jMx d) 99999) 4000 0 [some (jr r0), some (.inl a1), some (.inl a2), some (jr r3), none] [] w := (show _ = jlp jT0 311 (jme jT0 jMx d) 100000 0 [some (jr r0), some (.inl a1), some (.inl a2), some (jr r3), none] [] w from rfl).trans jlp_s
theorem M312 (d : Nat) (r0 : Nat) (a1 : Int) (r2 : Nat) (w : jH) : jme jT0 jMx (d + 1) 312 [jr r0, .inl a1, jr r2] w = jblk jT0 312 (jme jT0 jMx d) (jlp jT0 312 (jme jT0 jMx d) 99999) 4000 0 [some (jr r0), some (.inl a1), some (jr r2), none] [] w := (show _ = jlp jT0 312 (jme jT0 jMx d) 100000 0 [some (jr r0), some (.inl a1), some (jr r2), none] [] w from rfl).trans jlp_s
theorem M313 (d : Nat) (r0 : Nat) (a1 : Int) (r2 : Nat) (w : jH) : jme jT0 jMx (d + 1) 313 [jr r0, .inl a1, jr r2] w = jblk jT0 313 (jme jT0 jMx d) (jlp jT0 313 (jme jT0 jMx d) 99999) 4000 0 [some (jr r0), some (.inl a1), some (jr r2), none] [] w := (show _ = jlp jT0 313 (jme jT0 jMx d) 100000 0 [some (jr r0), some (.inl a1), some (jr r2), none] [] w from rfl).trans jlp_s
theorem M314 (d : Nat) (r0 : Nat) (a1 : Int) (r2 : Nat) (w : jH) : jme jT0 jMx (d + 1) 314 [jr r0, .inl a1, jr r2] w = jblk jT0 314 (jme jT0 jMx d) (jlp jT0 314 (jme jT0 jMx d) 99999) 4000 0 [some (jr r0), some (.inl a1), some (jr r2), none] [] w := (show _ = jlp jT0 314 (jme jT0 jMx d) 100000 0 [some (jr r0), some (.inl a1), some (jr r2), none] [] w from rfl).trans jlp_s
theorem M315 (d : Nat) (r0 : Nat) (a1 : Int) (r2 : Nat) (w : jH) : jme jT0 jMx (d + 1) 315 [jr r0, .inl a1, jr r2] w = jblk jT0 315 (jme jT0 jMx d) (jlp jT0 315 (jme jT0 jMx d) 99999) 4000 0 [some (jr r0), some (.inl a1), some (jr r2), none] [] w := (show _ = jlp jT0 315 (jme jT0 jMx d) 100000 0 [some (jr r0), some (.inl a1), some (jr r2), none] [] w from rfl).trans jlp_s
theorem M316 (d : Nat) (r0 : Nat) (a1 : Int) (r2 : Nat) (w : jH) : jme jT0 jMx (d + 1) 316 [jr r0, .inl a1, jr r2] w = jblk jT0 316 (jme jT0 jMx d) (jlp jT0 316 (jme jT0 jMx d) 99999) 4000 0 [some (jr r0), some (.inl a1), some (jr r2), none] [] w := (show _ = jlp jT0 316 (jme jT0 jMx d) 100000 0 [some (jr r0), some (.inl a1), some (jr r2), none] [] w from rfl).trans jlp_s
theorem M317 (d : Nat) (r0 : Nat) (a1 : Int) (r2 : Nat) (w : jH) : jme jT0 jMx (d + 1) 317 [jr r0, .inl a1, jr r2] w = jblk jT0 317 (jme jT0 jMx d) (jlp jT0 317 (jme jT0 jMx d) 99999) 4000 0 [some (jr r0), some (.inl a1), some (jr r2), none] [] w := (show _ = jlp jT0 317 (jme jT0 jMx d) 100000 0 [some (jr r0), some (.inl a1), some (jr r2), none] [] w from rfl).trans jlp_s
theorem M318 (d : Nat) (r0 : Nat) (a1 : Int) (a2 : Int) (r3 : Nat) (w : jH) : jme jT0 jMx (d + 1) 318 [jr r0, .inl a1, .inl a2, jr r3] w = jblk jT0 318 (jme jT0 jMx d) (jlp jT0 318 (jme jT0 jMx d) 99999) 4000 0 [some (jr r0), some (.inl a1), some (.inl a2), some (jr r3), none] [] w := (show _ = jlp jT0 318 (jme jT0 jMx d) 100000 0 [some (jr r0), some (.inl a1), some (.inl a2), some (jr r3), none] [] w from rfl).trans jlp_s
theorem M319 (d : Nat) (r0 : Nat) (a1 : Int) (r2 : Nat) (w : jH) : jme jT0 jMx (d + 1) 319 [jr r0, .inl a1, jr r2] w = jblk jT0 319 (jme jT0 jMx d) (jlp jT0 319 (jme jT0 jMx d) 99999) 4000 0 [some (jr r0), some (.inl a1), some (jr r2), none] [] w := (show _ = jlp jT0 319 (jme jT0 jMx d) 100000 0 [some (jr r0), some (.inl a1), some (jr r2), none] [] w from rfl).trans jlp_s
theorem M320 (d : Nat) (r0 : Nat) (a1 : Int) (r2 : Nat) (w : jH) : jme jT0 jMx (d + 1) 320 [jr r0, .inl a1, jr r2] w = jblk jT0 320 (jme jT0 jMx d) (jlp jT0 320 (jme jT0 jMx d) 99999) 4000 0 [some (jr r0), some (.inl a1), some (jr r2), none] [] w := (show _ = jlp jT0 320 (jme jT0 jMx d) 100000 0 [some (jr r0), some (.inl a1), some (jr r2), none] [] w from rfl).trans jlp_s
theorem M321 (d : Nat) (r0 : Nat) (a1 : Int) (r2 : Nat) (w : jH) : jme jT0 jMx (d + 1) 321 [jr r0, .inl a1, jr r2] w = jblk jT0 321 (jme jT0 jMx d) (jlp jT0 321 (jme jT0 jMx d) 99999) 4000 0 [some (jr r0), some (.inl a1), some (jr r2), none] [] w := (show _ = jlp jT0 321 (jme jT0 jMx d) 100000 0 [some (jr r0), some (.inl a1), some (jr r2), none] [] w from rfl).trans jlp_s
theorem M322 (d : Nat) (r0 : Nat) (a1 : Int) (r2 : Nat) (w : jH) : jme jT0 jMx (d + 1) 322 [jr r0, .inl a1, jr r2] w = jblk jT0 322 (jme jT0 jMx d) (jlp jT0 322 (jme jT0 jMx d) 99999) 4000 0 [some (jr r0), some (.inl a1), some (jr r2), none] [] w := (show _ = jlp jT0 322 (jme jT0 jMx d) 100000 0 [some (jr r0), some (.inl a1), some (jr r2), none] [] w from rfl).trans jlp_s
theorem M323 (d : Nat) (r0 : Nat) (a1 : Int) (r2 : Nat) (w : jH) : jme jT0 jMx (d + 1) 323 [jr r0, .inl a1, jr r2] w = jblk jT0 323 (jme jT0 jMx d) (jlp jT0 323 (jme jT0 jMx d) 99999) 4000 0 [some (jr r0), some (.inl a1), some (jr r2), none] [] w := (show _ = jlp jT0 323 (jme jT0 jMx d) 100000 0 [some (jr r0), some (.inl a1), some (jr r2), none] [] w from rfl).trans jlp_s
theorem M326 (d : Nat) (r0 : Nat) (a1 : Int) (r2 : Nat) (w : jH) : jme jT0 jMx (d + 1) 326 [jr r0, .inl a1, jr r2] w = jblk jT0 326 (jme jT0 jMx d) (jlp jT0 326 (jme jT0 jMx d) 99999) 4000 0 [some (jr r0), some (.inl a1), some (jr r2), none] [] w := (show _ = jlp jT0 326 (jme jT0 jMx d) 100000 0 [some (jr r0), some (.inl a1), some (jr r2), none] [] w from rfl).trans jlp_s
theorem M327 (d : Nat) (r0 : Nat) (a1 : Int) (r2 : Nat) (w : jH) : jme jT0 jMx (d + 1) 327 [jr r0, .inl a1, jr r2] w = jblk jT0 327 (jme jT0 jMx d) (jlp jT0 327 (jme jT0 jMx d) 99999) 4000 0 [some (jr r0), some (.inl a1), some (jr r2), none] [] w := (show _ = jlp jT0 327 (jme jT0 jMx d) 100000 0 [some (jr r0), some (.inl a1), some (jr r2), none] [] w from rfl).trans jlp_s
theorem M328 (d : Nat) (r0 : Nat) (a1 : Int) (r2 : Nat) (w : jH) : jme jT0 jMx (d + 1) 328 [jr r0, .inl a1, jr r2] w = jblk jT0 328 (jme jT0 jMx d) (jlp jT0 328 (jme jT0 jMx d) 99999) 4000 0 [some (jr r0), some (.inl a1), some (jr r2), none] [] w := (show _ = jlp jT0 328 (jme jT0 jMx d) 100000 0 [some (jr r0), some (.inl a1), some (jr r2), none] [] w from rfl).trans jlp_s
theorem M329 (d : Nat) (r0 : Nat) (a1 : Int) (r2 : Nat) (w : jH) : jme jT0 jMx (d + 1) 329 [jr r0, .inl a1, jr r2] w = jblk jT0 329 (jme jT0 jMx d) (jlp jT0 329 (jme jT0 jMx d) 99999) 4000 0 [some (jr r0), some (.inl a1), some (jr r2), none] [] w := (show _ = jlp jT0 329 (jme jT0 jMx d) 100000 0 [some (jr r0), some (.inl a1), some (jr r2), none] [] w from rfl).trans jlp_s
theorem M330 (d : Nat) (r0 : Nat) (r1 : Nat) (w : jH) : jme jT0 jMx (d + 1) 330 [jr r0, jr r1] w = jblk jT0 330 (jme jT0 jMx d) (jlp jT0 330 (jme jT0 jMx d) 99999) 4000 0 [some (jr r0), some (jr r1), none] [] w := (show _ = jlp jT0 330 (jme jT0 jMx d) 100000 0 [some (jr r0), some (jr r1), none] [] w from rfl).trans jlp_s
theorem M331 (d : Nat) (r0 : Nat) (r1 : Nat) (w : jH) : jme jT0 jMx (d + 1) 331 [jr r0, jr r1] w = jblk jT0 331 (jme jT0 jMx d) (jlp jT0 331 (jme jT0 jMx d) 99999) 4000 0 [some (jr r0), some (jr r1), none] [] w := (show _ = jlp jT0 331 (jme jT0 jMx d) 100000 0 [some (jr r0), some (jr r1), none] [] w from rfl).trans jlp_s
theorem M332 (d : Nat) (r0 : Nat) (r1 : Nat) (w : jH) : jme jT0 jMx (d + 1) 332 [jr r0, jr r1] w = jblk jT0 332 (jme jT0 jMx d) (jlp jT0 332 (jme jT0 jMx d) 99999) 4000 0 [some (jr r0), some (jr r1), none] [] w := (show _ = jlp jT0 332 (jme jT0 jMx d) 100000 0 [some (jr r0), some (jr r1), none] [] w from rfl).trans jlp_s
theorem M333 (d : Nat) (r0 : Nat) (r1 : Nat) (w : jH) : jme jT0 jMx (d + 1) 333 [jr r0, jr r1] w = jblk jT0 333 (jme jT0 jMx d) (jlp jT0 333 (jme jT0 jMx d) 99999) 4000 0 [some (jr r0), some (jr r1), none] [] w := (show _ = jlp jT0 333 (jme jT0 jMx d) 100000 0 [some (jr r0), some (jr r1), none] [] w from rfl).trans jlp_s
theorem M334 (d : Nat) (r0 : Nat) (r1 : Nat) (w : jH) : jme jT0 jMx (d + 1) 334 [jr r0, jr r1] w = jblk jT0 334 (jme jT0 jMx d) (jlp jT0 334 (jme jT0 jMx d) 99999) 4000 0 [some (jr r0), some (jr r1), none] [] w := (show _ = jlp jT0 334 (jme jT0 jMx d) 100000 0 [some (jr r0), some (jr r1), none] [] w from rfl).trans jlp_s
theorem M335 (d : Nat) (r0 : Nat) (r1 : Nat) (w : jH) : jme jT0 jMx (d + 1) 335 [jr r0, jr r1] w = jblk jT0 335 (jme jT0 jMx d) (jlp jT0 335 (jme jT0 jMx d) 99999) 4000 0 [some (jr r0), some (jr r1), none] [] w := (show _ = jlp jT0 335 (jme jT0 jMx d) 100000 0 [some (jr r0), some (jr r1), none] [] w from rfl).trans jlp_s
theorem M336 (d : Nat) (r0 : Nat) (r1 : Nat) (w : jH) : jme jT0 jMx (d + 1) 336 [jr r0, jr r1] w = jblk jT0 336 (jme jT0 jMx d) (jlp jT0 336 (jme jT0 jMx d) 99999) 4000 0 [some (jr r0), some (jr r1), none] [] w := (show _ = jlp jT0 336 (jme jT0 jMx d) 100000 0 [some (jr r0), some (jr r1), none] [] w from rfl).trans jlp_s
def f_Law_addFounder (m : jMem) : Option (Int × jMem) := (f_Reg_addFounder m).bind fun qx1 => sel qx1.1 (fun x1 => oix (0 : Int) 1 (some (0, mset qx1.2 155 (0 : Int).toNat x1))) (fun e3 => if e3 = "java/lang/UnsupportedOperationException" then some (1, qx1.2) else none)
section
variable {cf : jCf} {dv : UInt64}
set_option maxRecDepth 20000 in
set_option maxHeartbeats 800000 in
theorem X288 (d : Nat) (m : jMem) (k : jM) : jme jT0 jMx (d + 6) 288 [jr (jn cf + 0), jr (jn cf + 155)] (hp cf dv m, k) = lWr cf dv k (f_Law_addFounder m) := by
  simp only [M288, E288_0, E288_1, E288_2, E288_3, E288_6, E288_7, E288_8, E288_12, E288_13, E288_14, E288_15, as_155, X102, go_0, jsh_n, jsh_I, jsh_R, jsh_II, jsh_IR, jsh_RI, jsh_RR, jsh_III, jsh_IIR, jsh_IRI, jsh_IRR, jsh_RII, jsh_RIR, jsh_RRI, jsh_RRR, jsh_IIII, jsh_IIIR, jsh_IIRI, jsh_IIRR, jsh_IRII, jsh_IRIR, jsh_IRRI, jsh_IRRR, jsh_RIII, jsh_RIIR, jsh_RIRI, jsh_RIRR, jsh_RRII, jsh_RRIR, jsh_RRRI, jsh_RRRR, jsh_IIIII, jsh_IIIIR, jsh_IIIRI, jsh_IIIRR, jsh_IIRII, jsh_IIRIR, jsh_IIRRI, jsh_IIRRR, jsh_IRIII, jsh_IRIIR, jsh_IRIRI, jsh_IRIRR, jsh_IRRII, jsh_IRRIR, jsh_IRRRI, jsh_IRRRR, jsh_RIIII, jsh_RIIIR, jsh_RIIRI, jsh_RIIRR, jsh_RIRII, jsh_RIRIR, jsh_RIRRI, jsh_RIRRR, jsh_RRIII, jsh_RRIIR, jsh_RRIRI, jsh_RRIRR, jsh_RRRII, jsh_RRRIR, jsh_RRRRI, jsh_RRRRR, jsh_D, jsh_DR, jsh_F, jsh_FR, jthr_hp, jc_l0, jc_lW, jc_lX, jc_lXW, jc_lVW, jc_lVX, jpush_n, jpush_s, obt_0, obt_1, och_0, och_32, och_100, och_115, och_104, och_33, och_43, och_60, jint, jbit, jchr, ijI, ijR, ijD, ijF, ↓reduceIte, Int.reduceEq, Int.reduceLT, reduceCtorEq, lWr_bind, lWr_ite, lWr_none, lWr_oix, lWr_obt, lWr_och, lWr_sel, lWr_oel, lWr_some, f_Law_addFounder]
end
def f_Law_addChild (m : jMem) (a1 : Int) : Option (Int × jMem) := (f_Reg_addChild m a1).bind fun qx1 => sel qx1.1 (fun x1 => oix (0 : Int) 1 (some (0, mset qx1.2 155 (0 : Int).toNat x1))) (fun e3 => if e3 = "java/lang/IndexOutOfBoundsException" then some (1, qx1.2) else if e3 = "java/lang/UnsupportedOperationException" then some (2, qx1.2) else none)
section
variable {cf : jCf} {dv : UInt64}
set_option maxRecDepth 20000 in
set_option maxHeartbeats 800000 in
theorem X289 (d : Nat) (a1 : Int) (m : jMem) (k : jM) : jme jT0 jMx (d + 6) 289 [jr (jn cf + 0), .inl a1, jr (jn cf + 155)] (hp cf dv m, k) = lWr cf dv k (f_Law_addChild m a1) := by
  simp only [M289, E289_0, E289_1, E289_2, E289_3, E289_4, E289_7, E289_8, E289_9, E289_13, E289_14, E289_16, E289_17, E289_18, E289_19, as_155, X103, go_0, jsh_n, jsh_I, jsh_R, jsh_II, jsh_IR, jsh_RI, jsh_RR, jsh_III, jsh_IIR, jsh_IRI, jsh_IRR, jsh_RII, jsh_RIR, jsh_RRI, jsh_RRR, jsh_IIII, jsh_IIIR, jsh_IIRI, jsh_IIRR, jsh_IRII, jsh_IRIR, jsh_IRRI, jsh_IRRR, jsh_RIII, jsh_RIIR, jsh_RIRI, jsh_RIRR, jsh_RRII, jsh_RRIR, jsh_RRRI, jsh_RRRR, jsh_IIIII, jsh_IIIIR, jsh_IIIRI, jsh_IIIRR, jsh_IIRII, jsh_IIRIR, jsh_IIRRI, jsh_IIRRR, jsh_IRIII, jsh_IRIIR, jsh_IRIRI, jsh_IRIRR, jsh_IRRII, jsh_IRRIR, jsh_IRRRI, jsh_IRRRR, jsh_RIIII, jsh_RIIIR, jsh_RIIRI, jsh_RIIRR, jsh_RIRII, jsh_RIRIR, jsh_RIRRI, jsh_RIRRR, jsh_RRIII, jsh_RRIIR, jsh_RRIRI, jsh_RRIRR, jsh_RRRII, jsh_RRRIR, jsh_RRRRI, jsh_RRRRR, jsh_D, jsh_DR, jsh_F, jsh_FR, jthr_hp, jc_l0, jc_lW, jc_lX, jc_lXW, jc_lVW, jc_lVX, jpush_n, jpush_s, obt_0, obt_1, och_0, och_32, och_100, och_115, och_104, och_33, och_43, och_60, jint, jbit, jchr, ijI, ijR, ijD, ijF, ↓reduceIte, Int.reduceEq, Int.reduceLT, reduceCtorEq, lWr_bind, lWr_ite, lWr_none, lWr_oix, lWr_obt, lWr_och, lWr_sel, lWr_oel, lWr_some, f_Law_addChild]
end
def f_Law_bury (m : jMem) (a1 : Int) : Option (Int × jMem) := (f_Reg_bury m a1).bind fun qx1 => sel qx1.1 (fun x1 => oix (0 : Int) 1 (some (0, mset qx1.2 155 (0 : Int).toNat x1))) (fun e3 => if e3 = "java/lang/IndexOutOfBoundsException" then some (1, qx1.2) else if e3 = "java/lang/UnsupportedOperationException" then some (2, qx1.2) else none)
section
variable {cf : jCf} {dv : UInt64}
set_option maxRecDepth 20000 in
set_option maxHeartbeats 800000 in
theorem X290 (d : Nat) (a1 : Int) (m : jMem) (k : jM) : jme jT0 jMx (d + 7) 290 [jr (jn cf + 0), .inl a1, jr (jn cf + 155)] (hp cf dv m, k) = lWr cf dv k (f_Law_bury m a1) := by
  simp only [M290, E290_0, E290_1, E290_2, E290_3, E290_4, E290_7, E290_8, E290_9, E290_13, E290_14, E290_16, E290_17, E290_18, E290_19, as_155, X104, go_0, jsh_n, jsh_I, jsh_R, jsh_II, jsh_IR, jsh_RI, jsh_RR, jsh_III, jsh_IIR, jsh_IRI, jsh_IRR, jsh_RII, jsh_RIR, jsh_RRI, jsh_RRR, jsh_IIII, jsh_IIIR, jsh_IIRI, jsh_IIRR, jsh_IRII, jsh_IRIR, jsh_IRRI, jsh_IRRR, jsh_RIII, jsh_RIIR, jsh_RIRI, jsh_RIRR, jsh_RRII, jsh_RRIR, jsh_RRRI, jsh_RRRR, jsh_IIIII, jsh_IIIIR, jsh_IIIRI, jsh_IIIRR, jsh_IIRII, jsh_IIRIR, jsh_IIRRI, jsh_IIRRR, jsh_IRIII, jsh_IRIIR, jsh_IRIRI, jsh_IRIRR, jsh_IRRII, jsh_IRRIR, jsh_IRRRI, jsh_IRRRR, jsh_RIIII, jsh_RIIIR, jsh_RIIRI, jsh_RIIRR, jsh_RIRII, jsh_RIRIR, jsh_RIRRI, jsh_RIRRR, jsh_RRIII, jsh_RRIIR, jsh_RRIRI, jsh_RRIRR, jsh_RRRII, jsh_RRRIR, jsh_RRRRI, jsh_RRRRR, jsh_D, jsh_DR, jsh_F, jsh_FR, jthr_hp, jc_l0, jc_lW, jc_lX, jc_lXW, jc_lVW, jc_lVX, jpush_n, jpush_s, obt_0, obt_1, och_0, och_32, och_100, och_115, och_104, och_33, och_43, och_60, jint, jbit, jchr, ijI, ijR, ijD, ijF, ↓reduceIte, Int.reduceEq, Int.reduceLT, reduceCtorEq, lWr_bind, lWr_ite, lWr_none, lWr_oix, lWr_obt, lWr_och, lWr_sel, lWr_oel, lWr_some, f_Law_bury]
end
def f_Law_isAlive (m : jMem) (a1 : Int) : Option (Int × jMem) := (f_Reg_isAlive m a1).bind fun sx1 => sel sx1 (fun x1 => if x1 = 0 then oix (0 : Int) 1 (some (0, mset m 155 (0 : Int).toNat 0)) else oix (0 : Int) 1 (some (0, mset m 155 (0 : Int).toNat 1))) (fun e2 => if e2 = "java/lang/IndexOutOfBoundsException" then some (1, m) else none)
section
variable {cf : jCf} {dv : UInt64}
set_option maxRecDepth 20000 in
set_option maxHeartbeats 800000 in
theorem X291 (d : Nat) (a1 : Int) (m : jMem) (k : jM) : jme jT0 jMx (d + 4) 291 [jr (jn cf + 0), .inl a1, jr (jn cf + 155)] (hp cf dv m, k) = lWr cf dv k (f_Law_isAlive m a1) := by
  simp only [M291, E291_0, E291_1, E291_2, E291_3, E291_4, E291_7, E291_10, E291_11, E291_14, E291_15, E291_16, E291_20, E291_21, E291_22, E291_23, as_155, X107, go_0, jsh_n, jsh_I, jsh_R, jsh_II, jsh_IR, jsh_RI, jsh_RR, jsh_III, jsh_IIR, jsh_IRI, jsh_IRR, jsh_RII, jsh_RIR, jsh_RRI, jsh_RRR, jsh_IIII, jsh_IIIR, jsh_IIRI, jsh_IIRR, jsh_IRII, jsh_IRIR, jsh_IRRI, jsh_IRRR, jsh_RIII, jsh_RIIR, jsh_RIRI, jsh_RIRR, jsh_RRII, jsh_RRIR, jsh_RRRI, jsh_RRRR, jsh_IIIII, jsh_IIIIR, jsh_IIIRI, jsh_IIIRR, jsh_IIRII, jsh_IIRIR, jsh_IIRRI, jsh_IIRRR, jsh_IRIII, jsh_IRIIR, jsh_IRIRI, jsh_IRIRR, jsh_IRRII, jsh_IRRIR, jsh_IRRRI, jsh_IRRRR, jsh_RIIII, jsh_RIIIR, jsh_RIIRI, jsh_RIIRR, jsh_RIRII, jsh_RIRIR, jsh_RIRRI, jsh_RIRRR, jsh_RRIII, jsh_RRIIR, jsh_RRIRI, jsh_RRIRR, jsh_RRRII, jsh_RRRIR, jsh_RRRRI, jsh_RRRRR, jsh_D, jsh_DR, jsh_F, jsh_FR, jthr_hp, jc_l0, jc_lW, jc_lX, jc_lXW, jc_lVW, jc_lVX, jpush_n, jpush_s, obt_0, obt_1, och_0, och_32, och_100, och_115, och_104, och_33, och_43, och_60, jint, jbit, jchr, ijI, ijR, ijD, ijF, ↓reduceIte, Int.reduceEq, Int.reduceLT, reduceCtorEq, lWr_bind, lWr_ite, lWr_none, lWr_oix, lWr_obt, lWr_och, lWr_sel, lWr_oel, lWr_some, f_Law_isAlive]
end
def f_Law_isFounder (m : jMem) (a1 : Int) : Option (Int × jMem) := (f_Reg_isFounder m a1).bind fun sx1 => sel sx1 (fun x1 => if x1 = 0 then oix (0 : Int) 1 (some (0, mset m 155 (0 : Int).toNat 0)) else oix (0 : Int) 1 (some (0, mset m 155 (0 : Int).toNat 1))) (fun e2 => if e2 = "java/lang/IndexOutOfBoundsException" then some (1, m) else none)
section
variable {cf : jCf} {dv : UInt64}
set_option maxRecDepth 20000 in
set_option maxHeartbeats 800000 in
theorem X292 (d : Nat) (a1 : Int) (m : jMem) (k : jM) : jme jT0 jMx (d + 4) 292 [jr (jn cf + 0), .inl a1, jr (jn cf + 155)] (hp cf dv m, k) = lWr cf dv k (f_Law_isFounder m a1) := by
  simp only [M292, E292_0, E292_1, E292_2, E292_3, E292_4, E292_7, E292_10, E292_11, E292_14, E292_15, E292_16, E292_20, E292_21, E292_22, E292_23, as_155, X108, go_0, jsh_n, jsh_I, jsh_R, jsh_II, jsh_IR, jsh_RI, jsh_RR, jsh_III, jsh_IIR, jsh_IRI, jsh_IRR, jsh_RII, jsh_RIR, jsh_RRI, jsh_RRR, jsh_IIII, jsh_IIIR, jsh_IIRI, jsh_IIRR, jsh_IRII, jsh_IRIR, jsh_IRRI, jsh_IRRR, jsh_RIII, jsh_RIIR, jsh_RIRI, jsh_RIRR, jsh_RRII, jsh_RRIR, jsh_RRRI, jsh_RRRR, jsh_IIIII, jsh_IIIIR, jsh_IIIRI, jsh_IIIRR, jsh_IIRII, jsh_IIRIR, jsh_IIRRI, jsh_IIRRR, jsh_IRIII, jsh_IRIIR, jsh_IRIRI, jsh_IRIRR, jsh_IRRII, jsh_IRRIR, jsh_IRRRI, jsh_IRRRR, jsh_RIIII, jsh_RIIIR, jsh_RIIRI, jsh_RIIRR, jsh_RIRII, jsh_RIRIR, jsh_RIRRI, jsh_RIRRR, jsh_RRIII, jsh_RRIIR, jsh_RRIRI, jsh_RRIRR, jsh_RRRII, jsh_RRRIR, jsh_RRRRI, jsh_RRRRR, jsh_D, jsh_DR, jsh_F, jsh_FR, jthr_hp, jc_l0, jc_lW, jc_lX, jc_lXW, jc_lVW, jc_lVX, jpush_n, jpush_s, obt_0, obt_1, och_0, och_32, och_100, och_115, och_104, och_33, och_43, och_60, jint, jbit, jchr, ijI, ijR, ijD, ijF, ↓reduceIte, Int.reduceEq, Int.reduceLT, reduceCtorEq, lWr_bind, lWr_ite, lWr_none, lWr_oix, lWr_obt, lWr_och, lWr_sel, lWr_oel, lWr_some, f_Law_isFounder]
end
def f_Law_parentOf (m : jMem) (a1 : Int) : Option (Int × jMem) := (f_Reg_parentOf m a1).bind fun sx1 => sel sx1 (fun x1 => oix (0 : Int) 1 (some (0, mset m 155 (0 : Int).toNat x1))) (fun e2 => if e2 = "java/lang/IndexOutOfBoundsException" then some (1, m) else if e2 = "java/util/NoSuchElementException" then some (2, m) else none)
section
variable {cf : jCf} {dv : UInt64}
set_option maxRecDepth 20000 in
set_option maxHeartbeats 800000 in
theorem X293 (d : Nat) (a1 : Int) (m : jMem) (k : jM) : jme jT0 jMx (d + 4) 293 [jr (jn cf + 0), .inl a1, jr (jn cf + 155)] (hp cf dv m, k) = lWr cf dv k (f_Law_parentOf m a1) := by
  simp only [M293, E293_0, E293_1, E293_2, E293_3, E293_4, E293_7, E293_8, E293_9, E293_13, E293_14, E293_16, E293_17, E293_18, E293_19, as_155, X109, go_0, jsh_n, jsh_I, jsh_R, jsh_II, jsh_IR, jsh_RI, jsh_RR, jsh_III, jsh_IIR, jsh_IRI, jsh_IRR, jsh_RII, jsh_RIR, jsh_RRI, jsh_RRR, jsh_IIII, jsh_IIIR, jsh_IIRI, jsh_IIRR, jsh_IRII, jsh_IRIR, jsh_IRRI, jsh_IRRR, jsh_RIII, jsh_RIIR, jsh_RIRI, jsh_RIRR, jsh_RRII, jsh_RRIR, jsh_RRRI, jsh_RRRR, jsh_IIIII, jsh_IIIIR, jsh_IIIRI, jsh_IIIRR, jsh_IIRII, jsh_IIRIR, jsh_IIRRI, jsh_IIRRR, jsh_IRIII, jsh_IRIIR, jsh_IRIRI, jsh_IRIRR, jsh_IRRII, jsh_IRRIR, jsh_IRRRI, jsh_IRRRR, jsh_RIIII, jsh_RIIIR, jsh_RIIRI, jsh_RIIRR, jsh_RIRII, jsh_RIRIR, jsh_RIRRI, jsh_RIRRR, jsh_RRIII, jsh_RRIIR, jsh_RRIRI, jsh_RRIRR, jsh_RRRII, jsh_RRRIR, jsh_RRRRI, jsh_RRRRR, jsh_D, jsh_DR, jsh_F, jsh_FR, jthr_hp, jc_l0, jc_lW, jc_lX, jc_lXW, jc_lVW, jc_lVX, jpush_n, jpush_s, obt_0, obt_1, och_0, och_32, och_100, och_115, och_104, och_33, och_43, och_60, jint, jbit, jchr, ijI, ijR, ijD, ijF, ↓reduceIte, Int.reduceEq, Int.reduceLT, reduceCtorEq, lWr_bind, lWr_ite, lWr_none, lWr_oix, lWr_obt, lWr_och, lWr_sel, lWr_oel, lWr_some, f_Law_parentOf]
end
def f_Law_childCount (m : jMem) (a1 : Int) : Option (Int × jMem) := (f_Reg_childCount m a1).bind fun sx1 => sel sx1 (fun x1 => oix (0 : Int) 1 (some (0, mset m 155 (0 : Int).toNat x1))) (fun e2 => if e2 = "java/lang/IndexOutOfBoundsException" then some (1, m) else none)
section
variable {cf : jCf} {dv : UInt64}
set_option maxRecDepth 20000 in
set_option maxHeartbeats 800000 in
theorem X294 (d : Nat) (a1 : Int) (m : jMem) (k : jM) : jme jT0 jMx (d + 4) 294 [jr (jn cf + 0), .inl a1, jr (jn cf + 155)] (hp cf dv m, k) = lWr cf dv k (f_Law_childCount m a1) := by
  simp only [M294, E294_0, E294_1, E294_2, E294_3, E294_4, E294_7, E294_8, E294_9, E294_13, E294_14, E294_15, E294_16, as_155, X110, go_0, jsh_n, jsh_I, jsh_R, jsh_II, jsh_IR, jsh_RI, jsh_RR, jsh_III, jsh_IIR, jsh_IRI, jsh_IRR, jsh_RII, jsh_RIR, jsh_RRI, jsh_RRR, jsh_IIII, jsh_IIIR, jsh_IIRI, jsh_IIRR, jsh_IRII, jsh_IRIR, jsh_IRRI, jsh_IRRR, jsh_RIII, jsh_RIIR, jsh_RIRI, jsh_RIRR, jsh_RRII, jsh_RRIR, jsh_RRRI, jsh_RRRR, jsh_IIIII, jsh_IIIIR, jsh_IIIRI, jsh_IIIRR, jsh_IIRII, jsh_IIRIR, jsh_IIRRI, jsh_IIRRR, jsh_IRIII, jsh_IRIIR, jsh_IRIRI, jsh_IRIRR, jsh_IRRII, jsh_IRRIR, jsh_IRRRI, jsh_IRRRR, jsh_RIIII, jsh_RIIIR, jsh_RIIRI, jsh_RIIRR, jsh_RIRII, jsh_RIRIR, jsh_RIRRI, jsh_RIRRR, jsh_RRIII, jsh_RRIIR, jsh_RRIRI, jsh_RRIRR, jsh_RRRII, jsh_RRRIR, jsh_RRRRI, jsh_RRRRR, jsh_D, jsh_DR, jsh_F, jsh_FR, jthr_hp, jc_l0, jc_lW, jc_lX, jc_lXW, jc_lVW, jc_lVX, jpush_n, jpush_s, obt_0, obt_1, och_0, och_32, och_100, och_115, och_104, och_33, och_43, och_60, jint, jbit, jchr, ijI, ijR, ijD, ijF, ↓reduceIte, Int.reduceEq, Int.reduceLT, reduceCtorEq, lWr_bind, lWr_ite, lWr_none, lWr_oix, lWr_obt, lWr_och, lWr_sel, lWr_oel, lWr_some, f_Law_childCount]
end
def f_Law_childAt (m : jMem) (a1 : Int) (a2 : Int) : Option (Int × jMem) := (f_Reg_childAt m a1 a2).bind fun sx1 => sel sx1 (fun x1 => oix (0 : Int) 1 (some (0, mset m 155 (0 : Int).toNat x1))) (fun e2 => if e2 = "java/lang/IndexOutOfBoundsException" then some (1, m) else if e2 = "java/util/NoSuchElementException" then some (2, m) else none)
section
variable {cf : jCf} {dv : UInt64}
set_option maxRecDepth 20000 in
set_option maxHeartbeats 800000 in
theorem X295 (d : Nat) (a1 : Int) (a2 : Int) (m : jMem) (k : jM) : jme jT0 jMx (d + 4) 295 [jr (jn cf + 0), .inl a1, .inl a2, jr (jn cf + 155)] (hp cf dv m, k) = lWr cf dv k (f_Law_childAt m a1 a2) := by
  simp only [M295, E295_0, E295_1, E295_2, E295_3, E295_4, E295_5, E295_8, E295_9, E295_10, E295_15, E295_16, E295_19, E295_20, E295_21, E295_22, as_155, X111, go_0, jsh_n, jsh_I, jsh_R, jsh_II, jsh_IR, jsh_RI, jsh_RR, jsh_III, jsh_IIR, jsh_IRI, jsh_IRR, jsh_RII, jsh_RIR, jsh_RRI, jsh_RRR, jsh_IIII, jsh_IIIR, jsh_IIRI, jsh_IIRR, jsh_IRII, jsh_IRIR, jsh_IRRI, jsh_IRRR, jsh_RIII, jsh_RIIR, jsh_RIRI, jsh_RIRR, jsh_RRII, jsh_RRIR, jsh_RRRI, jsh_RRRR, jsh_IIIII, jsh_IIIIR, jsh_IIIRI, jsh_IIIRR, jsh_IIRII, jsh_IIRIR, jsh_IIRRI, jsh_IIRRR, jsh_IRIII, jsh_IRIIR, jsh_IRIRI, jsh_IRIRR, jsh_IRRII, jsh_IRRIR, jsh_IRRRI, jsh_IRRRR, jsh_RIIII, jsh_RIIIR, jsh_RIIRI, jsh_RIIRR, jsh_RIRII, jsh_RIRIR, jsh_RIRRI, jsh_RIRRR, jsh_RRIII, jsh_RRIIR, jsh_RRIRI, jsh_RRIRR, jsh_RRRII, jsh_RRRIR, jsh_RRRRI, jsh_RRRRR, jsh_D, jsh_DR, jsh_F, jsh_FR, jthr_hp, jc_l0, jc_lW, jc_lX, jc_lXW, jc_lVW, jc_lVX, jpush_n, jpush_s, obt_0, obt_1, och_0, och_32, och_100, och_115, och_104, och_33, och_43, och_60, jint, jbit, jchr, ijI, ijR, ijD, ijF, ↓reduceIte, Int.reduceEq, Int.reduceLT, reduceCtorEq, lWr_bind, lWr_ite, lWr_none, lWr_oix, lWr_obt, lWr_och, lWr_sel, lWr_oel, lWr_some, f_Law_childAt]
end
def f_Law_generation (m : jMem) (a1 : Int) : Option (Int × jMem) := (f_Reg_generation m a1).bind fun sx1 => sel sx1 (fun x1 => oix (0 : Int) 1 (some (0, mset m 155 (0 : Int).toNat x1))) (fun e2 => if e2 = "java/lang/IndexOutOfBoundsException" then some (1, m) else none)
section
variable {cf : jCf} {dv : UInt64}
set_option maxRecDepth 20000 in
set_option maxHeartbeats 800000 in
theorem X296 (d : Nat) (a1 : Int) (m : jMem) (k : jM) : jme jT0 jMx (d + 4) 296 [jr (jn cf + 0), .inl a1, jr (jn cf + 155)] (hp cf dv m, k) = lWr cf dv k (f_Law_generation m a1) := by
  simp only [M296, E296_0, E296_1, E296_2, E296_3, E296_4, E296_7, E296_8, E296_9, E296_13, E296_14, E296_15, E296_16, as_155, X112, go_0, jsh_n, jsh_I, jsh_R, jsh_II, jsh_IR, jsh_RI, jsh_RR, jsh_III, jsh_IIR, jsh_IRI, jsh_IRR, jsh_RII, jsh_RIR, jsh_RRI, jsh_RRR, jsh_IIII, jsh_IIIR, jsh_IIRI, jsh_IIRR, jsh_IRII, jsh_IRIR, jsh_IRRI, jsh_IRRR, jsh_RIII, jsh_RIIR, jsh_RIRI, jsh_RIRR, jsh_RRII, jsh_RRIR, jsh_RRRI, jsh_RRRR, jsh_IIIII, jsh_IIIIR, jsh_IIIRI, jsh_IIIRR, jsh_IIRII, jsh_IIRIR, jsh_IIRRI, jsh_IIRRR, jsh_IRIII, jsh_IRIIR, jsh_IRIRI, jsh_IRIRR, jsh_IRRII, jsh_IRRIR, jsh_IRRRI, jsh_IRRRR, jsh_RIIII, jsh_RIIIR, jsh_RIIRI, jsh_RIIRR, jsh_RIRII, jsh_RIRIR, jsh_RIRRI, jsh_RIRRR, jsh_RRIII, jsh_RRIIR, jsh_RRIRI, jsh_RRIRR, jsh_RRRII, jsh_RRRIR, jsh_RRRRI, jsh_RRRRR, jsh_D, jsh_DR, jsh_F, jsh_FR, jthr_hp, jc_l0, jc_lW, jc_lX, jc_lXW, jc_lVW, jc_lVX, jpush_n, jpush_s, obt_0, obt_1, och_0, och_32, och_100, och_115, och_104, och_33, och_43, och_60, jint, jbit, jchr, ijI, ijR, ijD, ijF, ↓reduceIte, Int.reduceEq, Int.reduceLT, reduceCtorEq, lWr_bind, lWr_ite, lWr_none, lWr_oix, lWr_obt, lWr_och, lWr_sel, lWr_oel, lWr_some, f_Law_generation]
end
def f_Law_livingDescendants (m : jMem) (a1 : Int) : Option (Int × jMem) := (f_Reg_livingDescendants m a1).bind fun sx1 => sel sx1 (fun x1 => oix (0 : Int) 1 (some (0, mset m 155 (0 : Int).toNat x1))) (fun e2 => if e2 = "java/lang/IndexOutOfBoundsException" then some (1, m) else none)
section
variable {cf : jCf} {dv : UInt64}
set_option maxRecDepth 20000 in
set_option maxHeartbeats 800000 in
theorem X297 (d : Nat) (a1 : Int) (m : jMem) (k : jM) : jme jT0 jMx (d + 5) 297 [jr (jn cf + 0), .inl a1, jr (jn cf + 155)] (hp cf dv m, k) = lWr cf dv k (f_Law_livingDescendants m a1) := by
  simp only [M297, E297_0, E297_1, E297_2, E297_3, E297_4, E297_7, E297_8, E297_9, E297_13, E297_14, E297_15, E297_16, as_155, X113, go_0, jsh_n, jsh_I, jsh_R, jsh_II, jsh_IR, jsh_RI, jsh_RR, jsh_III, jsh_IIR, jsh_IRI, jsh_IRR, jsh_RII, jsh_RIR, jsh_RRI, jsh_RRR, jsh_IIII, jsh_IIIR, jsh_IIRI, jsh_IIRR, jsh_IRII, jsh_IRIR, jsh_IRRI, jsh_IRRR, jsh_RIII, jsh_RIIR, jsh_RIRI, jsh_RIRR, jsh_RRII, jsh_RRIR, jsh_RRRI, jsh_RRRR, jsh_IIIII, jsh_IIIIR, jsh_IIIRI, jsh_IIIRR, jsh_IIRII, jsh_IIRIR, jsh_IIRRI, jsh_IIRRR, jsh_IRIII, jsh_IRIIR, jsh_IRIRI, jsh_IRIRR, jsh_IRRII, jsh_IRRIR, jsh_IRRRI, jsh_IRRRR, jsh_RIIII, jsh_RIIIR, jsh_RIIRI, jsh_RIIRR, jsh_RIRII, jsh_RIRIR, jsh_RIRRI, jsh_RIRRR, jsh_RRIII, jsh_RRIIR, jsh_RRIRI, jsh_RRIRR, jsh_RRRII, jsh_RRRIR, jsh_RRRRI, jsh_RRRRR, jsh_D, jsh_DR, jsh_F, jsh_FR, jthr_hp, jc_l0, jc_lW, jc_lX, jc_lXW, jc_lVW, jc_lVX, jpush_n, jpush_s, obt_0, obt_1, och_0, och_32, och_100, och_115, och_104, och_33, och_43, och_60, jint, jbit, jchr, ijI, ijR, ijD, ijF, ↓reduceIte, Int.reduceEq, Int.reduceLT, reduceCtorEq, lWr_bind, lWr_ite, lWr_none, lWr_oix, lWr_obt, lWr_och, lWr_sel, lWr_oel, lWr_some, f_Law_livingDescendants]
end
def f_Law_isAncestor (m : jMem) (a1 : Int) (a2 : Int) : Option (Int × jMem) := (f_Reg_isAncestor m a1 a2).bind fun sx1 => sel sx1 (fun x1 => if x1 = 0 then oix (0 : Int) 1 (some (0, mset m 155 (0 : Int).toNat 0)) else oix (0 : Int) 1 (some (0, mset m 155 (0 : Int).toNat 1))) (fun e2 => if e2 = "java/lang/IndexOutOfBoundsException" then some (1, m) else none)
section
variable {cf : jCf} {dv : UInt64}
set_option maxRecDepth 20000 in
set_option maxHeartbeats 800000 in
theorem X298 (d : Nat) (a1 : Int) (a2 : Int) (m : jMem) (k : jM) : jme jT0 jMx (d + 4) 298 [jr (jn cf + 0), .inl a1, .inl a2, jr (jn cf + 155)] (hp cf dv m, k) = lWr cf dv k (f_Law_isAncestor m a1 a2) := by
  simp only [M298, E298_0, E298_1, E298_2, E298_3, E298_4, E298_5, E298_8, E298_11, E298_12, E298_15, E298_16, E298_17, E298_22, E298_23, E298_24, E298_25, as_155, X114, go_0, jsh_n, jsh_I, jsh_R, jsh_II, jsh_IR, jsh_RI, jsh_RR, jsh_III, jsh_IIR, jsh_IRI, jsh_IRR, jsh_RII, jsh_RIR, jsh_RRI, jsh_RRR, jsh_IIII, jsh_IIIR, jsh_IIRI, jsh_IIRR, jsh_IRII, jsh_IRIR, jsh_IRRI, jsh_IRRR, jsh_RIII, jsh_RIIR, jsh_RIRI, jsh_RIRR, jsh_RRII, jsh_RRIR, jsh_RRRI, jsh_RRRR, jsh_IIIII, jsh_IIIIR, jsh_IIIRI, jsh_IIIRR, jsh_IIRII, jsh_IIRIR, jsh_IIRRI, jsh_IIRRR, jsh_IRIII, jsh_IRIIR, jsh_IRIRI, jsh_IRIRR, jsh_IRRII, jsh_IRRIR, jsh_IRRRI, jsh_IRRRR, jsh_RIIII, jsh_RIIIR, jsh_RIIRI, jsh_RIIRR, jsh_RIRII, jsh_RIRIR, jsh_RIRRI, jsh_RIRRR, jsh_RRIII, jsh_RRIIR, jsh_RRIRI, jsh_RRIRR, jsh_RRRII, jsh_RRRIR, jsh_RRRRI, jsh_RRRRR, jsh_D, jsh_DR, jsh_F, jsh_FR, jthr_hp, jc_l0, jc_lW, jc_lX, jc_lXW, jc_lVW, jc_lVX, jpush_n, jpush_s, obt_0, obt_1, och_0, och_32, och_100, och_115, och_104, och_33, och_43, och_60, jint, jbit, jchr, ijI, ijR, ijD, ijF, ↓reduceIte, Int.reduceEq, Int.reduceLT, reduceCtorEq, lWr_bind, lWr_ite, lWr_none, lWr_oix, lWr_obt, lWr_och, lWr_sel, lWr_oel, lWr_some, f_Law_isAncestor]
end
def f_Law_commonAncestor (m : jMem) (a1 : Int) (a2 : Int) : Option (Int × jMem) := (f_Reg_commonAncestor m a1 a2).bind fun sx1 => sel sx1 (fun x1 => oix (0 : Int) 1 (some (0, mset m 155 (0 : Int).toNat x1))) (fun e2 => if e2 = "java/lang/IndexOutOfBoundsException" then some (1, m) else if e2 = "java/util/NoSuchElementException" then some (2, m) else none)
section
variable {cf : jCf} {dv : UInt64}
set_option maxRecDepth 20000 in
set_option maxHeartbeats 800000 in
theorem X299 (d : Nat) (a1 : Int) (a2 : Int) (m : jMem) (k : jM) : jme jT0 jMx (d + 4) 299 [jr (jn cf + 0), .inl a1, .inl a2, jr (jn cf + 155)] (hp cf dv m, k) = lWr cf dv k (f_Law_commonAncestor m a1 a2) := by
  simp only [M299, E299_0, E299_1, E299_2, E299_3, E299_4, E299_5, E299_8, E299_9, E299_10, E299_15, E299_16, E299_19, E299_20, E299_21, E299_22, as_155, X115, go_0, jsh_n, jsh_I, jsh_R, jsh_II, jsh_IR, jsh_RI, jsh_RR, jsh_III, jsh_IIR, jsh_IRI, jsh_IRR, jsh_RII, jsh_RIR, jsh_RRI, jsh_RRR, jsh_IIII, jsh_IIIR, jsh_IIRI, jsh_IIRR, jsh_IRII, jsh_IRIR, jsh_IRRI, jsh_IRRR, jsh_RIII, jsh_RIIR, jsh_RIRI, jsh_RIRR, jsh_RRII, jsh_RRIR, jsh_RRRI, jsh_RRRR, jsh_IIIII, jsh_IIIIR, jsh_IIIRI, jsh_IIIRR, jsh_IIRII, jsh_IIRIR, jsh_IIRRI, jsh_IIRRR, jsh_IRIII, jsh_IRIIR, jsh_IRIRI, jsh_IRIRR, jsh_IRRII, jsh_IRRIR, jsh_IRRRI, jsh_IRRRR, jsh_RIIII, jsh_RIIIR, jsh_RIIRI, jsh_RIIRR, jsh_RIRII, jsh_RIRIR, jsh_RIRRI, jsh_RIRRR, jsh_RRIII, jsh_RRIIR, jsh_RRIRI, jsh_RRIRR, jsh_RRRII, jsh_RRRIR, jsh_RRRRI, jsh_RRRRR, jsh_D, jsh_DR, jsh_F, jsh_FR, jthr_hp, jc_l0, jc_lW, jc_lX, jc_lXW, jc_lVW, jc_lVX, jpush_n, jpush_s, obt_0, obt_1, och_0, och_32, och_100, och_115, och_104, och_33, och_43, och_60, jint, jbit, jchr, ijI, ijR, ijD, ijF, ↓reduceIte, Int.reduceEq, Int.reduceLT, reduceCtorEq, lWr_bind, lWr_ite, lWr_none, lWr_oix, lWr_obt, lWr_och, lWr_sel, lWr_oel, lWr_some, f_Law_commonAncestor]
end
def f_Law_distance (m : jMem) (a1 : Int) (a2 : Int) : Option (Int × jMem) := (f_Reg_distance m a1 a2).bind fun sx1 => sel sx1 (fun x1 => oix (0 : Int) 1 (some (0, mset m 155 (0 : Int).toNat x1))) (fun e2 => if e2 = "java/lang/IndexOutOfBoundsException" then some (1, m) else if e2 = "java/util/NoSuchElementException" then some (2, m) else none)
section
variable {cf : jCf} {dv : UInt64}
set_option maxRecDepth 20000 in
set_option maxHeartbeats 800000 in
theorem X300 (d : Nat) (a1 : Int) (a2 : Int) (m : jMem) (k : jM) : jme jT0 jMx (d + 5) 300 [jr (jn cf + 0), .inl a1, .inl a2, jr (jn cf + 155)] (hp cf dv m, k) = lWr cf dv k (f_Law_distance m a1 a2) := by
  simp only [M300, E300_0, E300_1, E300_2, E300_3, E300_4, E300_5, E300_8, E300_9, E300_10, E300_15, E300_16, E300_19, E300_20, E300_21, E300_22, as_155, X116, go_0, jsh_n, jsh_I, jsh_R, jsh_II, jsh_IR, jsh_RI, jsh_RR, jsh_III, jsh_IIR, jsh_IRI, jsh_IRR, jsh_RII, jsh_RIR, jsh_RRI, jsh_RRR, jsh_IIII, jsh_IIIR, jsh_IIRI, jsh_IIRR, jsh_IRII, jsh_IRIR, jsh_IRRI, jsh_IRRR, jsh_RIII, jsh_RIIR, jsh_RIRI, jsh_RIRR, jsh_RRII, jsh_RRIR, jsh_RRRI, jsh_RRRR, jsh_IIIII, jsh_IIIIR, jsh_IIIRI, jsh_IIIRR, jsh_IIRII, jsh_IIRIR, jsh_IIRRI, jsh_IIRRR, jsh_IRIII, jsh_IRIIR, jsh_IRIRI, jsh_IRIRR, jsh_IRRII, jsh_IRRIR, jsh_IRRRI, jsh_IRRRR, jsh_RIIII, jsh_RIIIR, jsh_RIIRI, jsh_RIIRR, jsh_RIRII, jsh_RIRIR, jsh_RIRRI, jsh_RIRRR, jsh_RRIII, jsh_RRIIR, jsh_RRIRI, jsh_RRIRR, jsh_RRRII, jsh_RRRIR, jsh_RRRRI, jsh_RRRRR, jsh_D, jsh_DR, jsh_F, jsh_FR, jthr_hp, jc_l0, jc_lW, jc_lX, jc_lXW, jc_lVW, jc_lVX, jpush_n, jpush_s, obt_0, obt_1, och_0, och_32, och_100, och_115, och_104, och_33, och_43, och_60, jint, jbit, jchr, ijI, ijR, ijD, ijF, ↓reduceIte, Int.reduceEq, Int.reduceLT, reduceCtorEq, lWr_bind, lWr_ite, lWr_none, lWr_oix, lWr_obt, lWr_och, lWr_sel, lWr_oel, lWr_some, f_Law_distance]
end
def f_Law_distanceBySearch (m : jMem) (a1 : Int) (a2 : Int) : Option (Int × jMem) := (f_Reg_distanceBySearch m a1 a2).bind fun qx1 => sel qx1.1 (fun x1 => oix (0 : Int) 1 (some (0, mset qx1.2 155 (0 : Int).toNat x1))) (fun e3 => if e3 = "java/lang/IndexOutOfBoundsException" then some (1, qx1.2) else if e3 = "java/util/NoSuchElementException" then some (2, qx1.2) else none)
section
variable {cf : jCf} {dv : UInt64}
set_option maxRecDepth 20000 in
set_option maxHeartbeats 800000 in
theorem X301 (d : Nat) (a1 : Int) (a2 : Int) (m : jMem) (k : jM) : jme jT0 jMx (d + 5) 301 [jr (jn cf + 0), .inl a1, .inl a2, jr (jn cf + 155)] (hp cf dv m, k) = lWr cf dv k (f_Law_distanceBySearch m a1 a2) := by
  simp only [M301, E301_0, E301_1, E301_2, E301_3, E301_4, E301_5, E301_8, E301_9, E301_10, E301_15, E301_16, E301_19, E301_20, E301_21, E301_22, as_155, X117, go_0, jsh_n, jsh_I, jsh_R, jsh_II, jsh_IR, jsh_RI, jsh_RR, jsh_III, jsh_IIR, jsh_IRI, jsh_IRR, jsh_RII, jsh_RIR, jsh_RRI, jsh_RRR, jsh_IIII, jsh_IIIR, jsh_IIRI, jsh_IIRR, jsh_IRII, jsh_IRIR, jsh_IRRI, jsh_IRRR, jsh_RIII, jsh_RIIR, jsh_RIRI, jsh_RIRR, jsh_RRII, jsh_RRIR, jsh_RRRI, jsh_RRRR, jsh_IIIII, jsh_IIIIR, jsh_IIIRI, jsh_IIIRR, jsh_IIRII, jsh_IIRIR, jsh_IIRRI, jsh_IIRRR, jsh_IRIII, jsh_IRIIR, jsh_IRIRI, jsh_IRIRR, jsh_IRRII, jsh_IRRIR, jsh_IRRRI, jsh_IRRRR, jsh_RIIII, jsh_RIIIR, jsh_RIIRI, jsh_RIIRR, jsh_RIRII, jsh_RIRIR, jsh_RIRRI, jsh_RIRRR, jsh_RRIII, jsh_RRIIR, jsh_RRIRI, jsh_RRIRR, jsh_RRRII, jsh_RRRIR, jsh_RRRRI, jsh_RRRRR, jsh_D, jsh_DR, jsh_F, jsh_FR, jthr_hp, jc_l0, jc_lW, jc_lX, jc_lXW, jc_lVW, jc_lVX, jpush_n, jpush_s, obt_0, obt_1, och_0, och_32, och_100, och_115, och_104, och_33, och_43, och_60, jint, jbit, jchr, ijI, ijR, ijD, ijF, ↓reduceIte, Int.reduceEq, Int.reduceLT, reduceCtorEq, lWr_bind, lWr_ite, lWr_none, lWr_oix, lWr_obt, lWr_och, lWr_sel, lWr_oel, lWr_some, f_Law_distanceBySearch]
end
def f_Law_heirOf (m : jMem) (a1 : Int) : Option (Int × jMem) := (f_Reg_heirOf m a1).bind fun sx1 => sel sx1 (fun x1 => oix (0 : Int) 1 (some (0, mset m 155 (0 : Int).toNat x1))) (fun e2 => if e2 = "java/lang/IndexOutOfBoundsException" then some (1, m) else if e2 = "java/util/NoSuchElementException" then some (2, m) else none)
section
variable {cf : jCf} {dv : UInt64}
set_option maxRecDepth 20000 in
set_option maxHeartbeats 800000 in
theorem X302 (d : Nat) (a1 : Int) (m : jMem) (k : jM) : jme jT0 jMx (d + 6) 302 [jr (jn cf + 0), .inl a1, jr (jn cf + 155)] (hp cf dv m, k) = lWr cf dv k (f_Law_heirOf m a1) := by
  simp only [M302, E302_0, E302_1, E302_2, E302_3, E302_4, E302_7, E302_8, E302_9, E302_13, E302_14, E302_16, E302_17, E302_18, E302_19, as_155, X118, go_0, jsh_n, jsh_I, jsh_R, jsh_II, jsh_IR, jsh_RI, jsh_RR, jsh_III, jsh_IIR, jsh_IRI, jsh_IRR, jsh_RII, jsh_RIR, jsh_RRI, jsh_RRR, jsh_IIII, jsh_IIIR, jsh_IIRI, jsh_IIRR, jsh_IRII, jsh_IRIR, jsh_IRRI, jsh_IRRR, jsh_RIII, jsh_RIIR, jsh_RIRI, jsh_RIRR, jsh_RRII, jsh_RRIR, jsh_RRRI, jsh_RRRR, jsh_IIIII, jsh_IIIIR, jsh_IIIRI, jsh_IIIRR, jsh_IIRII, jsh_IIRIR, jsh_IIRRI, jsh_IIRRR, jsh_IRIII, jsh_IRIIR, jsh_IRIRI, jsh_IRIRR, jsh_IRRII, jsh_IRRIR, jsh_IRRRI, jsh_IRRRR, jsh_RIIII, jsh_RIIIR, jsh_RIIRI, jsh_RIIRR, jsh_RIRII, jsh_RIRIR, jsh_RIRRI, jsh_RIRRR, jsh_RRIII, jsh_RRIIR, jsh_RRIRI, jsh_RRIRR, jsh_RRRII, jsh_RRRIR, jsh_RRRRI, jsh_RRRRR, jsh_D, jsh_DR, jsh_F, jsh_FR, jthr_hp, jc_l0, jc_lW, jc_lX, jc_lXW, jc_lVW, jc_lVX, jpush_n, jpush_s, obt_0, obt_1, och_0, och_32, och_100, och_115, och_104, och_33, och_43, och_60, jint, jbit, jchr, ijI, ijR, ijD, ijF, ↓reduceIte, Int.reduceEq, Int.reduceLT, reduceCtorEq, lWr_bind, lWr_ite, lWr_none, lWr_oix, lWr_obt, lWr_och, lWr_sel, lWr_oel, lWr_some, f_Law_heirOf]
end
def f_Law_heirByComparison (m : jMem) (a1 : Int) : Option (Int × jMem) := (f_Reg_heirByComparison m a1).bind fun sx1 => sel sx1 (fun x1 => oix (0 : Int) 1 (some (0, mset m 155 (0 : Int).toNat x1))) (fun e2 => if e2 = "java/lang/IndexOutOfBoundsException" then some (1, m) else if e2 = "java/util/NoSuchElementException" then some (2, m) else none)
section
variable {cf : jCf} {dv : UInt64}
set_option maxRecDepth 20000 in
set_option maxHeartbeats 800000 in
theorem X303 (d : Nat) (a1 : Int) (m : jMem) (k : jM) : jme jT0 jMx (d + 6) 303 [jr (jn cf + 0), .inl a1, jr (jn cf + 155)] (hp cf dv m, k) = lWr cf dv k (f_Law_heirByComparison m a1) := by
  simp only [M303, E303_0, E303_1, E303_2, E303_3, E303_4, E303_7, E303_8, E303_9, E303_13, E303_14, E303_16, E303_17, E303_18, E303_19, as_155, X119, go_0, jsh_n, jsh_I, jsh_R, jsh_II, jsh_IR, jsh_RI, jsh_RR, jsh_III, jsh_IIR, jsh_IRI, jsh_IRR, jsh_RII, jsh_RIR, jsh_RRI, jsh_RRR, jsh_IIII, jsh_IIIR, jsh_IIRI, jsh_IIRR, jsh_IRII, jsh_IRIR, jsh_IRRI, jsh_IRRR, jsh_RIII, jsh_RIIR, jsh_RIRI, jsh_RIRR, jsh_RRII, jsh_RRIR, jsh_RRRI, jsh_RRRR, jsh_IIIII, jsh_IIIIR, jsh_IIIRI, jsh_IIIRR, jsh_IIRII, jsh_IIRIR, jsh_IIRRI, jsh_IIRRR, jsh_IRIII, jsh_IRIIR, jsh_IRIRI, jsh_IRIRR, jsh_IRRII, jsh_IRRIR, jsh_IRRRI, jsh_IRRRR, jsh_RIIII, jsh_RIIIR, jsh_RIIRI, jsh_RIIRR, jsh_RIRII, jsh_RIRIR, jsh_RIRRI, jsh_RIRRR, jsh_RRIII, jsh_RRIIR, jsh_RRIRI, jsh_RRIRR, jsh_RRRII, jsh_RRRIR, jsh_RRRRI, jsh_RRRRR, jsh_D, jsh_DR, jsh_F, jsh_FR, jthr_hp, jc_l0, jc_lW, jc_lX, jc_lXW, jc_lVW, jc_lVX, jpush_n, jpush_s, obt_0, obt_1, och_0, och_32, och_100, och_115, och_104, och_33, och_43, och_60, jint, jbit, jchr, ijI, ijR, ijD, ijF, ↓reduceIte, Int.reduceEq, Int.reduceLT, reduceCtorEq, lWr_bind, lWr_ite, lWr_none, lWr_oix, lWr_obt, lWr_och, lWr_sel, lWr_oel, lWr_some, f_Law_heirByComparison]
end
def f_Law_directHeirOf (m : jMem) (a1 : Int) : Option (Int × jMem) := (f_Reg_directHeirOf m a1).bind fun sx1 => sel sx1 (fun x1 => oix (0 : Int) 1 (some (0, mset m 155 (0 : Int).toNat x1))) (fun e2 => if e2 = "java/lang/IndexOutOfBoundsException" then some (1, m) else if e2 = "java/util/NoSuchElementException" then some (2, m) else none)
section
variable {cf : jCf} {dv : UInt64}
set_option maxRecDepth 20000 in
set_option maxHeartbeats 800000 in
theorem X304 (d : Nat) (a1 : Int) (m : jMem) (k : jM) : jme jT0 jMx (d + 6) 304 [jr (jn cf + 0), .inl a1, jr (jn cf + 155)] (hp cf dv m, k) = lWr cf dv k (f_Law_directHeirOf m a1) := by
  simp only [M304, E304_0, E304_1, E304_2, E304_3, E304_4, E304_7, E304_8, E304_9, E304_13, E304_14, E304_16, E304_17, E304_18, E304_19, as_155, X120, go_0, jsh_n, jsh_I, jsh_R, jsh_II, jsh_IR, jsh_RI, jsh_RR, jsh_III, jsh_IIR, jsh_IRI, jsh_IRR, jsh_RII, jsh_RIR, jsh_RRI, jsh_RRR, jsh_IIII, jsh_IIIR, jsh_IIRI, jsh_IIRR, jsh_IRII, jsh_IRIR, jsh_IRRI, jsh_IRRR, jsh_RIII, jsh_RIIR, jsh_RIRI, jsh_RIRR, jsh_RRII, jsh_RRIR, jsh_RRRI, jsh_RRRR, jsh_IIIII, jsh_IIIIR, jsh_IIIRI, jsh_IIIRR, jsh_IIRII, jsh_IIRIR, jsh_IIRRI, jsh_IIRRR, jsh_IRIII, jsh_IRIIR, jsh_IRIRI, jsh_IRIRR, jsh_IRRII, jsh_IRRIR, jsh_IRRRI, jsh_IRRRR, jsh_RIIII, jsh_RIIIR, jsh_RIIRI, jsh_RIIRR, jsh_RIRII, jsh_RIRIR, jsh_RIRRI, jsh_RIRRR, jsh_RRIII, jsh_RRIIR, jsh_RRIRI, jsh_RRIRR, jsh_RRRII, jsh_RRRIR, jsh_RRRRI, jsh_RRRRR, jsh_D, jsh_DR, jsh_F, jsh_FR, jthr_hp, jc_l0, jc_lW, jc_lX, jc_lXW, jc_lVW, jc_lVX, jpush_n, jpush_s, obt_0, obt_1, och_0, och_32, och_100, och_115, och_104, och_33, och_43, och_60, jint, jbit, jchr, ijI, ijR, ijD, ijF, ↓reduceIte, Int.reduceEq, Int.reduceLT, reduceCtorEq, lWr_bind, lWr_ite, lWr_none, lWr_oix, lWr_obt, lWr_och, lWr_sel, lWr_oel, lWr_some, f_Law_directHeirOf]
end
def f_Law_successionPosition (m : jMem) (a1 : Int) : Option (Int × jMem) := (f_Reg_successionPosition m a1).bind fun sx1 => sel sx1 (fun x1 => oix (0 : Int) 1 (some (0, mset m 155 (0 : Int).toNat x1))) (fun e2 => if e2 = "java/lang/IndexOutOfBoundsException" then some (1, m) else none)
section
variable {cf : jCf} {dv : UInt64}
set_option maxRecDepth 20000 in
set_option maxHeartbeats 800000 in
theorem X305 (d : Nat) (a1 : Int) (m : jMem) (k : jM) : jme jT0 jMx (d + 4) 305 [jr (jn cf + 0), .inl a1, jr (jn cf + 155)] (hp cf dv m, k) = lWr cf dv k (f_Law_successionPosition m a1) := by
  simp only [M305, E305_0, E305_1, E305_2, E305_3, E305_4, E305_7, E305_8, E305_9, E305_13, E305_14, E305_15, E305_16, as_155, X121, go_0, jsh_n, jsh_I, jsh_R, jsh_II, jsh_IR, jsh_RI, jsh_RR, jsh_III, jsh_IIR, jsh_IRI, jsh_IRR, jsh_RII, jsh_RIR, jsh_RRI, jsh_RRR, jsh_IIII, jsh_IIIR, jsh_IIRI, jsh_IIRR, jsh_IRII, jsh_IRIR, jsh_IRRI, jsh_IRRR, jsh_RIII, jsh_RIIR, jsh_RIRI, jsh_RIRR, jsh_RRII, jsh_RRIR, jsh_RRRI, jsh_RRRR, jsh_IIIII, jsh_IIIIR, jsh_IIIRI, jsh_IIIRR, jsh_IIRII, jsh_IIRIR, jsh_IIRRI, jsh_IIRRR, jsh_IRIII, jsh_IRIIR, jsh_IRIRI, jsh_IRIRR, jsh_IRRII, jsh_IRRIR, jsh_IRRRI, jsh_IRRRR, jsh_RIIII, jsh_RIIIR, jsh_RIIRI, jsh_RIIRR, jsh_RIRII, jsh_RIRIR, jsh_RIRRI, jsh_RIRRR, jsh_RRIII, jsh_RRIIR, jsh_RRIRI, jsh_RRIRR, jsh_RRRII, jsh_RRRIR, jsh_RRRRI, jsh_RRRRR, jsh_D, jsh_DR, jsh_F, jsh_FR, jthr_hp, jc_l0, jc_lW, jc_lX, jc_lXW, jc_lVW, jc_lVX, jpush_n, jpush_s, obt_0, obt_1, och_0, och_32, och_100, och_115, och_104, och_33, och_43, och_60, jint, jbit, jchr, ijI, ijR, ijD, ijF, ↓reduceIte, Int.reduceEq, Int.reduceLT, reduceCtorEq, lWr_bind, lWr_ite, lWr_none, lWr_oix, lWr_obt, lWr_och, lWr_sel, lWr_oel, lWr_some, f_Law_successionPosition]
end
def f_Law_addHabit (m : jMem) (a1 : Int) (a2 : Int) (a3 : Int) : Option (Int × jMem) := (f_Reg_addHabit m a1 a2 a3).bind fun qx1 => sel qx1.1 (fun x1 => oix (0 : Int) 1 (some (0, mset qx1.2 155 (0 : Int).toNat x1))) (fun e3 => if e3 = "java/lang/IndexOutOfBoundsException" then some (1, qx1.2) else if e3 = "java/lang/IllegalArgumentException" then some (2, qx1.2) else if e3 = "java/lang/UnsupportedOperationException" then some (3, qx1.2) else none)
section
variable {cf : jCf} {dv : UInt64}
set_option maxRecDepth 20000 in
set_option maxHeartbeats 800000 in
theorem X306 (d : Nat) (a1 : Int) (a2 : Int) (a3 : Int) (m : jMem) (k : jM) : jme jT0 jMx (d + 5) 306 [jr (jn cf + 0), .inl a1, .inl a2, .inl a3, jr (jn cf + 155)] (hp cf dv m, k) = lWr cf dv k (f_Law_addHabit m a1 a2 a3) := by
  simp only [M306, E306_0, E306_2, E306_3, E306_4, E306_5, E306_6, E306_7, E306_10, E306_11, E306_12, E306_17, E306_18, E306_21, E306_22, E306_25, E306_26, E306_27, E306_28, as_155, X122, go_0, jsh_n, jsh_I, jsh_R, jsh_II, jsh_IR, jsh_RI, jsh_RR, jsh_III, jsh_IIR, jsh_IRI, jsh_IRR, jsh_RII, jsh_RIR, jsh_RRI, jsh_RRR, jsh_IIII, jsh_IIIR, jsh_IIRI, jsh_IIRR, jsh_IRII, jsh_IRIR, jsh_IRRI, jsh_IRRR, jsh_RIII, jsh_RIIR, jsh_RIRI, jsh_RIRR, jsh_RRII, jsh_RRIR, jsh_RRRI, jsh_RRRR, jsh_IIIII, jsh_IIIIR, jsh_IIIRI, jsh_IIIRR, jsh_IIRII, jsh_IIRIR, jsh_IIRRI, jsh_IIRRR, jsh_IRIII, jsh_IRIIR, jsh_IRIRI, jsh_IRIRR, jsh_IRRII, jsh_IRRIR, jsh_IRRRI, jsh_IRRRR, jsh_RIIII, jsh_RIIIR, jsh_RIIRI, jsh_RIIRR, jsh_RIRII, jsh_RIRIR, jsh_RIRRI, jsh_RIRRR, jsh_RRIII, jsh_RRIIR, jsh_RRIRI, jsh_RRIRR, jsh_RRRII, jsh_RRRIR, jsh_RRRRI, jsh_RRRRR, jsh_D, jsh_DR, jsh_F, jsh_FR, jthr_hp, jc_l0, jc_lW, jc_lX, jc_lXW, jc_lVW, jc_lVX, jpush_n, jpush_s, obt_0, obt_1, och_0, och_32, och_100, och_115, och_104, och_33, och_43, och_60, jint, jbit, jchr, ijI, ijR, ijD, ijF, ↓reduceIte, Int.reduceEq, Int.reduceLT, reduceCtorEq, lWr_bind, lWr_ite, lWr_none, lWr_oix, lWr_obt, lWr_och, lWr_sel, lWr_oel, lWr_some, f_Law_addHabit]
end
def f_Law_practise (m : jMem) (a1 : Int) : Option (Int × jMem) := (f_Reg_practise m a1).bind fun qx1 => sel qx1.1 (fun x1 => oix (0 : Int) 1 (some (0, mset qx1.2 155 (0 : Int).toNat x1))) (fun e3 => if e3 = "java/lang/IndexOutOfBoundsException" then some (1, qx1.2) else if e3 = "java/lang/UnsupportedOperationException" then some (2, qx1.2) else none)
section
variable {cf : jCf} {dv : UInt64}
set_option maxRecDepth 20000 in
set_option maxHeartbeats 800000 in
theorem X307 (d : Nat) (a1 : Int) (m : jMem) (k : jM) : jme jT0 jMx (d + 5) 307 [jr (jn cf + 0), .inl a1, jr (jn cf + 155)] (hp cf dv m, k) = lWr cf dv k (f_Law_practise m a1) := by
  simp only [M307, E307_0, E307_1, E307_2, E307_3, E307_4, E307_7, E307_8, E307_9, E307_13, E307_14, E307_16, E307_17, E307_18, E307_19, as_155, X123, go_0, jsh_n, jsh_I, jsh_R, jsh_II, jsh_IR, jsh_RI, jsh_RR, jsh_III, jsh_IIR, jsh_IRI, jsh_IRR, jsh_RII, jsh_RIR, jsh_RRI, jsh_RRR, jsh_IIII, jsh_IIIR, jsh_IIRI, jsh_IIRR, jsh_IRII, jsh_IRIR, jsh_IRRI, jsh_IRRR, jsh_RIII, jsh_RIIR, jsh_RIRI, jsh_RIRR, jsh_RRII, jsh_RRIR, jsh_RRRI, jsh_RRRR, jsh_IIIII, jsh_IIIIR, jsh_IIIRI, jsh_IIIRR, jsh_IIRII, jsh_IIRIR, jsh_IIRRI, jsh_IIRRR, jsh_IRIII, jsh_IRIIR, jsh_IRIRI, jsh_IRIRR, jsh_IRRII, jsh_IRRIR, jsh_IRRRI, jsh_IRRRR, jsh_RIIII, jsh_RIIIR, jsh_RIIRI, jsh_RIIRR, jsh_RIRII, jsh_RIRIR, jsh_RIRRI, jsh_RIRRR, jsh_RRIII, jsh_RRIIR, jsh_RRIRI, jsh_RRIRR, jsh_RRRII, jsh_RRRIR, jsh_RRRRI, jsh_RRRRR, jsh_D, jsh_DR, jsh_F, jsh_FR, jthr_hp, jc_l0, jc_lW, jc_lX, jc_lXW, jc_lVW, jc_lVX, jpush_n, jpush_s, obt_0, obt_1, och_0, och_32, och_100, och_115, och_104, och_33, och_43, och_60, jint, jbit, jchr, ijI, ijR, ijD, ijF, ↓reduceIte, Int.reduceEq, Int.reduceLT, reduceCtorEq, lWr_bind, lWr_ite, lWr_none, lWr_oix, lWr_obt, lWr_och, lWr_sel, lWr_oel, lWr_some, f_Law_practise]
end
def f_Law_neglect (m : jMem) (a1 : Int) : Option (Int × jMem) := (f_Reg_neglect m a1).bind fun qx1 => sel qx1.1 (fun x1 => oix (0 : Int) 1 (some (0, mset qx1.2 155 (0 : Int).toNat x1))) (fun e3 => if e3 = "java/lang/IndexOutOfBoundsException" then some (1, qx1.2) else if e3 = "java/lang/UnsupportedOperationException" then some (2, qx1.2) else none)
section
variable {cf : jCf} {dv : UInt64}
set_option maxRecDepth 20000 in
set_option maxHeartbeats 800000 in
theorem X308 (d : Nat) (a1 : Int) (m : jMem) (k : jM) : jme jT0 jMx (d + 6) 308 [jr (jn cf + 0), .inl a1, jr (jn cf + 155)] (hp cf dv m, k) = lWr cf dv k (f_Law_neglect m a1) := by
  simp only [M308, E308_0, E308_1, E308_2, E308_3, E308_4, E308_7, E308_8, E308_9, E308_13, E308_14, E308_16, E308_17, E308_18, E308_19, as_155, X124, go_0, jsh_n, jsh_I, jsh_R, jsh_II, jsh_IR, jsh_RI, jsh_RR, jsh_III, jsh_IIR, jsh_IRI, jsh_IRR, jsh_RII, jsh_RIR, jsh_RRI, jsh_RRR, jsh_IIII, jsh_IIIR, jsh_IIRI, jsh_IIRR, jsh_IRII, jsh_IRIR, jsh_IRRI, jsh_IRRR, jsh_RIII, jsh_RIIR, jsh_RIRI, jsh_RIRR, jsh_RRII, jsh_RRIR, jsh_RRRI, jsh_RRRR, jsh_IIIII, jsh_IIIIR, jsh_IIIRI, jsh_IIIRR, jsh_IIRII, jsh_IIRIR, jsh_IIRRI, jsh_IIRRR, jsh_IRIII, jsh_IRIIR, jsh_IRIRI, jsh_IRIRR, jsh_IRRII, jsh_IRRIR, jsh_IRRRI, jsh_IRRRR, jsh_RIIII, jsh_RIIIR, jsh_RIIRI, jsh_RIIRR, jsh_RIRII, jsh_RIRIR, jsh_RIRRI, jsh_RIRRR, jsh_RRIII, jsh_RRIIR, jsh_RRIRI, jsh_RRIRR, jsh_RRRII, jsh_RRRIR, jsh_RRRRI, jsh_RRRRR, jsh_D, jsh_DR, jsh_F, jsh_FR, jthr_hp, jc_l0, jc_lW, jc_lX, jc_lXW, jc_lVW, jc_lVX, jpush_n, jpush_s, obt_0, obt_1, och_0, och_32, och_100, och_115, och_104, och_33, och_43, och_60, jint, jbit, jchr, ijI, ijR, ijD, ijF, ↓reduceIte, Int.reduceEq, Int.reduceLT, reduceCtorEq, lWr_bind, lWr_ite, lWr_none, lWr_oix, lWr_obt, lWr_och, lWr_sel, lWr_oel, lWr_some, f_Law_neglect]
end
def f_Law_entail (m : jMem) (a1 : Int) : Option (Int × jMem) := (f_Reg_entail m a1).bind fun qx1 => sel qx1.1 (fun x1 => oix (0 : Int) 1 (some (0, mset qx1.2 155 (0 : Int).toNat x1))) (fun e3 => if e3 = "java/lang/IndexOutOfBoundsException" then some (1, qx1.2) else if e3 = "java/lang/UnsupportedOperationException" then some (2, qx1.2) else none)
section
variable {cf : jCf} {dv : UInt64}
set_option maxRecDepth 20000 in
set_option maxHeartbeats 800000 in
theorem X309 (d : Nat) (a1 : Int) (m : jMem) (k : jM) : jme jT0 jMx (d + 7) 309 [jr (jn cf + 0), .inl a1, jr (jn cf + 155)] (hp cf dv m, k) = lWr cf dv k (f_Law_entail m a1) := by
  simp only [M309, E309_0, E309_1, E309_2, E309_3, E309_4, E309_7, E309_8, E309_9, E309_13, E309_14, E309_16, E309_17, E309_18, E309_19, as_155, X125, go_0, jsh_n, jsh_I, jsh_R, jsh_II, jsh_IR, jsh_RI, jsh_RR, jsh_III, jsh_IIR, jsh_IRI, jsh_IRR, jsh_RII, jsh_RIR, jsh_RRI, jsh_RRR, jsh_IIII, jsh_IIIR, jsh_IIRI, jsh_IIRR, jsh_IRII, jsh_IRIR, jsh_IRRI, jsh_IRRR, jsh_RIII, jsh_RIIR, jsh_RIRI, jsh_RIRR, jsh_RRII, jsh_RRIR, jsh_RRRI, jsh_RRRR, jsh_IIIII, jsh_IIIIR, jsh_IIIRI, jsh_IIIRR, jsh_IIRII, jsh_IIRIR, jsh_IIRRI, jsh_IIRRR, jsh_IRIII, jsh_IRIIR, jsh_IRIRI, jsh_IRIRR, jsh_IRRII, jsh_IRRIR, jsh_IRRRI, jsh_IRRRR, jsh_RIIII, jsh_RIIIR, jsh_RIIRI, jsh_RIIRR, jsh_RIRII, jsh_RIRIR, jsh_RIRRI, jsh_RIRRR, jsh_RRIII, jsh_RRIIR, jsh_RRIRI, jsh_RRIRR, jsh_RRRII, jsh_RRRIR, jsh_RRRRI, jsh_RRRRR, jsh_D, jsh_DR, jsh_F, jsh_FR, jthr_hp, jc_l0, jc_lW, jc_lX, jc_lXW, jc_lVW, jc_lVX, jpush_n, jpush_s, obt_0, obt_1, och_0, och_32, och_100, och_115, och_104, och_33, och_43, och_60, jint, jbit, jchr, ijI, ijR, ijD, ijF, ↓reduceIte, Int.reduceEq, Int.reduceLT, reduceCtorEq, lWr_bind, lWr_ite, lWr_none, lWr_oix, lWr_obt, lWr_och, lWr_sel, lWr_oel, lWr_some, f_Law_entail]
end
def f_Law_breakEntail (m : jMem) (a1 : Int) : Option (Int × jMem) := (f_Reg_breakEntail m a1).bind fun qx1 => sel qx1.1 (fun x1 => oix (0 : Int) 1 (some (0, mset qx1.2 155 (0 : Int).toNat x1))) (fun e3 => if e3 = "java/lang/IndexOutOfBoundsException" then some (1, qx1.2) else if e3 = "java/lang/UnsupportedOperationException" then some (2, qx1.2) else none)
section
variable {cf : jCf} {dv : UInt64}
set_option maxRecDepth 20000 in
set_option maxHeartbeats 800000 in
theorem X310 (d : Nat) (a1 : Int) (m : jMem) (k : jM) : jme jT0 jMx (d + 5) 310 [jr (jn cf + 0), .inl a1, jr (jn cf + 155)] (hp cf dv m, k) = lWr cf dv k (f_Law_breakEntail m a1) := by
  simp only [M310, E310_0, E310_1, E310_2, E310_3, E310_4, E310_7, E310_8, E310_9, E310_13, E310_14, E310_16, E310_17, E310_18, E310_19, as_155, X126, go_0, jsh_n, jsh_I, jsh_R, jsh_II, jsh_IR, jsh_RI, jsh_RR, jsh_III, jsh_IIR, jsh_IRI, jsh_IRR, jsh_RII, jsh_RIR, jsh_RRI, jsh_RRR, jsh_IIII, jsh_IIIR, jsh_IIRI, jsh_IIRR, jsh_IRII, jsh_IRIR, jsh_IRRI, jsh_IRRR, jsh_RIII, jsh_RIIR, jsh_RIRI, jsh_RIRR, jsh_RRII, jsh_RRIR, jsh_RRRI, jsh_RRRR, jsh_IIIII, jsh_IIIIR, jsh_IIIRI, jsh_IIIRR, jsh_IIRII, jsh_IIRIR, jsh_IIRRI, jsh_IIRRR, jsh_IRIII, jsh_IRIIR, jsh_IRIRI, jsh_IRIRR, jsh_IRRII, jsh_IRRIR, jsh_IRRRI, jsh_IRRRR, jsh_RIIII, jsh_RIIIR, jsh_RIIRI, jsh_RIIRR, jsh_RIRII, jsh_RIRIR, jsh_RIRRI, jsh_RIRRR, jsh_RRIII, jsh_RRIIR, jsh_RRIRI, jsh_RRIRR, jsh_RRRII, jsh_RRRIR, jsh_RRRRI, jsh_RRRRR, jsh_D, jsh_DR, jsh_F, jsh_FR, jthr_hp, jc_l0, jc_lW, jc_lX, jc_lXW, jc_lVW, jc_lVX, jpush_n, jpush_s, obt_0, obt_1, och_0, och_32, och_100, och_115, och_104, och_33, och_43, och_60, jint, jbit, jchr, ijI, ijR, ijD, ijF, ↓reduceIte, Int.reduceEq, Int.reduceLT, reduceCtorEq, lWr_bind, lWr_ite, lWr_none, lWr_oix, lWr_obt, lWr_och, lWr_sel, lWr_oel, lWr_some, f_Law_breakEntail]
end
def f_Law_give (m : jMem) (a1 : Int) (a2 : Int) : Option (Int × jMem) := (f_Reg_give m a1 a2).bind fun qx1 => sel qx1.1 (fun x1 => oix (0 : Int) 1 (some (0, mset qx1.2 155 (0 : Int).toNat x1))) (fun e3 => if e3 = "java/lang/IndexOutOfBoundsException" then some (1, qx1.2) else if e3 = "java/lang/UnsupportedOperationException" then some (2, qx1.2) else none)
section
variable {cf : jCf} {dv : UInt64}
set_option maxRecDepth 20000 in
set_option maxHeartbeats 800000 in
theorem X311 (d : Nat) (a1 : Int) (a2 : Int) (m : jMem) (k : jM) : jme jT0 jMx (d + 6) 311 [jr (jn cf + 0), .inl a1, .inl a2, jr (jn cf + 155)] (hp cf dv m, k) = lWr cf dv k (f_Law_give m a1 a2) := by
  simp only [M311, E311_0, E311_1, E311_2, E311_3, E311_4, E311_5, E311_8, E311_9, E311_10, E311_15, E311_16, E311_19, E311_20, E311_21, E311_22, as_155, X127, go_0, jsh_n, jsh_I, jsh_R, jsh_II, jsh_IR, jsh_RI, jsh_RR, jsh_III, jsh_IIR, jsh_IRI, jsh_IRR, jsh_RII, jsh_RIR, jsh_RRI, jsh_RRR, jsh_IIII, jsh_IIIR, jsh_IIRI, jsh_IIRR, jsh_IRII, jsh_IRIR, jsh_IRRI, jsh_IRRR, jsh_RIII, jsh_RIIR, jsh_RIRI, jsh_RIRR, jsh_RRII, jsh_RRIR, jsh_RRRI, jsh_RRRR, jsh_IIIII, jsh_IIIIR, jsh_IIIRI, jsh_IIIRR, jsh_IIRII, jsh_IIRIR, jsh_IIRRI, jsh_IIRRR, jsh_IRIII, jsh_IRIIR, jsh_IRIRI, jsh_IRIRR, jsh_IRRII, jsh_IRRIR, jsh_IRRRI, jsh_IRRRR, jsh_RIIII, jsh_RIIIR, jsh_RIIRI, jsh_RIIRR, jsh_RIRII, jsh_RIRIR, jsh_RIRRI, jsh_RIRRR, jsh_RRIII, jsh_RRIIR, jsh_RRIRI, jsh_RRIRR, jsh_RRRII, jsh_RRRIR, jsh_RRRRI, jsh_RRRRR, jsh_D, jsh_DR, jsh_F, jsh_FR, jthr_hp, jc_l0, jc_lW, jc_lX, jc_lXW, jc_lVW, jc_lVX, jpush_n, jpush_s, obt_0, obt_1, och_0, och_32, och_100, och_115, och_104, och_33, och_43, och_60, jint, jbit, jchr, ijI, ijR, ijD, ijF, ↓reduceIte, Int.reduceEq, Int.reduceLT, reduceCtorEq, lWr_bind, lWr_ite, lWr_none, lWr_oix, lWr_obt, lWr_och, lWr_sel, lWr_oel, lWr_some, f_Law_give]
end
def f_Law_kindOf (m : jMem) (a1 : Int) : Option (Int × jMem) := (f_Reg_kindOf m a1).bind fun sx1 => sel sx1 (fun x1 => oix (0 : Int) 1 (some (0, mset m 155 (0 : Int).toNat x1))) (fun e2 => if e2 = "java/lang/IndexOutOfBoundsException" then some (1, m) else none)
section
variable {cf : jCf} {dv : UInt64}
set_option maxRecDepth 20000 in
set_option maxHeartbeats 800000 in
theorem X312 (d : Nat) (a1 : Int) (m : jMem) (k : jM) : jme jT0 jMx (d + 4) 312 [jr (jn cf + 0), .inl a1, jr (jn cf + 155)] (hp cf dv m, k) = lWr cf dv k (f_Law_kindOf m a1) := by
  simp only [M312, E312_0, E312_1, E312_2, E312_3, E312_4, E312_7, E312_8, E312_9, E312_13, E312_14, E312_15, E312_16, as_155, X129, go_0, jsh_n, jsh_I, jsh_R, jsh_II, jsh_IR, jsh_RI, jsh_RR, jsh_III, jsh_IIR, jsh_IRI, jsh_IRR, jsh_RII, jsh_RIR, jsh_RRI, jsh_RRR, jsh_IIII, jsh_IIIR, jsh_IIRI, jsh_IIRR, jsh_IRII, jsh_IRIR, jsh_IRRI, jsh_IRRR, jsh_RIII, jsh_RIIR, jsh_RIRI, jsh_RIRR, jsh_RRII, jsh_RRIR, jsh_RRRI, jsh_RRRR, jsh_IIIII, jsh_IIIIR, jsh_IIIRI, jsh_IIIRR, jsh_IIRII, jsh_IIRIR, jsh_IIRRI, jsh_IIRRR, jsh_IRIII, jsh_IRIIR, jsh_IRIRI, jsh_IRIRR, jsh_IRRII, jsh_IRRIR, jsh_IRRRI, jsh_IRRRR, jsh_RIIII, jsh_RIIIR, jsh_RIIRI, jsh_RIIRR, jsh_RIRII, jsh_RIRIR, jsh_RIRRI, jsh_RIRRR, jsh_RRIII, jsh_RRIIR, jsh_RRIRI, jsh_RRIRR, jsh_RRRII, jsh_RRRIR, jsh_RRRRI, jsh_RRRRR, jsh_D, jsh_DR, jsh_F, jsh_FR, jthr_hp, jc_l0, jc_lW, jc_lX, jc_lXW, jc_lVW, jc_lVX, jpush_n, jpush_s, obt_0, obt_1, och_0, och_32, och_100, och_115, och_104, och_33, och_43, och_60, jint, jbit, jchr, ijI, ijR, ijD, ijF, ↓reduceIte, Int.reduceEq, Int.reduceLT, reduceCtorEq, lWr_bind, lWr_ite, lWr_none, lWr_oix, lWr_obt, lWr_och, lWr_sel, lWr_oel, lWr_some, f_Law_kindOf]
end
def f_Law_strengthOf (m : jMem) (a1 : Int) : Option (Int × jMem) := (f_Reg_strengthOf m a1).bind fun sx1 => sel sx1 (fun x1 => oix (0 : Int) 1 (some (0, mset m 155 (0 : Int).toNat x1))) (fun e2 => if e2 = "java/lang/IndexOutOfBoundsException" then some (1, m) else none)
section
variable {cf : jCf} {dv : UInt64}
set_option maxRecDepth 20000 in
set_option maxHeartbeats 800000 in
theorem X313 (d : Nat) (a1 : Int) (m : jMem) (k : jM) : jme jT0 jMx (d + 4) 313 [jr (jn cf + 0), .inl a1, jr (jn cf + 155)] (hp cf dv m, k) = lWr cf dv k (f_Law_strengthOf m a1) := by
  simp only [M313, E313_0, E313_1, E313_2, E313_3, E313_4, E313_7, E313_8, E313_9, E313_13, E313_14, E313_15, E313_16, as_155, X130, go_0, jsh_n, jsh_I, jsh_R, jsh_II, jsh_IR, jsh_RI, jsh_RR, jsh_III, jsh_IIR, jsh_IRI, jsh_IRR, jsh_RII, jsh_RIR, jsh_RRI, jsh_RRR, jsh_IIII, jsh_IIIR, jsh_IIRI, jsh_IIRR, jsh_IRII, jsh_IRIR, jsh_IRRI, jsh_IRRR, jsh_RIII, jsh_RIIR, jsh_RIRI, jsh_RIRR, jsh_RRII, jsh_RRIR, jsh_RRRI, jsh_RRRR, jsh_IIIII, jsh_IIIIR, jsh_IIIRI, jsh_IIIRR, jsh_IIRII, jsh_IIRIR, jsh_IIRRI, jsh_IIRRR, jsh_IRIII, jsh_IRIIR, jsh_IRIRI, jsh_IRIRR, jsh_IRRII, jsh_IRRIR, jsh_IRRRI, jsh_IRRRR, jsh_RIIII, jsh_RIIIR, jsh_RIIRI, jsh_RIIRR, jsh_RIRII, jsh_RIRIR, jsh_RIRRI, jsh_RIRRR, jsh_RRIII, jsh_RRIIR, jsh_RRIRI, jsh_RRIRR, jsh_RRRII, jsh_RRRIR, jsh_RRRRI, jsh_RRRRR, jsh_D, jsh_DR, jsh_F, jsh_FR, jthr_hp, jc_l0, jc_lW, jc_lX, jc_lXW, jc_lVW, jc_lVX, jpush_n, jpush_s, obt_0, obt_1, och_0, och_32, och_100, och_115, och_104, och_33, och_43, och_60, jint, jbit, jchr, ijI, ijR, ijD, ijF, ↓reduceIte, Int.reduceEq, Int.reduceLT, reduceCtorEq, lWr_bind, lWr_ite, lWr_none, lWr_oix, lWr_obt, lWr_och, lWr_sel, lWr_oel, lWr_some, f_Law_strengthOf]
end
def f_Law_holderOf (m : jMem) (a1 : Int) : Option (Int × jMem) := (f_Reg_holderOf m a1).bind fun sx1 => sel sx1 (fun x1 => oix (0 : Int) 1 (some (0, mset m 155 (0 : Int).toNat x1))) (fun e2 => if e2 = "java/lang/IndexOutOfBoundsException" then some (1, m) else if e2 = "java/util/NoSuchElementException" then some (2, m) else none)
section
variable {cf : jCf} {dv : UInt64}
set_option maxRecDepth 20000 in
set_option maxHeartbeats 800000 in
theorem X314 (d : Nat) (a1 : Int) (m : jMem) (k : jM) : jme jT0 jMx (d + 4) 314 [jr (jn cf + 0), .inl a1, jr (jn cf + 155)] (hp cf dv m, k) = lWr cf dv k (f_Law_holderOf m a1) := by
  simp only [M314, E314_0, E314_1, E314_2, E314_3, E314_4, E314_7, E314_8, E314_9, E314_13, E314_14, E314_16, E314_17, E314_18, E314_19, as_155, X131, go_0, jsh_n, jsh_I, jsh_R, jsh_II, jsh_IR, jsh_RI, jsh_RR, jsh_III, jsh_IIR, jsh_IRI, jsh_IRR, jsh_RII, jsh_RIR, jsh_RRI, jsh_RRR, jsh_IIII, jsh_IIIR, jsh_IIRI, jsh_IIRR, jsh_IRII, jsh_IRIR, jsh_IRRI, jsh_IRRR, jsh_RIII, jsh_RIIR, jsh_RIRI, jsh_RIRR, jsh_RRII, jsh_RRIR, jsh_RRRI, jsh_RRRR, jsh_IIIII, jsh_IIIIR, jsh_IIIRI, jsh_IIIRR, jsh_IIRII, jsh_IIRIR, jsh_IIRRI, jsh_IIRRR, jsh_IRIII, jsh_IRIIR, jsh_IRIRI, jsh_IRIRR, jsh_IRRII, jsh_IRRIR, jsh_IRRRI, jsh_IRRRR, jsh_RIIII, jsh_RIIIR, jsh_RIIRI, jsh_RIIRR, jsh_RIRII, jsh_RIRIR, jsh_RIRRI, jsh_RIRRR, jsh_RRIII, jsh_RRIIR, jsh_RRIRI, jsh_RRIRR, jsh_RRRII, jsh_RRRIR, jsh_RRRRI, jsh_RRRRR, jsh_D, jsh_DR, jsh_F, jsh_FR, jthr_hp, jc_l0, jc_lW, jc_lX, jc_lXW, jc_lVW, jc_lVX, jpush_n, jpush_s, obt_0, obt_1, och_0, och_32, och_100, och_115, och_104, och_33, och_43, och_60, jint, jbit, jchr, ijI, ijR, ijD, ijF, ↓reduceIte, Int.reduceEq, Int.reduceLT, reduceCtorEq, lWr_bind, lWr_ite, lWr_none, lWr_oix, lWr_obt, lWr_och, lWr_sel, lWr_oel, lWr_some, f_Law_holderOf]
end
def f_Law_isExtinct (m : jMem) (a1 : Int) : Option (Int × jMem) := (f_Reg_isExtinct m a1).bind fun sx1 => sel sx1 (fun x1 => if x1 = 0 then oix (0 : Int) 1 (some (0, mset m 155 (0 : Int).toNat 0)) else oix (0 : Int) 1 (some (0, mset m 155 (0 : Int).toNat 1))) (fun e2 => if e2 = "java/lang/IndexOutOfBoundsException" then some (1, m) else none)
section
variable {cf : jCf} {dv : UInt64}
set_option maxRecDepth 20000 in
set_option maxHeartbeats 800000 in
theorem X315 (d : Nat) (a1 : Int) (m : jMem) (k : jM) : jme jT0 jMx (d + 4) 315 [jr (jn cf + 0), .inl a1, jr (jn cf + 155)] (hp cf dv m, k) = lWr cf dv k (f_Law_isExtinct m a1) := by
  simp only [M315, E315_0, E315_1, E315_2, E315_3, E315_4, E315_7, E315_10, E315_11, E315_14, E315_15, E315_16, E315_20, E315_21, E315_22, E315_23, as_155, X132, go_0, jsh_n, jsh_I, jsh_R, jsh_II, jsh_IR, jsh_RI, jsh_RR, jsh_III, jsh_IIR, jsh_IRI, jsh_IRR, jsh_RII, jsh_RIR, jsh_RRI, jsh_RRR, jsh_IIII, jsh_IIIR, jsh_IIRI, jsh_IIRR, jsh_IRII, jsh_IRIR, jsh_IRRI, jsh_IRRR, jsh_RIII, jsh_RIIR, jsh_RIRI, jsh_RIRR, jsh_RRII, jsh_RRIR, jsh_RRRI, jsh_RRRR, jsh_IIIII, jsh_IIIIR, jsh_IIIRI, jsh_IIIRR, jsh_IIRII, jsh_IIRIR, jsh_IIRRI, jsh_IIRRR, jsh_IRIII, jsh_IRIIR, jsh_IRIRI, jsh_IRIRR, jsh_IRRII, jsh_IRRIR, jsh_IRRRI, jsh_IRRRR, jsh_RIIII, jsh_RIIIR, jsh_RIIRI, jsh_RIIRR, jsh_RIRII, jsh_RIRIR, jsh_RIRRI, jsh_RIRRR, jsh_RRIII, jsh_RRIIR, jsh_RRIRI, jsh_RRIRR, jsh_RRRII, jsh_RRRIR, jsh_RRRRI, jsh_RRRRR, jsh_D, jsh_DR, jsh_F, jsh_FR, jthr_hp, jc_l0, jc_lW, jc_lX, jc_lXW, jc_lVW, jc_lVX, jpush_n, jpush_s, obt_0, obt_1, och_0, och_32, och_100, och_115, och_104, och_33, och_43, och_60, jint, jbit, jchr, ijI, ijR, ijD, ijF, ↓reduceIte, Int.reduceEq, Int.reduceLT, reduceCtorEq, lWr_bind, lWr_ite, lWr_none, lWr_oix, lWr_obt, lWr_och, lWr_sel, lWr_oel, lWr_some, f_Law_isExtinct]
end
def f_Law_isEntailed (m : jMem) (a1 : Int) : Option (Int × jMem) := (f_Reg_isEntailed m a1).bind fun sx1 => sel sx1 (fun x1 => if x1 = 0 then oix (0 : Int) 1 (some (0, mset m 155 (0 : Int).toNat 0)) else oix (0 : Int) 1 (some (0, mset m 155 (0 : Int).toNat 1))) (fun e2 => if e2 = "java/lang/IndexOutOfBoundsException" then some (1, m) else none)
section
variable {cf : jCf} {dv : UInt64}
set_option maxRecDepth 20000 in
set_option maxHeartbeats 800000 in
theorem X316 (d : Nat) (a1 : Int) (m : jMem) (k : jM) : jme jT0 jMx (d + 4) 316 [jr (jn cf + 0), .inl a1, jr (jn cf + 155)] (hp cf dv m, k) = lWr cf dv k (f_Law_isEntailed m a1) := by
  simp only [M316, E316_0, E316_1, E316_2, E316_3, E316_4, E316_7, E316_10, E316_11, E316_14, E316_15, E316_16, E316_20, E316_21, E316_22, E316_23, as_155, X133, go_0, jsh_n, jsh_I, jsh_R, jsh_II, jsh_IR, jsh_RI, jsh_RR, jsh_III, jsh_IIR, jsh_IRI, jsh_IRR, jsh_RII, jsh_RIR, jsh_RRI, jsh_RRR, jsh_IIII, jsh_IIIR, jsh_IIRI, jsh_IIRR, jsh_IRII, jsh_IRIR, jsh_IRRI, jsh_IRRR, jsh_RIII, jsh_RIIR, jsh_RIRI, jsh_RIRR, jsh_RRII, jsh_RRIR, jsh_RRRI, jsh_RRRR, jsh_IIIII, jsh_IIIIR, jsh_IIIRI, jsh_IIIRR, jsh_IIRII, jsh_IIRIR, jsh_IIRRI, jsh_IIRRR, jsh_IRIII, jsh_IRIIR, jsh_IRIRI, jsh_IRIRR, jsh_IRRII, jsh_IRRIR, jsh_IRRRI, jsh_IRRRR, jsh_RIIII, jsh_RIIIR, jsh_RIIRI, jsh_RIIRR, jsh_RIRII, jsh_RIRIR, jsh_RIRRI, jsh_RIRRR, jsh_RRIII, jsh_RRIIR, jsh_RRIRI, jsh_RRIRR, jsh_RRRII, jsh_RRRIR, jsh_RRRRI, jsh_RRRRR, jsh_D, jsh_DR, jsh_F, jsh_FR, jthr_hp, jc_l0, jc_lW, jc_lX, jc_lXW, jc_lVW, jc_lVX, jpush_n, jpush_s, obt_0, obt_1, och_0, och_32, och_100, och_115, och_104, och_33, och_43, och_60, jint, jbit, jchr, ijI, ijR, ijD, ijF, ↓reduceIte, Int.reduceEq, Int.reduceLT, reduceCtorEq, lWr_bind, lWr_ite, lWr_none, lWr_oix, lWr_obt, lWr_och, lWr_sel, lWr_oel, lWr_some, f_Law_isEntailed]
end
def f_Law_isPractised (m : jMem) (a1 : Int) : Option (Int × jMem) := (f_Reg_isPractised m a1).bind fun sx1 => sel sx1 (fun x1 => if x1 = 0 then oix (0 : Int) 1 (some (0, mset m 155 (0 : Int).toNat 0)) else oix (0 : Int) 1 (some (0, mset m 155 (0 : Int).toNat 1))) (fun e2 => if e2 = "java/lang/IndexOutOfBoundsException" then some (1, m) else none)
section
variable {cf : jCf} {dv : UInt64}
set_option maxRecDepth 20000 in
set_option maxHeartbeats 800000 in
theorem X317 (d : Nat) (a1 : Int) (m : jMem) (k : jM) : jme jT0 jMx (d + 4) 317 [jr (jn cf + 0), .inl a1, jr (jn cf + 155)] (hp cf dv m, k) = lWr cf dv k (f_Law_isPractised m a1) := by
  simp only [M317, E317_0, E317_1, E317_2, E317_3, E317_4, E317_7, E317_10, E317_11, E317_14, E317_15, E317_16, E317_20, E317_21, E317_22, E317_23, as_155, X134, go_0, jsh_n, jsh_I, jsh_R, jsh_II, jsh_IR, jsh_RI, jsh_RR, jsh_III, jsh_IIR, jsh_IRI, jsh_IRR, jsh_RII, jsh_RIR, jsh_RRI, jsh_RRR, jsh_IIII, jsh_IIIR, jsh_IIRI, jsh_IIRR, jsh_IRII, jsh_IRIR, jsh_IRRI, jsh_IRRR, jsh_RIII, jsh_RIIR, jsh_RIRI, jsh_RIRR, jsh_RRII, jsh_RRIR, jsh_RRRI, jsh_RRRR, jsh_IIIII, jsh_IIIIR, jsh_IIIRI, jsh_IIIRR, jsh_IIRII, jsh_IIRIR, jsh_IIRRI, jsh_IIRRR, jsh_IRIII, jsh_IRIIR, jsh_IRIRI, jsh_IRIRR, jsh_IRRII, jsh_IRRIR, jsh_IRRRI, jsh_IRRRR, jsh_RIIII, jsh_RIIIR, jsh_RIIRI, jsh_RIIRR, jsh_RIRII, jsh_RIRIR, jsh_RIRRI, jsh_RIRRR, jsh_RRIII, jsh_RRIIR, jsh_RRIRI, jsh_RRIRR, jsh_RRRII, jsh_RRRIR, jsh_RRRRI, jsh_RRRRR, jsh_D, jsh_DR, jsh_F, jsh_FR, jthr_hp, jc_l0, jc_lW, jc_lX, jc_lXW, jc_lVW, jc_lVX, jpush_n, jpush_s, obt_0, obt_1, och_0, och_32, och_100, och_115, och_104, och_33, och_43, och_60, jint, jbit, jchr, ijI, ijR, ijD, ijF, ↓reduceIte, Int.reduceEq, Int.reduceLT, reduceCtorEq, lWr_bind, lWr_ite, lWr_none, lWr_oix, lWr_obt, lWr_och, lWr_sel, lWr_oel, lWr_some, f_Law_isPractised]
end
def f_Law_habitOf (m : jMem) (a1 : Int) (a2 : Int) : Option (Int × jMem) := (f_Reg_habitOf m a1 a2).bind fun sx1 => sel sx1 (fun x1 => oix (0 : Int) 1 (some (0, mset m 155 (0 : Int).toNat x1))) (fun e2 => if e2 = "java/lang/IndexOutOfBoundsException" then some (1, m) else if e2 = "java/lang/IllegalArgumentException" then some (2, m) else if e2 = "java/util/NoSuchElementException" then some (3, m) else none)
section
variable {cf : jCf} {dv : UInt64}
set_option maxRecDepth 20000 in
set_option maxHeartbeats 800000 in
theorem X318 (d : Nat) (a1 : Int) (a2 : Int) (m : jMem) (k : jM) : jme jT0 jMx (d + 4) 318 [jr (jn cf + 0), .inl a1, .inl a2, jr (jn cf + 155)] (hp cf dv m, k) = lWr cf dv k (f_Law_habitOf m a1 a2) := by
  simp only [M318, E318_0, E318_1, E318_2, E318_3, E318_4, E318_5, E318_8, E318_9, E318_10, E318_15, E318_16, E318_19, E318_20, E318_23, E318_24, E318_25, E318_26, as_155, X135, go_0, jsh_n, jsh_I, jsh_R, jsh_II, jsh_IR, jsh_RI, jsh_RR, jsh_III, jsh_IIR, jsh_IRI, jsh_IRR, jsh_RII, jsh_RIR, jsh_RRI, jsh_RRR, jsh_IIII, jsh_IIIR, jsh_IIRI, jsh_IIRR, jsh_IRII, jsh_IRIR, jsh_IRRI, jsh_IRRR, jsh_RIII, jsh_RIIR, jsh_RIRI, jsh_RIRR, jsh_RRII, jsh_RRIR, jsh_RRRI, jsh_RRRR, jsh_IIIII, jsh_IIIIR, jsh_IIIRI, jsh_IIIRR, jsh_IIRII, jsh_IIRIR, jsh_IIRRI, jsh_IIRRR, jsh_IRIII, jsh_IRIIR, jsh_IRIRI, jsh_IRIRR, jsh_IRRII, jsh_IRRIR, jsh_IRRRI, jsh_IRRRR, jsh_RIIII, jsh_RIIIR, jsh_RIIRI, jsh_RIIRR, jsh_RIRII, jsh_RIRIR, jsh_RIRRI, jsh_RIRRR, jsh_RRIII, jsh_RRIIR, jsh_RRIRI, jsh_RRIRR, jsh_RRRII, jsh_RRRIR, jsh_RRRRI, jsh_RRRRR, jsh_D, jsh_DR, jsh_F, jsh_FR, jthr_hp, jc_l0, jc_lW, jc_lX, jc_lXW, jc_lVW, jc_lVX, jpush_n, jpush_s, obt_0, obt_1, och_0, och_32, och_100, och_115, och_104, och_33, och_43, och_60, jint, jbit, jchr, ijI, ijR, ijD, ijF, ↓reduceIte, Int.reduceEq, Int.reduceLT, reduceCtorEq, lWr_bind, lWr_ite, lWr_none, lWr_oix, lWr_obt, lWr_och, lWr_sel, lWr_oel, lWr_some, f_Law_habitOf]
end
def f_Law_habitStrength (m : jMem) (a1 : Int) : Option (Int × jMem) := (f_Reg_habitStrength m a1).bind fun sx1 => sel sx1 (fun x1 => oix (0 : Int) 1 (some (0, mset m 155 (0 : Int).toNat x1))) (fun e2 => if e2 = "java/lang/IndexOutOfBoundsException" then some (1, m) else none)
section
variable {cf : jCf} {dv : UInt64}
set_option maxRecDepth 20000 in
set_option maxHeartbeats 800000 in
theorem X319 (d : Nat) (a1 : Int) (m : jMem) (k : jM) : jme jT0 jMx (d + 4) 319 [jr (jn cf + 0), .inl a1, jr (jn cf + 155)] (hp cf dv m, k) = lWr cf dv k (f_Law_habitStrength m a1) := by
  simp only [M319, E319_0, E319_1, E319_2, E319_3, E319_4, E319_7, E319_8, E319_9, E319_13, E319_14, E319_15, E319_16, as_155, X136, go_0, jsh_n, jsh_I, jsh_R, jsh_II, jsh_IR, jsh_RI, jsh_RR, jsh_III, jsh_IIR, jsh_IRI, jsh_IRR, jsh_RII, jsh_RIR, jsh_RRI, jsh_RRR, jsh_IIII, jsh_IIIR, jsh_IIRI, jsh_IIRR, jsh_IRII, jsh_IRIR, jsh_IRRI, jsh_IRRR, jsh_RIII, jsh_RIIR, jsh_RIRI, jsh_RIRR, jsh_RRII, jsh_RRIR, jsh_RRRI, jsh_RRRR, jsh_IIIII, jsh_IIIIR, jsh_IIIRI, jsh_IIIRR, jsh_IIRII, jsh_IIRIR, jsh_IIRRI, jsh_IIRRR, jsh_IRIII, jsh_IRIIR, jsh_IRIRI, jsh_IRIRR, jsh_IRRII, jsh_IRRIR, jsh_IRRRI, jsh_IRRRR, jsh_RIIII, jsh_RIIIR, jsh_RIIRI, jsh_RIIRR, jsh_RIRII, jsh_RIRIR, jsh_RIRRI, jsh_RIRRR, jsh_RRIII, jsh_RRIIR, jsh_RRIRI, jsh_RRIRR, jsh_RRRII, jsh_RRRIR, jsh_RRRRI, jsh_RRRRR, jsh_D, jsh_DR, jsh_F, jsh_FR, jthr_hp, jc_l0, jc_lW, jc_lX, jc_lXW, jc_lVW, jc_lVX, jpush_n, jpush_s, obt_0, obt_1, och_0, och_32, och_100, och_115, och_104, och_33, och_43, och_60, jint, jbit, jchr, ijI, ijR, ijD, ijF, ↓reduceIte, Int.reduceEq, Int.reduceLT, reduceCtorEq, lWr_bind, lWr_ite, lWr_none, lWr_oix, lWr_obt, lWr_och, lWr_sel, lWr_oel, lWr_some, f_Law_habitStrength]
end
def f_Law_passYears (m : jMem) (a1 : Int) : Option (Int × jMem) := (f_Reg_passYears m a1).bind fun qx1 => sel qx1.1 (fun x1 => oix (0 : Int) 1 (some (0, mset qx1.2 155 (0 : Int).toNat x1))) (fun e3 => if e3 = "java/lang/IllegalArgumentException" then some (1, qx1.2) else none)
section
variable {cf : jCf} {dv : UInt64}
set_option maxRecDepth 20000 in
set_option maxHeartbeats 800000 in
theorem X320 (d : Nat) (a1 : Int) (m : jMem) (k : jM) : jme jT0 jMx (d + 7) 320 [jr (jn cf + 0), .inl a1, jr (jn cf + 155)] (hp cf dv m, k) = lWr cf dv k (f_Law_passYears m a1) := by
  simp only [M320, E320_0, E320_1, E320_2, E320_3, E320_4, E320_7, E320_8, E320_9, E320_13, E320_14, E320_15, E320_16, as_155, X137, go_0, jsh_n, jsh_I, jsh_R, jsh_II, jsh_IR, jsh_RI, jsh_RR, jsh_III, jsh_IIR, jsh_IRI, jsh_IRR, jsh_RII, jsh_RIR, jsh_RRI, jsh_RRR, jsh_IIII, jsh_IIIR, jsh_IIRI, jsh_IIRR, jsh_IRII, jsh_IRIR, jsh_IRRI, jsh_IRRR, jsh_RIII, jsh_RIIR, jsh_RIRI, jsh_RIRR, jsh_RRII, jsh_RRIR, jsh_RRRI, jsh_RRRR, jsh_IIIII, jsh_IIIIR, jsh_IIIRI, jsh_IIIRR, jsh_IIRII, jsh_IIRIR, jsh_IIRRI, jsh_IIRRR, jsh_IRIII, jsh_IRIIR, jsh_IRIRI, jsh_IRIRR, jsh_IRRII, jsh_IRRIR, jsh_IRRRI, jsh_IRRRR, jsh_RIIII, jsh_RIIIR, jsh_RIIRI, jsh_RIIRR, jsh_RIRII, jsh_RIRIR, jsh_RIRRI, jsh_RIRRR, jsh_RRIII, jsh_RRIIR, jsh_RRIRI, jsh_RRIRR, jsh_RRRII, jsh_RRRIR, jsh_RRRRI, jsh_RRRRR, jsh_D, jsh_DR, jsh_F, jsh_FR, jthr_hp, jc_l0, jc_lW, jc_lX, jc_lXW, jc_lVW, jc_lVX, jpush_n, jpush_s, obt_0, obt_1, och_0, och_32, och_100, och_115, och_104, och_33, och_43, och_60, jint, jbit, jchr, ijI, ijR, ijD, ijF, ↓reduceIte, Int.reduceEq, Int.reduceLT, reduceCtorEq, lWr_bind, lWr_ite, lWr_none, lWr_oix, lWr_obt, lWr_och, lWr_sel, lWr_oel, lWr_some, f_Law_passYears]
end
def f_Law_yearsLeft (m : jMem) (a1 : Int) : Option (Int × jMem) := (f_Reg_yearsLeft m a1).bind fun sx1 => sel sx1 (fun x1 => oix (0 : Int) 1 (some (0, mset m 155 (0 : Int).toNat x1))) (fun e2 => if e2 = "java/lang/IndexOutOfBoundsException" then some (1, m) else if e2 = "java/util/NoSuchElementException" then some (2, m) else none)
section
variable {cf : jCf} {dv : UInt64}
set_option maxRecDepth 20000 in
set_option maxHeartbeats 800000 in
theorem X321 (d : Nat) (a1 : Int) (m : jMem) (k : jM) : jme jT0 jMx (d + 5) 321 [jr (jn cf + 0), .inl a1, jr (jn cf + 155)] (hp cf dv m, k) = lWr cf dv k (f_Law_yearsLeft m a1) := by
  simp only [M321, E321_0, E321_1, E321_2, E321_3, E321_4, E321_7, E321_8, E321_9, E321_13, E321_14, E321_16, E321_17, E321_18, E321_19, as_155, X139, go_0, jsh_n, jsh_I, jsh_R, jsh_II, jsh_IR, jsh_RI, jsh_RR, jsh_III, jsh_IIR, jsh_IRI, jsh_IRR, jsh_RII, jsh_RIR, jsh_RRI, jsh_RRR, jsh_IIII, jsh_IIIR, jsh_IIRI, jsh_IIRR, jsh_IRII, jsh_IRIR, jsh_IRRI, jsh_IRRR, jsh_RIII, jsh_RIIR, jsh_RIRI, jsh_RIRR, jsh_RRII, jsh_RRIR, jsh_RRRI, jsh_RRRR, jsh_IIIII, jsh_IIIIR, jsh_IIIRI, jsh_IIIRR, jsh_IIRII, jsh_IIRIR, jsh_IIRRI, jsh_IIRRR, jsh_IRIII, jsh_IRIIR, jsh_IRIRI, jsh_IRIRR, jsh_IRRII, jsh_IRRIR, jsh_IRRRI, jsh_IRRRR, jsh_RIIII, jsh_RIIIR, jsh_RIIRI, jsh_RIIRR, jsh_RIRII, jsh_RIRIR, jsh_RIRRI, jsh_RIRRR, jsh_RRIII, jsh_RRIIR, jsh_RRIRI, jsh_RRIRR, jsh_RRRII, jsh_RRRIR, jsh_RRRRI, jsh_RRRRR, jsh_D, jsh_DR, jsh_F, jsh_FR, jthr_hp, jc_l0, jc_lW, jc_lX, jc_lXW, jc_lVW, jc_lVX, jpush_n, jpush_s, obt_0, obt_1, och_0, och_32, och_100, och_115, och_104, och_33, och_43, och_60, jint, jbit, jchr, ijI, ijR, ijD, ijF, ↓reduceIte, Int.reduceEq, Int.reduceLT, reduceCtorEq, lWr_bind, lWr_ite, lWr_none, lWr_oix, lWr_obt, lWr_och, lWr_sel, lWr_oel, lWr_some, f_Law_yearsLeft]
end
def f_Law_habitByStrength (m : jMem) (a1 : Int) : Option (Int × jMem) := (f_Reg_habitByStrength m a1).bind fun sx1 => sel sx1 (fun x1 => oix (0 : Int) 1 (some (0, mset m 155 (0 : Int).toNat x1))) (fun e2 => if e2 = "java/util/NoSuchElementException" then some (1, m) else none)
section
variable {cf : jCf} {dv : UInt64}
set_option maxRecDepth 20000 in
set_option maxHeartbeats 800000 in
theorem X322 (d : Nat) (a1 : Int) (m : jMem) (k : jM) : jme jT0 jMx (d + 6) 322 [jr (jn cf + 0), .inl a1, jr (jn cf + 155)] (hp cf dv m, k) = lWr cf dv k (f_Law_habitByStrength m a1) := by
  simp only [M322, E322_0, E322_1, E322_2, E322_3, E322_4, E322_7, E322_8, E322_9, E322_13, E322_14, E322_15, E322_16, as_155, X145, go_0, jsh_n, jsh_I, jsh_R, jsh_II, jsh_IR, jsh_RI, jsh_RR, jsh_III, jsh_IIR, jsh_IRI, jsh_IRR, jsh_RII, jsh_RIR, jsh_RRI, jsh_RRR, jsh_IIII, jsh_IIIR, jsh_IIRI, jsh_IIRR, jsh_IRII, jsh_IRIR, jsh_IRRI, jsh_IRRR, jsh_RIII, jsh_RIIR, jsh_RIRI, jsh_RIRR, jsh_RRII, jsh_RRIR, jsh_RRRI, jsh_RRRR, jsh_IIIII, jsh_IIIIR, jsh_IIIRI, jsh_IIIRR, jsh_IIRII, jsh_IIRIR, jsh_IIRRI, jsh_IIRRR, jsh_IRIII, jsh_IRIIR, jsh_IRIRI, jsh_IRIRR, jsh_IRRII, jsh_IRRIR, jsh_IRRRI, jsh_IRRRR, jsh_RIIII, jsh_RIIIR, jsh_RIIRI, jsh_RIIRR, jsh_RIRII, jsh_RIRIR, jsh_RIRRI, jsh_RIRRR, jsh_RRIII, jsh_RRIIR, jsh_RRIRI, jsh_RRIRR, jsh_RRRII, jsh_RRRIR, jsh_RRRRI, jsh_RRRRR, jsh_D, jsh_DR, jsh_F, jsh_FR, jthr_hp, jc_l0, jc_lW, jc_lX, jc_lXW, jc_lVW, jc_lVX, jpush_n, jpush_s, obt_0, obt_1, och_0, och_32, och_100, och_115, och_104, och_33, och_43, och_60, jint, jbit, jchr, ijI, ijR, ijD, ijF, ↓reduceIte, Int.reduceEq, Int.reduceLT, reduceCtorEq, lWr_bind, lWr_ite, lWr_none, lWr_oix, lWr_obt, lWr_och, lWr_sel, lWr_oel, lWr_some, f_Law_habitByStrength]
end
def f_Law_personByStrength (m : jMem) (a1 : Int) : Option (Int × jMem) := (f_Reg_personByStrength m a1).bind fun sx1 => sel sx1 (fun x1 => oix (0 : Int) 1 (some (0, mset m 155 (0 : Int).toNat x1))) (fun e2 => if e2 = "java/util/NoSuchElementException" then some (1, m) else none)
section
variable {cf : jCf} {dv : UInt64}
set_option maxRecDepth 20000 in
set_option maxHeartbeats 800000 in
theorem X323 (d : Nat) (a1 : Int) (m : jMem) (k : jM) : jme jT0 jMx (d + 6) 323 [jr (jn cf + 0), .inl a1, jr (jn cf + 155)] (hp cf dv m, k) = lWr cf dv k (f_Law_personByStrength m a1) := by
  simp only [M323, E323_0, E323_1, E323_2, E323_3, E323_4, E323_7, E323_8, E323_9, E323_13, E323_14, E323_15, E323_16, as_155, X146, go_0, jsh_n, jsh_I, jsh_R, jsh_II, jsh_IR, jsh_RI, jsh_RR, jsh_III, jsh_IIR, jsh_IRI, jsh_IRR, jsh_RII, jsh_RIR, jsh_RRI, jsh_RRR, jsh_IIII, jsh_IIIR, jsh_IIRI, jsh_IIRR, jsh_IRII, jsh_IRIR, jsh_IRRI, jsh_IRRR, jsh_RIII, jsh_RIIR, jsh_RIRI, jsh_RIRR, jsh_RRII, jsh_RRIR, jsh_RRRI, jsh_RRRR, jsh_IIIII, jsh_IIIIR, jsh_IIIRI, jsh_IIIRR, jsh_IIRII, jsh_IIRIR, jsh_IIRRI, jsh_IIRRR, jsh_IRIII, jsh_IRIIR, jsh_IRIRI, jsh_IRIRR, jsh_IRRII, jsh_IRRIR, jsh_IRRRI, jsh_IRRRR, jsh_RIIII, jsh_RIIIR, jsh_RIIRI, jsh_RIIRR, jsh_RIRII, jsh_RIRIR, jsh_RIRRI, jsh_RIRRR, jsh_RRIII, jsh_RRIIR, jsh_RRIRI, jsh_RRIRR, jsh_RRRII, jsh_RRRIR, jsh_RRRRI, jsh_RRRRR, jsh_D, jsh_DR, jsh_F, jsh_FR, jthr_hp, jc_l0, jc_lW, jc_lX, jc_lXW, jc_lVW, jc_lVX, jpush_n, jpush_s, obt_0, obt_1, och_0, och_32, och_100, och_115, och_104, och_33, och_43, och_60, jint, jbit, jchr, ijI, ijR, ijD, ijF, ↓reduceIte, Int.reduceEq, Int.reduceLT, reduceCtorEq, lWr_bind, lWr_ite, lWr_none, lWr_oix, lWr_obt, lWr_och, lWr_sel, lWr_oel, lWr_some, f_Law_personByStrength]
end
def f_Law_writePerson (m : jMem) (a1 : Int) : Option (Int × jMem) := (f_Reg_writePerson m a1).bind fun qx1 => sel qx1.1 (fun x1 => oix (0 : Int) 1 (some (0, mset qx1.2 155 (0 : Int).toNat x1))) (fun e3 => if e3 = "java/lang/IndexOutOfBoundsException" then some (1, qx1.2) else none)
section
variable {cf : jCf} {dv : UInt64}
set_option maxRecDepth 20000 in
set_option maxHeartbeats 800000 in
theorem X326 (d : Nat) (a1 : Int) (m : jMem) (k : jM) : jme jT0 jMx (d + 5) 326 [jr (jn cf + 0), .inl a1, jr (jn cf + 155)] (hp cf dv m, k) = lWr cf dv k (f_Law_writePerson m a1) := by
  simp only [M326, E326_0, E326_1, E326_2, E326_3, E326_4, E326_7, E326_8, E326_9, E326_13, E326_14, E326_15, E326_16, as_155, X151, go_0, jsh_n, jsh_I, jsh_R, jsh_II, jsh_IR, jsh_RI, jsh_RR, jsh_III, jsh_IIR, jsh_IRI, jsh_IRR, jsh_RII, jsh_RIR, jsh_RRI, jsh_RRR, jsh_IIII, jsh_IIIR, jsh_IIRI, jsh_IIRR, jsh_IRII, jsh_IRIR, jsh_IRRI, jsh_IRRR, jsh_RIII, jsh_RIIR, jsh_RIRI, jsh_RIRR, jsh_RRII, jsh_RRIR, jsh_RRRI, jsh_RRRR, jsh_IIIII, jsh_IIIIR, jsh_IIIRI, jsh_IIIRR, jsh_IIRII, jsh_IIRIR, jsh_IIRRI, jsh_IIRRR, jsh_IRIII, jsh_IRIIR, jsh_IRIRI, jsh_IRIRR, jsh_IRRII, jsh_IRRIR, jsh_IRRRI, jsh_IRRRR, jsh_RIIII, jsh_RIIIR, jsh_RIIRI, jsh_RIIRR, jsh_RIRII, jsh_RIRIR, jsh_RIRRI, jsh_RIRRR, jsh_RRIII, jsh_RRIIR, jsh_RRIRI, jsh_RRIRR, jsh_RRRII, jsh_RRRIR, jsh_RRRRI, jsh_RRRRR, jsh_D, jsh_DR, jsh_F, jsh_FR, jthr_hp, jc_l0, jc_lW, jc_lX, jc_lXW, jc_lVW, jc_lVX, jpush_n, jpush_s, obt_0, obt_1, och_0, och_32, och_100, och_115, och_104, och_33, och_43, och_60, jint, jbit, jchr, ijI, ijR, ijD, ijF, ↓reduceIte, Int.reduceEq, Int.reduceLT, reduceCtorEq, lWr_bind, lWr_ite, lWr_none, lWr_oix, lWr_obt, lWr_och, lWr_sel, lWr_oel, lWr_some, f_Law_writePerson]
end
def f_Law_writeLine (m : jMem) (a1 : Int) : Option (Int × jMem) := (f_Reg_writeLine m a1).bind fun qx1 => sel qx1.1 (fun x1 => oix (0 : Int) 1 (some (0, mset qx1.2 155 (0 : Int).toNat x1))) (fun e3 => if e3 = "java/lang/IndexOutOfBoundsException" then some (1, qx1.2) else none)
section
variable {cf : jCf} {dv : UInt64}
set_option maxRecDepth 20000 in
set_option maxHeartbeats 800000 in
theorem X327 (d : Nat) (a1 : Int) (m : jMem) (k : jM) : jme jT0 jMx (d + 4) 327 [jr (jn cf + 0), .inl a1, jr (jn cf + 155)] (hp cf dv m, k) = lWr cf dv k (f_Law_writeLine m a1) := by
  simp only [M327, E327_0, E327_1, E327_2, E327_3, E327_4, E327_7, E327_8, E327_9, E327_13, E327_14, E327_15, E327_16, as_155, X153, go_0, jsh_n, jsh_I, jsh_R, jsh_II, jsh_IR, jsh_RI, jsh_RR, jsh_III, jsh_IIR, jsh_IRI, jsh_IRR, jsh_RII, jsh_RIR, jsh_RRI, jsh_RRR, jsh_IIII, jsh_IIIR, jsh_IIRI, jsh_IIRR, jsh_IRII, jsh_IRIR, jsh_IRRI, jsh_IRRR, jsh_RIII, jsh_RIIR, jsh_RIRI, jsh_RIRR, jsh_RRII, jsh_RRIR, jsh_RRRI, jsh_RRRR, jsh_IIIII, jsh_IIIIR, jsh_IIIRI, jsh_IIIRR, jsh_IIRII, jsh_IIRIR, jsh_IIRRI, jsh_IIRRR, jsh_IRIII, jsh_IRIIR, jsh_IRIRI, jsh_IRIRR, jsh_IRRII, jsh_IRRIR, jsh_IRRRI, jsh_IRRRR, jsh_RIIII, jsh_RIIIR, jsh_RIIRI, jsh_RIIRR, jsh_RIRII, jsh_RIRIR, jsh_RIRRI, jsh_RIRRR, jsh_RRIII, jsh_RRIIR, jsh_RRIRI, jsh_RRIRR, jsh_RRRII, jsh_RRRIR, jsh_RRRRI, jsh_RRRRR, jsh_D, jsh_DR, jsh_F, jsh_FR, jthr_hp, jc_l0, jc_lW, jc_lX, jc_lXW, jc_lVW, jc_lVX, jpush_n, jpush_s, obt_0, obt_1, och_0, och_32, och_100, och_115, och_104, och_33, och_43, och_60, jint, jbit, jchr, ijI, ijR, ijD, ijF, ↓reduceIte, Int.reduceEq, Int.reduceLT, reduceCtorEq, lWr_bind, lWr_ite, lWr_none, lWr_oix, lWr_obt, lWr_och, lWr_sel, lWr_oel, lWr_some, f_Law_writeLine]
end
def f_Law_outputAt (m : jMem) (a1 : Int) : Option (Int × jMem) := (f_Reg_outputAt m a1).bind fun sx1 => sel sx1 (fun x1 => oix (0 : Int) 1 (some (0, mset m 155 (0 : Int).toNat x1))) (fun e2 => if e2 = "java/lang/IndexOutOfBoundsException" then some (1, m) else none)
section
variable {cf : jCf} {dv : UInt64}
set_option maxRecDepth 20000 in
set_option maxHeartbeats 800000 in
theorem X328 (d : Nat) (a1 : Int) (m : jMem) (k : jM) : jme jT0 jMx (d + 4) 328 [jr (jn cf + 0), .inl a1, jr (jn cf + 155)] (hp cf dv m, k) = lWr cf dv k (f_Law_outputAt m a1) := by
  simp only [M328, E328_0, E328_1, E328_2, E328_3, E328_4, E328_7, E328_8, E328_9, E328_13, E328_14, E328_15, E328_16, as_155, X154, go_0, jsh_n, jsh_I, jsh_R, jsh_II, jsh_IR, jsh_RI, jsh_RR, jsh_III, jsh_IIR, jsh_IRI, jsh_IRR, jsh_RII, jsh_RIR, jsh_RRI, jsh_RRR, jsh_IIII, jsh_IIIR, jsh_IIRI, jsh_IIRR, jsh_IRII, jsh_IRIR, jsh_IRRI, jsh_IRRR, jsh_RIII, jsh_RIIR, jsh_RIRI, jsh_RIRR, jsh_RRII, jsh_RRIR, jsh_RRRI, jsh_RRRR, jsh_IIIII, jsh_IIIIR, jsh_IIIRI, jsh_IIIRR, jsh_IIRII, jsh_IIRIR, jsh_IIRRI, jsh_IIRRR, jsh_IRIII, jsh_IRIIR, jsh_IRIRI, jsh_IRIRR, jsh_IRRII, jsh_IRRIR, jsh_IRRRI, jsh_IRRRR, jsh_RIIII, jsh_RIIIR, jsh_RIIRI, jsh_RIIRR, jsh_RIRII, jsh_RIRIR, jsh_RIRRI, jsh_RIRRR, jsh_RRIII, jsh_RRIIR, jsh_RRIRI, jsh_RRIRR, jsh_RRRII, jsh_RRRIR, jsh_RRRRI, jsh_RRRRR, jsh_D, jsh_DR, jsh_F, jsh_FR, jthr_hp, jc_l0, jc_lW, jc_lX, jc_lXW, jc_lVW, jc_lVX, jpush_n, jpush_s, obt_0, obt_1, och_0, och_32, och_100, och_115, och_104, och_33, och_43, och_60, jint, jbit, jchr, ijI, ijR, ijD, ijF, ↓reduceIte, Int.reduceEq, Int.reduceLT, reduceCtorEq, lWr_bind, lWr_ite, lWr_none, lWr_oix, lWr_obt, lWr_och, lWr_sel, lWr_oel, lWr_some, f_Law_outputAt]
end
def f_Law_appendInput (m : jMem) (a1 : Int) : Option (Int × jMem) := (f_Reg_appendInput m a1).bind fun qx1 => sel qx1.1 (fun x1 => oix (0 : Int) 1 (some (0, mset qx1.2 155 (0 : Int).toNat x1))) (fun e3 => if e3 = "java/lang/IllegalArgumentException" then some (1, qx1.2) else if e3 = "java/lang/IllegalStateException" then some (2, qx1.2) else none)
section
variable {cf : jCf} {dv : UInt64}
set_option maxRecDepth 20000 in
set_option maxHeartbeats 800000 in
theorem X329 (d : Nat) (a1 : Int) (m : jMem) (k : jM) : jme jT0 jMx (d + 3) 329 [jr (jn cf + 0), .inl a1, jr (jn cf + 155)] (hp cf dv m, k) = lWr cf dv k (f_Law_appendInput m a1) := by
  simp only [M329, E329_0, E329_1, E329_2, E329_3, E329_4, E329_7, E329_8, E329_9, E329_13, E329_14, E329_16, E329_17, E329_18, E329_19, as_155, X155, go_0, jsh_n, jsh_I, jsh_R, jsh_II, jsh_IR, jsh_RI, jsh_RR, jsh_III, jsh_IIR, jsh_IRI, jsh_IRR, jsh_RII, jsh_RIR, jsh_RRI, jsh_RRR, jsh_IIII, jsh_IIIR, jsh_IIRI, jsh_IIRR, jsh_IRII, jsh_IRIR, jsh_IRRI, jsh_IRRR, jsh_RIII, jsh_RIIR, jsh_RIRI, jsh_RIRR, jsh_RRII, jsh_RRIR, jsh_RRRI, jsh_RRRR, jsh_IIIII, jsh_IIIIR, jsh_IIIRI, jsh_IIIRR, jsh_IIRII, jsh_IIRIR, jsh_IIRRI, jsh_IIRRR, jsh_IRIII, jsh_IRIIR, jsh_IRIRI, jsh_IRIRR, jsh_IRRII, jsh_IRRIR, jsh_IRRRI, jsh_IRRRR, jsh_RIIII, jsh_RIIIR, jsh_RIIRI, jsh_RIIRR, jsh_RIRII, jsh_RIRIR, jsh_RIRRI, jsh_RIRRR, jsh_RRIII, jsh_RRIIR, jsh_RRIRI, jsh_RRIRR, jsh_RRRII, jsh_RRRIR, jsh_RRRRI, jsh_RRRRR, jsh_D, jsh_DR, jsh_F, jsh_FR, jthr_hp, jc_l0, jc_lW, jc_lX, jc_lXW, jc_lVW, jc_lVX, jpush_n, jpush_s, obt_0, obt_1, och_0, och_32, och_100, och_115, och_104, och_33, och_43, och_60, jint, jbit, jchr, ijI, ijR, ijD, ijF, ↓reduceIte, Int.reduceEq, Int.reduceLT, reduceCtorEq, lWr_bind, lWr_ite, lWr_none, lWr_oix, lWr_obt, lWr_och, lWr_sel, lWr_oel, lWr_some, f_Law_appendInput]
end
def f_Law_execute (m : jMem) : Option (Int × jMem) := (f_Reg_execute m).bind fun qx1 => sel qx1.1 (fun x1 => oix (0 : Int) 1 (some (0, mset qx1.2 155 (0 : Int).toNat x1))) (fun e3 => if e3 = "java/lang/IllegalArgumentException" then some (1, qx1.2) else if e3 = "java/lang/IllegalStateException" then some (2, qx1.2) else if e3 = "java/lang/UnsupportedOperationException" then some (3, qx1.2) else none)
section
variable {cf : jCf} {dv : UInt64}
set_option maxRecDepth 20000 in
set_option maxHeartbeats 800000 in
theorem X330 (d : Nat) (m : jMem) (k : jM) : jme jT0 jMx (d + 8) 330 [jr (jn cf + 0), jr (jn cf + 155)] (hp cf dv m, k) = lWr cf dv k (f_Law_execute m) := by
  simp only [M330, E330_0, E330_1, E330_2, E330_3, E330_6, E330_7, E330_8, E330_12, E330_13, E330_15, E330_16, E330_18, E330_19, E330_20, E330_21, as_155, X156, go_0, jsh_n, jsh_I, jsh_R, jsh_II, jsh_IR, jsh_RI, jsh_RR, jsh_III, jsh_IIR, jsh_IRI, jsh_IRR, jsh_RII, jsh_RIR, jsh_RRI, jsh_RRR, jsh_IIII, jsh_IIIR, jsh_IIRI, jsh_IIRR, jsh_IRII, jsh_IRIR, jsh_IRRI, jsh_IRRR, jsh_RIII, jsh_RIIR, jsh_RIRI, jsh_RIRR, jsh_RRII, jsh_RRIR, jsh_RRRI, jsh_RRRR, jsh_IIIII, jsh_IIIIR, jsh_IIIRI, jsh_IIIRR, jsh_IIRII, jsh_IIRIR, jsh_IIRRI, jsh_IIRRR, jsh_IRIII, jsh_IRIIR, jsh_IRIRI, jsh_IRIRR, jsh_IRRII, jsh_IRRIR, jsh_IRRRI, jsh_IRRRR, jsh_RIIII, jsh_RIIIR, jsh_RIIRI, jsh_RIIRR, jsh_RIRII, jsh_RIRIR, jsh_RIRRI, jsh_RIRRR, jsh_RRIII, jsh_RRIIR, jsh_RRIRI, jsh_RRIRR, jsh_RRRII, jsh_RRRIR, jsh_RRRRI, jsh_RRRRR, jsh_D, jsh_DR, jsh_F, jsh_FR, jthr_hp, jc_l0, jc_lW, jc_lX, jc_lXW, jc_lVW, jc_lVX, jpush_n, jpush_s, obt_0, obt_1, och_0, och_32, och_100, och_115, och_104, och_33, och_43, och_60, jint, jbit, jchr, ijI, ijR, ijD, ijF, ↓reduceIte, Int.reduceEq, Int.reduceLT, reduceCtorEq, lWr_bind, lWr_ite, lWr_none, lWr_oix, lWr_obt, lWr_och, lWr_sel, lWr_oel, lWr_some, f_Law_execute]
end
def f_Law_syntaxErrorOffset (m : jMem) : Option (Int × jMem) := (f_Reg_syntaxErrorOffset m).bind fun sx1 => sel sx1 (fun x1 => oix (0 : Int) 1 (some (0, mset m 155 (0 : Int).toNat x1))) (fun e2 => if e2 = "java/util/NoSuchElementException" then some (1, m) else none)
section
variable {cf : jCf} {dv : UInt64}
set_option maxRecDepth 20000 in
set_option maxHeartbeats 800000 in
theorem X331 (d : Nat) (m : jMem) (k : jM) : jme jT0 jMx (d + 3) 331 [jr (jn cf + 0), jr (jn cf + 155)] (hp cf dv m, k) = lWr cf dv k (f_Law_syntaxErrorOffset m) := by
  simp only [M331, E331_0, E331_1, E331_2, E331_3, E331_6, E331_7, E331_8, E331_12, E331_13, E331_14, E331_15, as_155, X158, go_0, jsh_n, jsh_I, jsh_R, jsh_II, jsh_IR, jsh_RI, jsh_RR, jsh_III, jsh_IIR, jsh_IRI, jsh_IRR, jsh_RII, jsh_RIR, jsh_RRI, jsh_RRR, jsh_IIII, jsh_IIIR, jsh_IIRI, jsh_IIRR, jsh_IRII, jsh_IRIR, jsh_IRRI, jsh_IRRR, jsh_RIII, jsh_RIIR, jsh_RIRI, jsh_RIRR, jsh_RRII, jsh_RRIR, jsh_RRRI, jsh_RRRR, jsh_IIIII, jsh_IIIIR, jsh_IIIRI, jsh_IIIRR, jsh_IIRII, jsh_IIRIR, jsh_IIRRI, jsh_IIRRR, jsh_IRIII, jsh_IRIIR, jsh_IRIRI, jsh_IRIRR, jsh_IRRII, jsh_IRRIR, jsh_IRRRI, jsh_IRRRR, jsh_RIIII, jsh_RIIIR, jsh_RIIRI, jsh_RIIRR, jsh_RIRII, jsh_RIRIR, jsh_RIRRI, jsh_RIRRR, jsh_RRIII, jsh_RRIIR, jsh_RRIRI, jsh_RRIRR, jsh_RRRII, jsh_RRRIR, jsh_RRRRI, jsh_RRRRR, jsh_D, jsh_DR, jsh_F, jsh_FR, jthr_hp, jc_l0, jc_lW, jc_lX, jc_lXW, jc_lVW, jc_lVX, jpush_n, jpush_s, obt_0, obt_1, och_0, och_32, och_100, och_115, och_104, och_33, och_43, och_60, jint, jbit, jchr, ijI, ijR, ijD, ijF, ↓reduceIte, Int.reduceEq, Int.reduceLT, reduceCtorEq, lWr_bind, lWr_ite, lWr_none, lWr_oix, lWr_obt, lWr_och, lWr_sel, lWr_oel, lWr_some, f_Law_syntaxErrorOffset]
end
def f_Law_rejectionReason (m : jMem) : Option (Int × jMem) := (f_Reg_rejectionReason m).bind fun sx1 => sel sx1 (fun x1 => oix (0 : Int) 1 (some (0, mset m 155 (0 : Int).toNat x1))) (fun e2 => if e2 = "java/util/NoSuchElementException" then some (1, m) else none)
section
variable {cf : jCf} {dv : UInt64}
set_option maxRecDepth 20000 in
set_option maxHeartbeats 800000 in
theorem X332 (d : Nat) (m : jMem) (k : jM) : jme jT0 jMx (d + 3) 332 [jr (jn cf + 0), jr (jn cf + 155)] (hp cf dv m, k) = lWr cf dv k (f_Law_rejectionReason m) := by
  simp only [M332, E332_0, E332_1, E332_2, E332_3, E332_6, E332_7, E332_8, E332_12, E332_13, E332_14, E332_15, as_155, X159, go_0, jsh_n, jsh_I, jsh_R, jsh_II, jsh_IR, jsh_RI, jsh_RR, jsh_III, jsh_IIR, jsh_IRI, jsh_IRR, jsh_RII, jsh_RIR, jsh_RRI, jsh_RRR, jsh_IIII, jsh_IIIR, jsh_IIRI, jsh_IIRR, jsh_IRII, jsh_IRIR, jsh_IRRI, jsh_IRRR, jsh_RIII, jsh_RIIR, jsh_RIRI, jsh_RIRR, jsh_RRII, jsh_RRIR, jsh_RRRI, jsh_RRRR, jsh_IIIII, jsh_IIIIR, jsh_IIIRI, jsh_IIIRR, jsh_IIRII, jsh_IIRIR, jsh_IIRRI, jsh_IIRRR, jsh_IRIII, jsh_IRIIR, jsh_IRIRI, jsh_IRIRR, jsh_IRRII, jsh_IRRIR, jsh_IRRRI, jsh_IRRRR, jsh_RIIII, jsh_RIIIR, jsh_RIIRI, jsh_RIIRR, jsh_RIRII, jsh_RIRIR, jsh_RIRRI, jsh_RIRRR, jsh_RRIII, jsh_RRIIR, jsh_RRIRI, jsh_RRIRR, jsh_RRRII, jsh_RRRIR, jsh_RRRRI, jsh_RRRRR, jsh_D, jsh_DR, jsh_F, jsh_FR, jthr_hp, jc_l0, jc_lW, jc_lX, jc_lXW, jc_lVW, jc_lVX, jpush_n, jpush_s, obt_0, obt_1, och_0, och_32, och_100, och_115, och_104, och_33, och_43, och_60, jint, jbit, jchr, ijI, ijR, ijD, ijF, ↓reduceIte, Int.reduceEq, Int.reduceLT, reduceCtorEq, lWr_bind, lWr_ite, lWr_none, lWr_oix, lWr_obt, lWr_och, lWr_sel, lWr_oel, lWr_some, f_Law_rejectionReason]
end
def f_Law_rejectionDetail (m : jMem) : Option (Int × jMem) := (f_Reg_rejectionDetail m).bind fun sx1 => sel sx1 (fun x1 => oix (0 : Int) 1 (some (0, mset m 155 (0 : Int).toNat x1))) (fun e2 => if e2 = "java/util/NoSuchElementException" then some (1, m) else none)
section
variable {cf : jCf} {dv : UInt64}
set_option maxRecDepth 20000 in
set_option maxHeartbeats 800000 in
theorem X333 (d : Nat) (m : jMem) (k : jM) : jme jT0 jMx (d + 3) 333 [jr (jn cf + 0), jr (jn cf + 155)] (hp cf dv m, k) = lWr cf dv k (f_Law_rejectionDetail m) := by
  simp only [M333, E333_0, E333_1, E333_2, E333_3, E333_6, E333_7, E333_8, E333_12, E333_13, E333_14, E333_15, as_155, X160, go_0, jsh_n, jsh_I, jsh_R, jsh_II, jsh_IR, jsh_RI, jsh_RR, jsh_III, jsh_IIR, jsh_IRI, jsh_IRR, jsh_RII, jsh_RIR, jsh_RRI, jsh_RRR, jsh_IIII, jsh_IIIR, jsh_IIRI, jsh_IIRR, jsh_IRII, jsh_IRIR, jsh_IRRI, jsh_IRRR, jsh_RIII, jsh_RIIR, jsh_RIRI, jsh_RIRR, jsh_RRII, jsh_RRIR, jsh_RRRI, jsh_RRRR, jsh_IIIII, jsh_IIIIR, jsh_IIIRI, jsh_IIIRR, jsh_IIRII, jsh_IIRIR, jsh_IIRRI, jsh_IIRRR, jsh_IRIII, jsh_IRIIR, jsh_IRIRI, jsh_IRIRR, jsh_IRRII, jsh_IRRIR, jsh_IRRRI, jsh_IRRRR, jsh_RIIII, jsh_RIIIR, jsh_RIIRI, jsh_RIIRR, jsh_RIRII, jsh_RIRIR, jsh_RIRRI, jsh_RIRRR, jsh_RRIII, jsh_RRIIR, jsh_RRIRI, jsh_RRIRR, jsh_RRRII, jsh_RRRIR, jsh_RRRRI, jsh_RRRRR, jsh_D, jsh_DR, jsh_F, jsh_FR, jthr_hp, jc_l0, jc_lW, jc_lX, jc_lXW, jc_lVW, jc_lVX, jpush_n, jpush_s, obt_0, obt_1, och_0, och_32, och_100, och_115, och_104, och_33, och_43, och_60, jint, jbit, jchr, ijI, ijR, ijD, ijF, ↓reduceIte, Int.reduceEq, Int.reduceLT, reduceCtorEq, lWr_bind, lWr_ite, lWr_none, lWr_oix, lWr_obt, lWr_och, lWr_sel, lWr_oel, lWr_some, f_Law_rejectionDetail]
end
def f_Law_causeReason (m : jMem) : Option (Int × jMem) := (f_Reg_causeReason m).bind fun sx1 => sel sx1 (fun x1 => oix (0 : Int) 1 (some (0, mset m 155 (0 : Int).toNat x1))) (fun e2 => if e2 = "java/util/NoSuchElementException" then some (1, m) else none)
section
variable {cf : jCf} {dv : UInt64}
set_option maxRecDepth 20000 in
set_option maxHeartbeats 800000 in
theorem X334 (d : Nat) (m : jMem) (k : jM) : jme jT0 jMx (d + 2) 334 [jr (jn cf + 0), jr (jn cf + 155)] (hp cf dv m, k) = lWr cf dv k (f_Law_causeReason m) := by
  simp only [M334, E334_0, E334_1, E334_2, E334_3, E334_6, E334_7, E334_8, E334_12, E334_13, E334_14, E334_15, as_155, X161, go_0, jsh_n, jsh_I, jsh_R, jsh_II, jsh_IR, jsh_RI, jsh_RR, jsh_III, jsh_IIR, jsh_IRI, jsh_IRR, jsh_RII, jsh_RIR, jsh_RRI, jsh_RRR, jsh_IIII, jsh_IIIR, jsh_IIRI, jsh_IIRR, jsh_IRII, jsh_IRIR, jsh_IRRI, jsh_IRRR, jsh_RIII, jsh_RIIR, jsh_RIRI, jsh_RIRR, jsh_RRII, jsh_RRIR, jsh_RRRI, jsh_RRRR, jsh_IIIII, jsh_IIIIR, jsh_IIIRI, jsh_IIIRR, jsh_IIRII, jsh_IIRIR, jsh_IIRRI, jsh_IIRRR, jsh_IRIII, jsh_IRIIR, jsh_IRIRI, jsh_IRIRR, jsh_IRRII, jsh_IRRIR, jsh_IRRRI, jsh_IRRRR, jsh_RIIII, jsh_RIIIR, jsh_RIIRI, jsh_RIIRR, jsh_RIRII, jsh_RIRIR, jsh_RIRRI, jsh_RIRRR, jsh_RRIII, jsh_RRIIR, jsh_RRIRI, jsh_RRIRR, jsh_RRRII, jsh_RRRIR, jsh_RRRRI, jsh_RRRRR, jsh_D, jsh_DR, jsh_F, jsh_FR, jthr_hp, jc_l0, jc_lW, jc_lX, jc_lXW, jc_lVW, jc_lVX, jpush_n, jpush_s, obt_0, obt_1, och_0, och_32, och_100, och_115, och_104, och_33, och_43, och_60, jint, jbit, jchr, ijI, ijR, ijD, ijF, ↓reduceIte, Int.reduceEq, Int.reduceLT, reduceCtorEq, lWr_bind, lWr_ite, lWr_none, lWr_oix, lWr_obt, lWr_och, lWr_sel, lWr_oel, lWr_some, f_Law_causeReason]
end
def f_Law_undo (m : jMem) : Option (Int × jMem) := (f_Reg_undo m).bind fun qx1 => sel qx1.1 (fun x1 => oix (0 : Int) 1 (some (0, mset qx1.2 155 (0 : Int).toNat x1))) (fun e3 => if e3 = "java/lang/IllegalStateException" then some (1, qx1.2) else none)
section
variable {cf : jCf} {dv : UInt64}
set_option maxRecDepth 20000 in
set_option maxHeartbeats 800000 in
theorem X335 (d : Nat) (m : jMem) (k : jM) : jme jT0 jMx (d + 4) 335 [jr (jn cf + 0), jr (jn cf + 155)] (hp cf dv m, k) = lWr cf dv k (f_Law_undo m) := by
  simp only [M335, E335_0, E335_1, E335_2, E335_3, E335_6, E335_7, E335_8, E335_12, E335_13, E335_14, E335_15, as_155, X162, go_0, jsh_n, jsh_I, jsh_R, jsh_II, jsh_IR, jsh_RI, jsh_RR, jsh_III, jsh_IIR, jsh_IRI, jsh_IRR, jsh_RII, jsh_RIR, jsh_RRI, jsh_RRR, jsh_IIII, jsh_IIIR, jsh_IIRI, jsh_IIRR, jsh_IRII, jsh_IRIR, jsh_IRRI, jsh_IRRR, jsh_RIII, jsh_RIIR, jsh_RIRI, jsh_RIRR, jsh_RRII, jsh_RRIR, jsh_RRRI, jsh_RRRR, jsh_IIIII, jsh_IIIIR, jsh_IIIRI, jsh_IIIRR, jsh_IIRII, jsh_IIRIR, jsh_IIRRI, jsh_IIRRR, jsh_IRIII, jsh_IRIIR, jsh_IRIRI, jsh_IRIRR, jsh_IRRII, jsh_IRRIR, jsh_IRRRI, jsh_IRRRR, jsh_RIIII, jsh_RIIIR, jsh_RIIRI, jsh_RIIRR, jsh_RIRII, jsh_RIRIR, jsh_RIRRI, jsh_RIRRR, jsh_RRIII, jsh_RRIIR, jsh_RRIRI, jsh_RRIRR, jsh_RRRII, jsh_RRRIR, jsh_RRRRI, jsh_RRRRR, jsh_D, jsh_DR, jsh_F, jsh_FR, jthr_hp, jc_l0, jc_lW, jc_lX, jc_lXW, jc_lVW, jc_lVX, jpush_n, jpush_s, obt_0, obt_1, och_0, och_32, och_100, och_115, och_104, och_33, och_43, och_60, jint, jbit, jchr, ijI, ijR, ijD, ijF, ↓reduceIte, Int.reduceEq, Int.reduceLT, reduceCtorEq, lWr_bind, lWr_ite, lWr_none, lWr_oix, lWr_obt, lWr_och, lWr_sel, lWr_oel, lWr_some, f_Law_undo]
end
def f_Law_restoreSnapshot (m : jMem) : Option (Int × jMem) := (f_Reg_restoreSnapshot m).bind fun qx1 => sel qx1.1 (fun x1 => oix (0 : Int) 1 (some (0, mset qx1.2 155 (0 : Int).toNat x1))) (fun e3 => if e3 = "java/lang/IllegalStateException" then some (1, qx1.2) else none)
section
variable {cf : jCf} {dv : UInt64}
set_option maxRecDepth 20000 in
set_option maxHeartbeats 800000 in
theorem X336 (d : Nat) (m : jMem) (k : jM) : jme jT0 jMx (d + 4) 336 [jr (jn cf + 0), jr (jn cf + 155)] (hp cf dv m, k) = lWr cf dv k (f_Law_restoreSnapshot m) := by
  simp only [M336, E336_0, E336_1, E336_2, E336_3, E336_6, E336_7, E336_8, E336_12, E336_13, E336_14, E336_15, as_155, X165, go_0, jsh_n, jsh_I, jsh_R, jsh_II, jsh_IR, jsh_RI, jsh_RR, jsh_III, jsh_IIR, jsh_IRI, jsh_IRR, jsh_RII, jsh_RIR, jsh_RRI, jsh_RRR, jsh_IIII, jsh_IIIR, jsh_IIRI, jsh_IIRR, jsh_IRII, jsh_IRIR, jsh_IRRI, jsh_IRRR, jsh_RIII, jsh_RIIR, jsh_RIRI, jsh_RIRR, jsh_RRII, jsh_RRIR, jsh_RRRI, jsh_RRRR, jsh_IIIII, jsh_IIIIR, jsh_IIIRI, jsh_IIIRR, jsh_IIRII, jsh_IIRIR, jsh_IIRRI, jsh_IIRRR, jsh_IRIII, jsh_IRIIR, jsh_IRIRI, jsh_IRIRR, jsh_IRRII, jsh_IRRIR, jsh_IRRRI, jsh_IRRRR, jsh_RIIII, jsh_RIIIR, jsh_RIIRI, jsh_RIIRR, jsh_RIRII, jsh_RIRIR, jsh_RIRRI, jsh_RIRRR, jsh_RRIII, jsh_RRIIR, jsh_RRIRI, jsh_RRIRR, jsh_RRRII, jsh_RRRIR, jsh_RRRRI, jsh_RRRRR, jsh_D, jsh_DR, jsh_F, jsh_FR, jthr_hp, jc_l0, jc_lW, jc_lX, jc_lXW, jc_lVW, jc_lVX, jpush_n, jpush_s, obt_0, obt_1, och_0, och_32, och_100, och_115, och_104, och_33, och_43, och_60, jint, jbit, jchr, ijI, ijR, ijD, ijF, ↓reduceIte, Int.reduceEq, Int.reduceLT, reduceCtorEq, lWr_bind, lWr_ite, lWr_none, lWr_oix, lWr_obt, lWr_och, lWr_sel, lWr_oel, lWr_some, f_Law_restoreSnapshot]
end
section
variable (cl : Nat → List jV → jH → jR) (bk : Nat → jL → List jV → jH → jR) (n : Nat)
theorem E324_0 (a : Nat) (st : List jV) (l0 l2 : Option jV) (w : jH) : jblk jT0 324 cl bk (n + 1) 0 [l0, some (jr a), l2] st w = jblk jT0 324 cl bk n 1 [l0, some (jr a), l2] (jr a :: st) w := Eq.trans rfl rfl
theorem E324_1 (st : List jV) (l0 l1 l2 : Option jV) (w : jH) : jblk jT0 324 cl bk (n + 1) 1 [l0, l1, l2] st w = jblk jT0 324 cl bk n 2 [l0, l1, l2] (.inl 0 :: st) w := Eq.trans rfl rfl
theorem E324_2 (a : Nat) (st : List jV) (l1 l2 : Option jV) (w : jH) : jblk jT0 324 cl bk (n + 1) 2 [some (jr a), l1, l2] st w = jblk jT0 324 cl bk n 3 [some (jr a), l1, l2] (jr a :: st) w := Eq.trans rfl rfl
theorem E324_3 (a : Nat) (st : List jV) (l0 l1 l2 : Option jV) (w : jH) : jblk jT0 324 cl bk (n + 2) 3 [l0, l1, l2] (jr a :: st) w = jsh st (jgo w a 6 fun _ => jcl (cl 147 [jr a] w) (fun v w' => jblk jT0 324 cl bk (n + 1) 6 [l0, l1, l2] (jpush v st) w') (fun E w' => if E = "java/lang/ArithmeticException" then jblk jT0 324 cl bk (n + 1) 11 [l0, l1, none] [] w' else none)) := by
  refine congrArg (jsh st) (congrArg (jgo w a _) (funext fun _ => congrArg (jcl _ _) (funext fun E => funext fun w' => ?_)))
  show (match jhx _ E with | some (h, k) => _ | none => _) = _
  unfold jhx
  by_cases h0 : E = "java/lang/ArithmeticException"
  · rw [if_pos h0, if_pos h0]
    rfl
  rw [if_neg h0, if_neg h0]
  rfl
theorem E324_6 (x : Int) (a : Nat) (g : UInt64) (st : List jV) (l0 l1 l2 : Option jV) (w : jH) : jblk jT0 324 cl bk (n + 1) 6 [l0, l1, l2] (.inr (.inr (.double g)) :: .inl x :: jr a :: st) w = jad w a x g fun w' => jblk jT0 324 cl bk n 7 [l0, l1, l2] st w' := Eq.trans rfl rfl
theorem E324_7 (st : List jV) (l0 l1 l2 : Option jV) (w : jH) : jblk jT0 324 cl bk (n + 1) 7 [l0, l1, l2] st w = jblk jT0 324 cl bk n 13 [l0, l1, l2] st w := Eq.trans rfl rfl
theorem E324_11 (st : List jV) (l0 l1 l2 : Option jV) (w : jH) : jblk jT0 324 cl bk (n + 1) 11 [l0, l1, l2] st w = jblk jT0 324 cl bk n 12 [l0, l1, l2] (.inl 1 :: st) w := Eq.trans rfl rfl
theorem E324_12 (x : Int) (l0 l1 l2 : Option jV) (w : jH) : jblk jT0 324 cl bk (n + 1) 12 [l0, l1, l2] [.inl x] w = if jfits .int x = true then some (.inl (some (.inl x)), w) else none := Eq.trans rfl rfl
theorem E324_13 (st : List jV) (l0 l1 l2 : Option jV) (w : jH) : jblk jT0 324 cl bk (n + 1) 13 [l0, l1, l2] st w = jblk jT0 324 cl bk n 14 [l0, l1, l2] (.inl 0 :: st) w := Eq.trans rfl rfl
theorem E324_14 (x : Int) (l0 l1 l2 : Option jV) (w : jH) : jblk jT0 324 cl bk (n + 1) 14 [l0, l1, l2] [.inl x] w = if jfits .int x = true then some (.inl (some (.inl x)), w) else none := Eq.trans rfl rfl
theorem E325_0 (a : Nat) (st : List jV) (l0 l2 : Option jV) (w : jH) : jblk jT0 325 cl bk (n + 1) 0 [l0, some (jr a), l2] st w = jblk jT0 325 cl bk n 1 [l0, some (jr a), l2] (jr a :: st) w := Eq.trans rfl rfl
theorem E325_1 (st : List jV) (l0 l1 l2 : Option jV) (w : jH) : jblk jT0 325 cl bk (n + 1) 1 [l0, l1, l2] st w = jblk jT0 325 cl bk n 2 [l0, l1, l2] (.inl 0 :: st) w := Eq.trans rfl rfl
theorem E325_2 (a : Nat) (st : List jV) (l1 l2 : Option jV) (w : jH) : jblk jT0 325 cl bk (n + 1) 2 [some (jr a), l1, l2] st w = jblk jT0 325 cl bk n 3 [some (jr a), l1, l2] (jr a :: st) w := Eq.trans rfl rfl
theorem E325_3 (a : Nat) (st : List jV) (l0 l1 l2 : Option jV) (w : jH) : jblk jT0 325 cl bk (n + 2) 3 [l0, l1, l2] (jr a :: st) w = jsh st (jgo w a 6 fun _ => jcl (cl 148 [jr a] w) (fun v w' => jblk jT0 325 cl bk (n + 1) 6 [l0, l1, l2] (jpush v st) w') (fun E w' => if E = "java/lang/ArithmeticException" then jblk jT0 325 cl bk (n + 1) 12 [l0, l1, none] [] w' else none)) := by
  refine congrArg (jsh st) (congrArg (jgo w a _) (funext fun _ => congrArg (jcl _ _) (funext fun E => funext fun w' => ?_)))
  show (match jhx _ E with | some (h, k) => _ | none => _) = _
  unfold jhx
  by_cases h0 : E = "java/lang/ArithmeticException"
  · rw [if_pos h0, if_pos h0]
    rfl
  rw [if_neg h0, if_neg h0]
  rfl
theorem E325_6 (f : UInt32) (st : List jV) (l0 l1 l2 : Option jV) (w : jH) : jblk jT0 325 cl bk (n + 1) 6 [l0, l1, l2] (.inr (.inr (.float f)) :: st) w = if FP.f2d f &&& 0x7fffffffffffffff ≤ 0x7ff0000000000000 then jblk jT0 325 cl bk n 7 [l0, l1, l2] (.inr (.inr (.double (FP.f2d f))) :: st) w else none := Eq.trans rfl rfl
theorem E325_7 (x : Int) (a : Nat) (g : UInt64) (st : List jV) (l0 l1 l2 : Option jV) (w : jH) : jblk jT0 325 cl bk (n + 1) 7 [l0, l1, l2] (.inr (.inr (.double g)) :: .inl x :: jr a :: st) w = jad w a x g fun w' => jblk jT0 325 cl bk n 8 [l0, l1, l2] st w' := Eq.trans rfl rfl
theorem E325_8 (st : List jV) (l0 l1 l2 : Option jV) (w : jH) : jblk jT0 325 cl bk (n + 1) 8 [l0, l1, l2] st w = jblk jT0 325 cl bk n 14 [l0, l1, l2] st w := Eq.trans rfl rfl
theorem E325_12 (st : List jV) (l0 l1 l2 : Option jV) (w : jH) : jblk jT0 325 cl bk (n + 1) 12 [l0, l1, l2] st w = jblk jT0 325 cl bk n 13 [l0, l1, l2] (.inl 1 :: st) w := Eq.trans rfl rfl
theorem E325_13 (x : Int) (l0 l1 l2 : Option jV) (w : jH) : jblk jT0 325 cl bk (n + 1) 13 [l0, l1, l2] [.inl x] w = if jfits .int x = true then some (.inl (some (.inl x)), w) else none := Eq.trans rfl rfl
theorem E325_14 (st : List jV) (l0 l1 l2 : Option jV) (w : jH) : jblk jT0 325 cl bk (n + 1) 14 [l0, l1, l2] st w = jblk jT0 325 cl bk n 15 [l0, l1, l2] (.inl 0 :: st) w := Eq.trans rfl rfl
theorem E325_15 (x : Int) (l0 l1 l2 : Option jV) (w : jH) : jblk jT0 325 cl bk (n + 1) 15 [l0, l1, l2] [.inl x] w = if jfits .int x = true then some (.inl (some (.inl x)), w) else none := Eq.trans rfl rfl
end
theorem M324 (d : Nat) (r0 : Nat) (r1 : Nat) (w : jH) : jme jT0 jMx (d + 1) 324 [jr r0, jr r1] w = jblk jT0 324 (jme jT0 jMx d) (jlp jT0 324 (jme jT0 jMx d) 99999) 4000 0 [some (jr r0), some (jr r1), none] [] w := (show _ = jlp jT0 324 (jme jT0 jMx d) 100000 0 [some (jr r0), some (jr r1), none] [] w from rfl).trans jlp_s
theorem M325 (d : Nat) (r0 : Nat) (r1 : Nat) (w : jH) : jme jT0 jMx (d + 1) 325 [jr r0, jr r1] w = jblk jT0 325 (jme jT0 jMx d) (jlp jT0 325 (jme jT0 jMx d) 99999) 4000 0 [some (jr r0), some (jr r1), none] [] w := (show _ = jlp jT0 325 (jme jT0 jMx d) 100000 0 [some (jr r0), some (jr r1), none] [] w from rfl).trans jlp_s
def f_Law_meanStrength (m : jMem) (dv : UInt64) : Option (Int × UInt64) := (f_Reg_meanStrength m).bind fun s => sel s (fun x => oix (0 : Int) 1 (some (0, x))) (fun e => if e = "java/lang/ArithmeticException" then some (1, dv) else none)
def f_Law_livingShare (m : jMem) (dv : UInt64) : Option (Int × UInt64) := (f_Reg_livingShare m).bind fun s => sel s (fun x => if FP.f2d x &&& 0x7fffffffffffffff ≤ 0x7ff0000000000000 then oix (0 : Int) 1 (some (0, FP.f2d x)) else none) (fun e => if e = "java/lang/ArithmeticException" then some (1, dv) else none)
section
variable {cf : jCf} {dv : UInt64}
set_option maxRecDepth 20000 in
set_option maxHeartbeats 800000 in
theorem X324 (d : Nat) (m : jMem) (k : jM) : jme jT0 jMx (d + 3) 324 [jr (jn cf + 0), jr (jn cf + 156)] (hp cf dv m, k) = lWd cf m k (f_Law_meanStrength m dv) := by
  simp only [M324, E324_0, E324_1, E324_2, E324_3, E324_6, E324_7, E324_11, E324_12, E324_13, E324_14, jad_hp, go_0, X147, jsh_n, jsh_I, jsh_R, jsh_II, jsh_IR, jsh_RI, jsh_RR, jsh_III, jsh_IIR, jsh_IRI, jsh_IRR, jsh_RII, jsh_RIR, jsh_RRI, jsh_RRR, jsh_IIII, jsh_IIIR, jsh_IIRI, jsh_IIRR, jsh_IRII, jsh_IRIR, jsh_IRRI, jsh_IRRR, jsh_RIII, jsh_RIIR, jsh_RIRI, jsh_RIRR, jsh_RRII, jsh_RRIR, jsh_RRRI, jsh_RRRR, jsh_IIIII, jsh_IIIIR, jsh_IIIRI, jsh_IIIRR, jsh_IIRII, jsh_IIRIR, jsh_IIRRI, jsh_IIRRR, jsh_IRIII, jsh_IRIIR, jsh_IRIRI, jsh_IRIRR, jsh_IRRII, jsh_IRRIR, jsh_IRRRI, jsh_IRRRR, jsh_RIIII, jsh_RIIIR, jsh_RIIRI, jsh_RIIRR, jsh_RIRII, jsh_RIRIR, jsh_RIRRI, jsh_RIRRR, jsh_RRIII, jsh_RRIIR, jsh_RRIRI, jsh_RRIRR, jsh_RRRII, jsh_RRRIR, jsh_RRRRI, jsh_RRRRR, jsh_D, jsh_DR, jsh_F, jsh_FR, jthr_hp, jc_l0, jc_lW, jc_lX, jc_lXW, jc_lVW, jc_lVX, jpush_n, jpush_s, obt_0, obt_1, och_0, och_32, och_100, och_115, och_104, och_33, och_43, och_60, jint, jbit, jchr, ijI, ijR, ijD, ijF, ↓reduceIte, Int.reduceEq, Int.reduceLT, reduceCtorEq, lWd_bind, lWd_ite, lWd_none, lWd_oix, lWd_obt, lWd_och, lWd_sel, lWd_oel, lWd_some, f_Law_meanStrength]
set_option maxRecDepth 20000 in
set_option maxHeartbeats 800000 in
theorem X325 (d : Nat) (m : jMem) (k : jM) : jme jT0 jMx (d + 3) 325 [jr (jn cf + 0), jr (jn cf + 156)] (hp cf dv m, k) = lWd cf m k (f_Law_livingShare m dv) := by
  simp only [M325, E325_0, E325_1, E325_2, E325_3, E325_6, E325_7, E325_8, E325_12, E325_13, E325_14, E325_15, jad_hp, go_0, X148, jsh_n, jsh_I, jsh_R, jsh_II, jsh_IR, jsh_RI, jsh_RR, jsh_III, jsh_IIR, jsh_IRI, jsh_IRR, jsh_RII, jsh_RIR, jsh_RRI, jsh_RRR, jsh_IIII, jsh_IIIR, jsh_IIRI, jsh_IIRR, jsh_IRII, jsh_IRIR, jsh_IRRI, jsh_IRRR, jsh_RIII, jsh_RIIR, jsh_RIRI, jsh_RIRR, jsh_RRII, jsh_RRIR, jsh_RRRI, jsh_RRRR, jsh_IIIII, jsh_IIIIR, jsh_IIIRI, jsh_IIIRR, jsh_IIRII, jsh_IIRIR, jsh_IIRRI, jsh_IIRRR, jsh_IRIII, jsh_IRIIR, jsh_IRIRI, jsh_IRIRR, jsh_IRRII, jsh_IRRIR, jsh_IRRRI, jsh_IRRRR, jsh_RIIII, jsh_RIIIR, jsh_RIIRI, jsh_RIIRR, jsh_RIRII, jsh_RIRIR, jsh_RIRRI, jsh_RIRRR, jsh_RRIII, jsh_RRIIR, jsh_RRIRI, jsh_RRIRR, jsh_RRRII, jsh_RRRIR, jsh_RRRRI, jsh_RRRRR, jsh_D, jsh_DR, jsh_F, jsh_FR, jthr_hp, jc_l0, jc_lW, jc_lX, jc_lXW, jc_lVW, jc_lVX, jpush_n, jpush_s, obt_0, obt_1, och_0, och_32, och_100, och_115, och_104, och_33, och_43, och_60, jint, jbit, jchr, ijI, ijR, ijD, ijF, ↓reduceIte, Int.reduceEq, Int.reduceLT, reduceCtorEq, lWd_bind, lWd_ite, lWd_none, lWd_oix, lWd_obt, lWd_och, lWd_sel, lWd_oel, lWd_some, f_Law_livingShare]
end

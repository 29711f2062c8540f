/-! ===== inversions: what the interpreter's steps need ===== -/
theorem jlI_some {ls : jL} {k : Nat} {f : Int → jR} {z : jO × jH} (h : jlI ls k f = some z) : ∃ x, ls[k]? = some (some (.inl x)) ∧ f x = some z := by
  unfold jlI at h
  split at h
  · exact ⟨_, by assumption, h⟩
  · cases h
theorem jlR_some {ls : jL} {k : Nat} {f : Nat → jR} {z : jO × jH} (h : jlR ls k f = some z) : ∃ x, ls[k]? = some (some (jr x)) ∧ f x = some z := by
  unfold jlR at h
  split at h
  · exact ⟨_, by assumption, h⟩
  · cases h
theorem jlF_some {ls : jL} {k : Nat} {f : UInt32 → jR} {z : jO × jH} (h : jlF ls k f = some z) : ∃ x, ls[k]? = some (some (.inr (.inr (.float x)))) ∧ f x = some z := by
  unfold jlF at h
  split at h
  · exact ⟨_, by assumption, h⟩
  · cases h
theorem jlD_some {ls : jL} {k : Nat} {f : UInt64 → jR} {z : jO × jH} (h : jlD ls k f = some z) : ∃ x, ls[k]? = some (some (.inr (.inr (.double x)))) ∧ f x = some z := by
  unfold jlD at h
  split at h
  · exact ⟨_, by assumption, h⟩
  · cases h
theorem jst1_some {ls : jL} {k : Nat} {v : jV} {f : jL → jR} {z : jO × jH} (h : jst1 ls k v f = some z) : k < ls.length ∧ k ≠ 8 ∧ f (ls.set k (some v)) = some z := by
  unfold jst1 at h
  split at h
  · rename_i hb
    simp only [Bool.and_eq_true, Bool.not_eq_true', Nat.blt_eq] at hb
    exact ⟨hb.1, fun e => by rw [e] at hb; simp at hb, h⟩
  · cases h
theorem jst2_some {ls : jL} {k : Nat} {v : jV} {f : jL → jR} {z : jO × jH} (h : jst2 ls k v f = some z) : 8 < ls.length ∧ k = 7 ∧ f ((ls.set 7 (some v)).set 8 none) = some z := by
  unfold jst2 at h
  split at h
  · rename_i hb
    simp only [Bool.and_eq_true, Nat.blt_eq] at hb
    exact ⟨hb.1, Nat.eq_of_beq_eq_true hb.2, h⟩
  · cases h
theorem jp0_some {st : List jV} {f : Int → List jV → jR} {z : jO × jH} (h : jp0 st f = some z) : ∃ x r, st = .inl x :: r ∧ f x r = some z := by
  unfold jp0 at h
  split at h
  · exact ⟨_, _, rfl, h⟩
  · cases h
theorem jp2_some {st : List jV} {f : Int → Int → List jV → jR} {z : jO × jH} (h : jp2 st f = some z) : ∃ x y r, st = .inl y :: .inl x :: r ∧ f x y r = some z := by
  unfold jp2 at h
  split at h
  · exact ⟨_, _, _, rfl, h⟩
  · cases h
theorem jpL_some {st : List jV} {f : Int → Int → List jV → jR} {z : jO × jH} (h : jpL st f = some z) : ∃ x y r, st = .inr (.inl y) :: .inr (.inl x) :: r ∧ f x y r = some z := by
  unfold jpL at h
  split at h
  · exact ⟨_, _, _, rfl, h⟩
  · cases h
theorem jpR_some {st : List jV} {f : Nat → List jV → jR} {z : jO × jH} (h : jpR st f = some z) : ∃ x r, st = jr x :: r ∧ f x r = some z := by
  unfold jpR at h
  split at h
  · exact ⟨_, _, rfl, h⟩
  · cases h
theorem jpF_some {st : List jV} {f : UInt32 → List jV → jR} {z : jO × jH} (h : jpF st f = some z) : ∃ x r, st = .inr (.inr (.float x)) :: r ∧ f x r = some z := by
  unfold jpF at h
  split at h
  · exact ⟨_, _, rfl, h⟩
  · cases h
theorem jpD_some {st : List jV} {f : UInt64 → List jV → jR} {z : jO × jH} (h : jpD st f = some z) : ∃ x r, st = .inr (.inr (.double x)) :: r ∧ f x r = some z := by
  unfold jpD at h
  split at h
  · exact ⟨_, _, rfl, h⟩
  · cases h
theorem jpA_some {st : List jV} {f : Nat → Int → List jV → jR} {z : jO × jH} (h : jpA st f = some z) : ∃ a i r, st = .inl i :: jr a :: r ∧ f a i r = some z := by
  unfold jpA at h
  split at h
  · exact ⟨_, _, _, rfl, h⟩
  · cases h
theorem jpS_some {st : List jV} {f : Nat → Int → jV → List jV → jR} {z : jO × jH} (h : jpS st f = some z) : ∃ a i v r, st = v :: .inl i :: jr a :: r ∧ f a i v r = some z := by
  unfold jpS at h
  split at h
  · exact ⟨_, _, _, _, rfl, h⟩
  · cases h
theorem jga_some {w : jH} {a : Nat} {ty : FieldType} {f : Nat → (Nat → Int) → jR} {z : jO × jH} (h : jga w a ty f = some z) : ∃ n g, w.1 a = some (.inl (ty, (n, g))) ∧ f n g = some z := by
  unfold jga at h
  split at h
  · split at h
    · rename_i e
      subst e
      exact ⟨_, _, by assumption, h⟩
    · cases h
  · cases h
theorem jgq_some {w : jH} {a : Nat} {f : FieldType → Nat → (Nat → Value) → jR} {z : jO × jH} (h : jgq w a f = some z) : ∃ ty n g, w.1 a = some (.inr (.inr (ty, (n, g)))) ∧ f ty n g = some z := by
  unfold jgq at h
  split at h
  · exact ⟨_, _, _, by assumption, h⟩
  · cases h
theorem jgo_some {w : jH} {a ci : Nat} {f : List jV → jR} {z : jO × jH} (h : jgo w a ci f = some z) : ∃ fs, w.1 a = some (.inr (.inl (ci, fs))) ∧ f fs = some z := by
  unfold jgo at h
  split at h
  · split at h
    · rename_i e
      subst e
      exact ⟨_, by assumption, h⟩
    · cases h
  · cases h
theorem jix_some {i : Int} {n : Nat} {r : jR} {z : jO × jH} (h : jix i n r = some z) : 0 ≤ i ∧ i < (n : Int) ∧ r = some z := by
  unfold jix at h
  split at h
  · rename_i e
    exact ⟨e.1, e.2, h⟩
  · cases h
theorem jfld_some {f : jV → jR} {z : jO × jH} : ∀ (fs : List jV) (k : Nat), jfld fs k f = some z → ∃ v, fs[k]? = some v ∧ f v = some z
  | v :: _, 0, h => ⟨v, rfl, h⟩
  | _ :: r, k + 1, h => by
    obtain ⟨v, h1, h2⟩ := jfld_some r k (by simpa only [jfld] using h)
    exact ⟨v, by simpa using h1, h2⟩
  | [], _, h => by simp [jfld] at h
theorem jnew_some {w : jH} {e : jE} {n : Nat} {f : Nat → jH → jR} {z : jO × jH} (h : jnew w e n f = some z) : ∃ a, w.2.1 = some a ∧ f a ((fun q => if q = a then some e else w.1 q), (some (a + 1), (w.2.2.1 + 1, w.2.2.2 + n))) = some z := by
  unfold jnew at h
  split at h
  · exact ⟨_, by assumption, h⟩
  · cases h
theorem jcl_some {r : jR} {kr : Option jV → jH → jR} {kx : String → jH → jR} {z : jO × jH} (h : jcl r kr kx = some z) : (∃ v w, r = some (.inl v, w) ∧ kr v w = some z) ∨ (∃ E w, r = some (.inr E, w) ∧ kx E w = some z) := by
  unfold jcl at h
  split at h
  · exact Or.inl ⟨_, _, rfl, h⟩
  · exact Or.inr ⟨_, _, rfl, h⟩
  · cases h

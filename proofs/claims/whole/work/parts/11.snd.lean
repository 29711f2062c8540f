/-! ===== the interpreter is sound: a step ===== -/
def jlen : Instr → Nat
  | .aload _ => 2
  | .iload _ => 2
  | .fload _ => 2
  | .dload _ => 2
  | .astore _ => 2
  | .istore _ => 2
  | .fstore _ => 2
  | .dstore _ => 2
  | .bipush _ => 2
  | .sipush _ => 3
  | .iinc _ _ => 3
  | .ifCond _ _ => 3
  | .if_icmp _ _ => 3
  | .goto _ => 3
  | .ifnull _ => 3
  | .ifnonnull _ => 3
  | .getfield _ => 3
  | .putfield _ => 3
  | .ldc _ => 2
  | .ldc_w _ => 3
  | .new _ => 3
  | .newarray _ => 2
  | .anewarray _ => 3
  | .invokevirtual _ => 3
  | .invokestatic _ => 3
  | .invokespecial _ => 3
  | .tableswitch _ _ _ _ => 0
  | .lookupswitch _ _ => 0
  | _ => 1
section JSnd
variable {cl : List vw_C} {G : jGc} {p : Program} {l : Launch} {e : Env} {R : Room} {s : State} {m : MethodId} {args : Array Value} {below : List Frame} {meth : Method} {c : Code} {Q : State → Prop} {c0 s0 : Nat} {z : jO × jH} {pc : Nat} {ls : jL} {st : List jV} {w : jH}
variable {t : jT} {mu : Nat} {own : String} {cx : Nat → List jV → jH → jR}
def jDec (t : jT) (mu : Nat) (c : Code) : Prop := ∀ pc i, jcode t mu pc = some i → ∃ len, decode c.code pc = .ok (i, len) ∧ (jlen i = 0 ∨ len = jlen i) ∧ jtk pc i = true
theorem jDec.at {i : Instr} (h : jDec t mu c) (hi : jcode t mu pc = some i) (h0 : jlen i ≠ 0) : decode c.code pc = .ok (i, jlen i) ∧ jtk pc i = true := by
  obtain ⟨len, h1, h2, h3⟩ := h pc i hi
  rcases h2 with h2 | h2
  · exact absurd h2 h0
  · rw [← h2]; exact ⟨h1, h3⟩
/-- what a step asks of the fields -/
def jFldF (cl : List vw_C) (t : jT) (mu : Nat) (own : String) (args : Array Value) (s : State) (meth : Method) : Prop :=
  (∀ pc idx ci k ty, jcode t mu pc = some (.getfield idx) → jfres t mu idx = some (ci, (k, ty)) → jFl cl args s own idx ci k ty) ∧
  (∀ pc idx ci k ty, jcode t mu pc = some (.putfield idx) → jfres t mu idx = some (ci, (k, ty)) → jFl cl args s own idx ci k ty ∧ jFp cl meth own idx ci k args s)
/-- what the steps that make or call or end ask -/
def jStpF (cl : List vw_C) (G : jGc) (p : Program) (l : Launch) (e : Env) (R : Room) (s : State) (m : MethodId) (args : Array Value) (below : List Frame) (meth : Method) (c : Code) (Q : State → Prop) (c0 s0 : Nat) (z : jO × jH) (t : jT) (mu : Nat) (cx : Nat → List jV → jH → jR) : Prop :=
  (∀ pc idx ci fs a ls st w, jcode t mu pc = some (.new idx) → jkres t mu idx = some (.inl (ci, fs)) → w.2.1 = some a → jPt cl G p l e R s m args below meth c Q c0 s0 z (pc + 3) ls (jr a :: st) ((fun q => if q = a then some (.inr (.inl (ci, fs))) else w.1 q, (some (a + 1), (w.2.2.1 + 1, w.2.2.2 + fs.length)))) → jPt cl G p l e R s m args below meth c Q c0 s0 z pc ls st w) ∧
  (∀ pc idx E ls st w, jcode t mu pc = some (.new idx) → jkres t mu idx = some (.inr E) → Nat.ble (jcats st) 8 = true → z = (.inr E, jthr w) → jPt cl G p l e R s m args below meth c Q c0 s0 z pc ls st w) ∧
  (∀ pc aty x a ls r w, jcode t mu pc = some (.newarray aty) → 0 ≤ x → x < 2000 → w.2.1 = some a → jPt cl G p l e R s m args below meth c Q c0 s0 z (pc + 2) ls (jr a :: r) ((fun q => if q = a then some (jlen0 (jzero aty) x.toNat) else w.1 q, (some (a + 1), (w.2.2.1 + 1, w.2.2.2 + x.toNat)))) → jPt cl G p l e R s m args below meth c Q c0 s0 z pc ls (.inl x :: r) w) ∧
  (∀ pc idx a ls r w, jcode t mu pc = some (.anewarray idx) → w.2.1 = some a → jPt cl G p l e R s m args below meth c Q c0 s0 z (pc + 3) ls (jr a :: r) ((fun q => if q = a then some (.inr (.inr (.object "HabitRegistry$State", (9, fun _ => .null)))) else w.1 q, (some (a + 1), (w.2.2.1 + 1, w.2.2.2 + 9)))) → jPt cl G p l e R s m args below meth c Q c0 s0 z pc ls (.inl 9 :: r) w) ∧
  (∀ pc idx k x ls st w, jcode t mu pc = some (.ldc idx) → jcres t mu idx = some k → ls[k.toNat]? = some (some (.inl x)) → Nat.ble (jcats st) 8 = true → jPt cl G p l e R s m args below meth c Q c0 s0 z (pc + 6) ls (.inl (jidx x) :: st) w → jPt cl G p l e R s m args below meth c Q c0 s0 z pc ls st w) ∧
  (∀ pc idx a ls r w, jcode t mu pc = some (.invokespecial idx) → (∃ q, jmres t mu idx = some (5, q)) → Nat.ble (jcats r) 8 = true → jPt cl G p l e R s m args below meth c Q c0 s0 z (pc + 3) ls r w → jPt cl G p l e R s m args below meth c Q c0 s0 z pc ls (jr a :: r) w) ∧
  (∀ pc idx mu' n as a ls st r w z', (jcode t mu pc = some (.invokevirtual idx) ∧ jmres t mu idx = some (0, (mu', n)) ∧ (∃ fs, w.1 a = some (.inr (.inl (jores t mu', fs)))) ∨ jcode t mu pc = some (.invokespecial idx) ∧ jmres t mu idx = some (2, (mu', n))) → jpop n [] st = some (as, jr a :: r) → Nat.ble (jcats r) 8 = true → cx mu' (jr a :: as) w = some z' →
    (∀ v, z'.1 = .inl v → jPt cl G p l e R s m args below meth c Q c0 s0 z (pc + 3) ls (jpush v r) z'.2) → (∀ E, z'.1 = .inr E → (∃ h k, jhres t mu E = some (h, k) ∧ jPt cl G p l e R s m args below meth c Q c0 s0 z h (ls.set k none) ([]) z'.2) ∨ jhres t mu E = none ∧ z = (.inr E, z'.2)) → jPt cl G p l e R s m args below meth c Q c0 s0 z pc ls st w) ∧
  (∀ pc idx mu' n as ls st r w z', jcode t mu pc = some (.invokestatic idx) → jmres t mu idx = some (1, (mu', n)) → jpop n [] st = some (as, r) → Nat.ble (jcats r) 8 = true → cx mu' as w = some z' →
    (∀ v, z'.1 = .inl v → jPt cl G p l e R s m args below meth c Q c0 s0 z (pc + 3) ls (jpush v r) z'.2) → (∀ E, z'.1 = .inr E → jhres t mu E = none ∧ z = (.inr E, z'.2)) → jPt cl G p l e R s m args below meth c Q c0 s0 z pc ls st w) ∧
  (∀ pc idx kd q x y ls r w, jcode t mu pc = some (.invokestatic idx) → jmres t mu idx = some (kd, q) → Nat.ble (jcats r) 8 = true → (kd = 3 ∧ jPt cl G p l e R s m args below meth c Q c0 s0 z (pc + 3) ls (.inl (if x < y then y else x) :: r) w ∨ kd = 4 ∧ jPt cl G p l e R s m args below meth c Q c0 s0 z (pc + 3) ls (.inl (if y < x then y else x) :: r) w) → jPt cl G p l e R s m args below meth c Q c0 s0 z pc ls (.inl y :: .inl x :: r) w) ∧
  (∀ pc x ty ls w, jcode t mu pc = some .ireturn → jtres t mu = some ty → jfits ty x = true → z = (.inl (some (.inl x)), w) → jPt cl G p l e R s m args below meth c Q c0 s0 z pc ls ([.inl x]) w) ∧
  (∀ pc x ty ls w, jcode t mu pc = some .areturn → jtres t mu = some ty → ((∃ n, ty = .object n) ∨ ∃ u, ty = .array u) → z = (.inl (some (jr x)), w) → jPt cl G p l e R s m args below meth c Q c0 s0 z pc ls ([jr x]) w) ∧
  (∀ pc x ls w, jcode t mu pc = some .freturn → jtres t mu = some .float → z = (.inl (some (.inr (.inr (.float x)))), w) → jPt cl G p l e R s m args below meth c Q c0 s0 z pc ls ([.inr (.inr (.float x))]) w) ∧
  (∀ pc x ls w, jcode t mu pc = some .dreturn → jtres t mu = some .double → z = (.inl (some (.inr (.inr (.double x)))), w) → jPt cl G p l e R s m args below meth c Q c0 s0 z pc ls ([.inr (.inr (.double x))]) w) ∧
  (∀ pc ls w, jcode t mu pc = some .return_ → jtres t mu = none → z = (.inl none, w) → jPt cl G p l e R s m args below meth c Q c0 s0 z pc ls ([]) w)
theorem jpop_v : ∀ (n : Nat) (acc : List jV) (st as r : List jV), jpop n acc st = some (as, r) → as.reverse ++ r = acc.reverse ++ st ∧ as.length = n + acc.length
  | 0, acc, st, as, r, h => by
    cases h
    exact ⟨rfl, (Nat.zero_add _).symm⟩
  | n + 1, acc, v :: st, as, r, h => by
    have h1 := jpop_v n (v :: acc) st as r h
    refine ⟨?_, by rw [h1.2, List.length_cons]; omega⟩
    rw [h1.1, List.reverse_cons, List.append_assoc]
    rfl
  | n + 1, acc, [], as, r, h => by cases h
theorem jtwo_some {α : Type} {b : Bool} {r : α} {y : α} (h : (match b with | true => some r | false => none) = some y) : b = true ∧ r = y := by
  cases b
  · cases h
  · cases h
    exact ⟨rfl, rfl⟩
theorem jsh_some {st : List jV} {r : jR} {z : jO × jH} (h : jsh st r = some z) : Nat.ble (jcats st) 8 = true ∧ r = some z := by
  unfold jsh at h
  split at h
  · exact ⟨by assumption, h⟩
  · cases h
theorem jite_some {P : Prop} {d : Decidable P} {r : jR} {z : jO × jH} (h : @ite _ P d r none = some z) : P ∧ r = some z := by
  by_cases hp : P
  · rw [if_pos hp] at h
    exact ⟨hp, h⟩
  · rw [if_neg hp] at h
    cases h
theorem jinv_snd (S : jStpF cl G p l e R s m args below meth c Q c0 s0 z t mu cx) {go : Nat → jL → List jV → jH → jR} (hgo : ∀ pc' ls' st' w', go pc' ls' st' w' = some z → jPt cl G p l e R s m args below meth c Q c0 s0 z pc' ls' st' w') {idx : Nat} {inst : Bool}
    (hi : (inst = true ∧ (jcode t mu pc = some (.invokevirtual idx) ∧ (∃ q, jmres t mu idx = some (0, q)) ∨ jcode t mu pc = some (.invokespecial idx) ∧ (∃ q, jmres t mu idx = some (2, q)))) ∨ inst = false ∧ jcode t mu pc = some (.invokestatic idx)) (h : jinv t mu cx go pc idx ls st w inst = some z) : jPt cl G p l e R s m args below meth c Q c0 s0 z pc ls st w := by
  obtain ⟨-, -, -, -, -, -, S7, S8, S9, -⟩ := S
  unfold jinv at h
  split at h
  · rename_i kd mu' n hm
    split at h
    · rename_i as st' hp
      split at h
      · obtain ⟨a, r, rfl, h⟩ := jpR_some h
        obtain ⟨hc, h⟩ := jsh_some h
        have hk : (kd = 0 ∨ kd = 2) := by
          rcases hi with ⟨-, ⟨-, q, hq⟩ | ⟨-, q, hq⟩⟩ | ⟨hf, -⟩
          · left; exact (Prod.mk.inj (Option.some.inj (hm.symm.trans hq))).1
          · right; exact (Prod.mk.inj (Option.some.inj (hm.symm.trans hq))).1
          · cases hf
        have hg : (jcode t mu pc = some (.invokevirtual idx) ∧ jmres t mu idx = some (0, (mu', n)) ∧ (∃ fs, w.1 a = some (.inr (.inl (jores t mu', fs)))) ∨ jcode t mu pc = some (.invokespecial idx) ∧ jmres t mu idx = some (2, (mu', n))) ∧ jcl (cx mu' (jr a :: as) w) (fun v w' => go (pc + 3) ls (jpush v r) w') (fun E w' => match jhres t mu E with
            | some (h, k) => go h (ls.set k none) [] w'
            | none => some (.inr E, w')) = some z := by
          rcases hi with ⟨-, ⟨h1, q, hq⟩ | ⟨h1, q, hq⟩⟩ | ⟨hf, -⟩
          · have hkd : kd = 0 := (Prod.mk.inj (Option.some.inj (hm.symm.trans hq))).1
            subst hkd
            obtain ⟨fs, f1, f2⟩ := jgo_some (f := fun _ => _) h
            exact ⟨Or.inl ⟨h1, hm, fs, f1⟩, f2⟩
          · have hkd : kd = 2 := (Prod.mk.inj (Option.some.inj (hm.symm.trans hq))).1
            subst hkd
            exact ⟨Or.inr ⟨h1, hm⟩, h⟩
          · cases hf
        obtain ⟨h1, h2⟩ := hg
        rcases jcl_some h2 with ⟨v, w', q1, q2⟩ | ⟨E, w', q1, q2⟩
        · exact S7 pc idx mu' n as a ls st r w (.inl v, w') h1 hp hc q1 (fun u hu => by cases hu; exact hgo _ _ _ _ q2) (fun E hE => by cases hE)
        · refine S7 pc idx mu' n as a ls st r w (.inr E, w') h1 hp hc q1 (fun u hu => by cases hu) (fun E' hE => ?_)
          cases hE
          split at q2
          · rename_i hh kk hj
            exact Or.inl ⟨hh, kk, hj, hgo _ _ _ _ q2⟩
          · rename_i hj
            cases q2
            exact Or.inr ⟨hj, rfl⟩
      · have hi' : jcode t mu pc = some (.invokestatic idx) := by
          rcases hi with ⟨hf, -⟩ | ⟨-, h1⟩
          · cases hf
          · exact h1
        split at h
        · rename_i x y
          obtain ⟨hc, h⟩ := jsh_some h
          obtain ⟨h1, h2⟩ := jpop_v _ _ _ _ _ hp
          have hst : st = .inl y :: .inl x :: st' := by simpa using h1.symm
          subst hst
          exact S9 pc idx 3 _ x y ls st' w hi' hm hc (Or.inl ⟨rfl, hgo _ _ _ _ h⟩)
        · rename_i x y
          obtain ⟨hc, h⟩ := jsh_some h
          obtain ⟨h1, h2⟩ := jpop_v _ _ _ _ _ hp
          have hst : st = .inl y :: .inl x :: st' := by simpa using h1.symm
          subst hst
          exact S9 pc idx 4 _ x y ls st' w hi' hm hc (Or.inr ⟨rfl, hgo _ _ _ _ h⟩)
        · obtain ⟨hc, h⟩ := jsh_some h
          rcases jcl_some h with ⟨v, w', q1, q2⟩ | ⟨E, w', q1, q2⟩
          · exact S8 pc idx mu' n as ls st st' w (.inl v, w') hi' hm hp hc q1 (fun u hu => by cases hu; exact hgo _ _ _ _ q2) (fun E hE => by cases hE)
          · refine S8 pc idx mu' n as ls st st' w (.inr E, w') hi' hm hp hc q1 (fun u hu => by cases hu) (fun E' hE => ?_)
            cases hE
            split at q2
            · cases q2
            · rename_i hj
              cases q2
              exact ⟨hj, rfl⟩
        · cases h
    · cases h
  · cases h
end JSnd

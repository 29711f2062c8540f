/-! ===== soundness of steps, with the code at a handler there ===== -/
section JSndB
variable {cl : List vw_C} {G : jGc} {p : Program} {l : Launch} {e : Env} {R : Room} {s : State} {m : MethodId} {args : Array Value} {below : List Frame} {meth : Method} {c : Code} {Q : State → Prop} {c0 s0 : Nat} {z : jO × jH} {pc : Nat} {ls : jL} {st : List jV} {w : jH}
variable {t : jT} {mu : Nat} {own : String} {cx : Nat → List jV → jH → jR}
/-- what the steps that make or call or end ask, a caught exception going to code that is there -/
def jStpG (cl : List vw_C) (G : jGc) (p : Program) (l : Launch) (e : Env) (R : Room) (s : State) (m : MethodId) (args : Array Value) (below : List Frame) (meth : Method) (c : Code) (Q : State → Prop) (c0 s0 : Nat) (z : jO × jH) (t : jT) (mu : Nat) (cx : Nat → List jV → jH → jR) : Prop :=
  (∀ pc idx ci fs a ls st w, jcode t mu pc = some (.new idx) → jkres t mu idx = some (.inl (ci, fs)) → w.2.1 = some a → jPt cl G p l e R s m args below meth c Q c0 s0 z (pc + 3) ls (jr a :: st) ((fun q => if q = a then some (.inr (.inl (ci, fs))) else w.1 q, (some (a + 1), (w.2.2.1 + 1, w.2.2.2 + fs.length)))) → jPt cl G p l e R s m args below meth c Q c0 s0 z pc ls st w) ∧
  (∀ pc idx E ls st w, jcode t mu pc = some (.new idx) → jkres t mu idx = some (.inr E) → Nat.ble (jcats st) 8 = true → z = (.inr E, jthr w) → jPt cl G p l e R s m args below meth c Q c0 s0 z pc ls st w) ∧
  (∀ pc aty x a ls r w, jcode t mu pc = some (.newarray aty) → 0 ≤ x → x < 2000 → w.2.1 = some a → jPt cl G p l e R s m args below meth c Q c0 s0 z (pc + 2) ls (jr a :: r) ((fun q => if q = a then some (jlen0 (jzero aty) x.toNat) else w.1 q, (some (a + 1), (w.2.2.1 + 1, w.2.2.2 + x.toNat)))) → jPt cl G p l e R s m args below meth c Q c0 s0 z pc ls (.inl x :: r) w) ∧
  (∀ pc idx a ls r w, jcode t mu pc = some (.anewarray idx) → w.2.1 = some a → jPt cl G p l e R s m args below meth c Q c0 s0 z (pc + 3) ls (jr a :: r) ((fun q => if q = a then some (.inr (.inr (.object "HabitRegistry$State", (9, fun _ => .null)))) else w.1 q, (some (a + 1), (w.2.2.1 + 1, w.2.2.2 + 9)))) → jPt cl G p l e R s m args below meth c Q c0 s0 z pc ls (.inl 9 :: r) w) ∧
  (∀ pc idx k x ls st w, jcode t mu pc = some (.ldc idx) → jcres t mu idx = some k → ls[k.toNat]? = some (some (.inl x)) → Nat.ble (jcats st) 8 = true → jPt cl G p l e R s m args below meth c Q c0 s0 z (pc + 6) ls (.inl (jidx x) :: st) w → jPt cl G p l e R s m args below meth c Q c0 s0 z pc ls st w) ∧
  (∀ pc idx a ls r w, jcode t mu pc = some (.invokespecial idx) → (∃ q, jmres t mu idx = some (5, q)) → Nat.ble (jcats r) 8 = true → jPt cl G p l e R s m args below meth c Q c0 s0 z (pc + 3) ls r w → jPt cl G p l e R s m args below meth c Q c0 s0 z pc ls (jr a :: r) w) ∧
  (∀ pc idx mu' n as a ls st r w z', (jcode t mu pc = some (.invokevirtual idx) ∧ jmres t mu idx = some (0, (mu', n)) ∧ (∃ fs, w.1 a = some (.inr (.inl (jores t mu', fs)))) ∨ jcode t mu pc = some (.invokespecial idx) ∧ jmres t mu idx = some (2, (mu', n))) → jpop n [] st = some (as, jr a :: r) → Nat.ble (jcats r) 8 = true → cx mu' (jr a :: as) w = some z' →
    (∀ v, z'.1 = .inl v → jPt cl G p l e R s m args below meth c Q c0 s0 z (pc + 3) ls (jpush v r) z'.2) → (∀ E, z'.1 = .inr E → (∃ h k, jhres t mu E = some (h, k) ∧ (jcode t mu h).isSome = true ∧ jPt cl G p l e R s m args below meth c Q c0 s0 z h (ls.set k none) ([]) z'.2) ∨ jhres t mu E = none ∧ z = (.inr E, z'.2)) → jPt cl G p l e R s m args below meth c Q c0 s0 z pc ls st w) ∧
  (∀ pc idx mu' n as ls st r w z', jcode t mu pc = some (.invokestatic idx) → jmres t mu idx = some (1, (mu', n)) → jpop n [] st = some (as, r) → Nat.ble (jcats r) 8 = true → cx mu' as w = some z' →
    (∀ v, z'.1 = .inl v → jPt cl G p l e R s m args below meth c Q c0 s0 z (pc + 3) ls (jpush v r) z'.2) → (∀ E, z'.1 = .inr E → jhres t mu E = none ∧ z = (.inr E, z'.2)) → jPt cl G p l e R s m args below meth c Q c0 s0 z pc ls st w) ∧
  (∀ pc idx kd q x y ls r w, jcode t mu pc = some (.invokestatic idx) → jmres t mu idx = some (kd, q) → Nat.ble (jcats r) 8 = true → (kd = 3 ∧ jPt cl G p l e R s m args below meth c Q c0 s0 z (pc + 3) ls (.inl (if x < y then y else x) :: r) w ∨ kd = 4 ∧ jPt cl G p l e R s m args below meth c Q c0 s0 z (pc + 3) ls (.inl (if y < x then y else x) :: r) w) → jPt cl G p l e R s m args below meth c Q c0 s0 z pc ls (.inl y :: .inl x :: r) w) ∧
  (∀ pc x ty ls w, jcode t mu pc = some .ireturn → jtres t mu = some ty → jfits ty x = true → z = (.inl (some (.inl x)), w) → jPt cl G p l e R s m args below meth c Q c0 s0 z pc ls ([.inl x]) w) ∧
  (∀ pc x ty ls w, jcode t mu pc = some .areturn → jtres t mu = some ty → ((∃ n, ty = .object n) ∨ ∃ u, ty = .array u) → z = (.inl (some (jr x)), w) → jPt cl G p l e R s m args below meth c Q c0 s0 z pc ls ([jr x]) w) ∧
  (∀ pc x ls w, jcode t mu pc = some .freturn → jtres t mu = some .float → z = (.inl (some (.inr (.inr (.float x)))), w) → jPt cl G p l e R s m args below meth c Q c0 s0 z pc ls ([.inr (.inr (.float x))]) w) ∧
  (∀ pc x ls w, jcode t mu pc = some .dreturn → jtres t mu = some .double → z = (.inl (some (.inr (.inr (.double x)))), w) → jPt cl G p l e R s m args below meth c Q c0 s0 z pc ls ([.inr (.inr (.double x))]) w) ∧
  (∀ pc ls w, jcode t mu pc = some .return_ → jtres t mu = none → z = (.inl none, w) → jPt cl G p l e R s m args below meth c Q c0 s0 z pc ls ([]) w)
theorem jinv_sndB (S : jStpG cl G p l e R s m args below meth c Q c0 s0 z t mu cx) {go : Nat → jL → List jV → jH → jR} (hgo : ∀ pc' ls' st' w', go pc' ls' st' w' = some z → jPt cl G p l e R s m args below meth c Q c0 s0 z pc' ls' st' w') (hgn : ∀ pc' ls' st' w', go pc' ls' st' w' = some z → (jcode t mu pc').isSome = true) {idx : Nat} {inst : Bool}
    (hi : (inst = true ∧ (jcode t mu pc = some (.invokevirtual idx) ∧ (∃ q, jmres t mu idx = some (0, q)) ∨ jcode t mu pc = some (.invokespecial idx) ∧ (∃ q, jmres t mu idx = some (2, q)))) ∨ inst = false ∧ jcode t mu pc = some (.invokestatic idx)) (h : jinv t mu cx go pc idx ls st w inst = some z) : jPt cl G p l e R s m args below meth c Q c0 s0 z pc ls st w := by
  obtain ⟨-, -, -, -, -, -, S7, S8, S9, -⟩ := S
  unfold jinv at h
  split at h
  · rename_i kd mu' n hm
    split at h
    · rename_i as st' hp
      split at h
      · obtain ⟨a, r, rfl, h⟩ := jpR_some h
        obtain ⟨hc, h⟩ := jsh_some h
        have hk : (kd = 0 ∨ kd = 2) := by
          rcases hi with ⟨-, ⟨-, q, hq⟩ | ⟨-, q, hq⟩⟩ | ⟨hf, -⟩
          · left; exact (Prod.mk.inj (Option.some.inj (hm.symm.trans hq))).1
          · right; exact (Prod.mk.inj (Option.some.inj (hm.symm.trans hq))).1
          · cases hf
        have hg : (jcode t mu pc = some (.invokevirtual idx) ∧ jmres t mu idx = some (0, (mu', n)) ∧ (∃ fs, w.1 a = some (.inr (.inl (jores t mu', fs)))) ∨ jcode t mu pc = some (.invokespecial idx) ∧ jmres t mu idx = some (2, (mu', n))) ∧ jcl (cx mu' (jr a :: as) w) (fun v w' => go (pc + 3) ls (jpush v r) w') (fun E w' => match jhres t mu E with
            | some (h, k) => go h (ls.set k none) [] w'
            | none => some (.inr E, w')) = some z := by
          rcases hi with ⟨-, ⟨h1, q, hq⟩ | ⟨h1, q, hq⟩⟩ | ⟨hf, -⟩
          · have hkd : kd = 0 := (Prod.mk.inj (Option.some.inj (hm.symm.trans hq))).1
            subst hkd
            obtain ⟨fs, f1, f2⟩ := jgo_some (f := fun _ => _) h
            exact ⟨Or.inl ⟨h1, hm, fs, f1⟩, f2⟩
          · have hkd : kd = 2 := (Prod.mk.inj (Option.some.inj (hm.symm.trans hq))).1
            subst hkd
            exact ⟨Or.inr ⟨h1, hm⟩, h⟩
          · cases hf
        obtain ⟨h1, h2⟩ := hg
        rcases jcl_some h2 with ⟨v, w', q1, q2⟩ | ⟨E, w', q1, q2⟩
        · exact S7 pc idx mu' n as a ls st r w (.inl v, w') h1 hp hc q1 (fun u hu => by cases hu; exact hgo _ _ _ _ q2) (fun E hE => by cases hE)
        · refine S7 pc idx mu' n as a ls st r w (.inr E, w') h1 hp hc q1 (fun u hu => by cases hu) (fun E' hE => ?_)
          cases hE
          split at q2
          · rename_i hh kk hj
            exact Or.inl ⟨hh, kk, hj, hgn _ _ _ _ q2, hgo _ _ _ _ q2⟩
          · rename_i hj
            cases q2
            exact Or.inr ⟨hj, rfl⟩
      · have hi' : jcode t mu pc = some (.invokestatic idx) := by
          rcases hi with ⟨hf, -⟩ | ⟨-, h1⟩
          · cases hf
          · exact h1
        split at h
        · rename_i x y
          obtain ⟨hc, h⟩ := jsh_some h
          obtain ⟨h1, h2⟩ := jpop_v _ _ _ _ _ hp
          have hst : st = .inl y :: .inl x :: st' := by simpa using h1.symm
          subst hst
          exact S9 pc idx 3 _ x y ls st' w hi' hm hc (Or.inl ⟨rfl, hgo _ _ _ _ h⟩)
        · rename_i x y
          obtain ⟨hc, h⟩ := jsh_some h
          obtain ⟨h1, h2⟩ := jpop_v _ _ _ _ _ hp
          have hst : st = .inl y :: .inl x :: st' := by simpa using h1.symm
          subst hst
          exact S9 pc idx 4 _ x y ls st' w hi' hm hc (Or.inr ⟨rfl, hgo _ _ _ _ h⟩)
        · obtain ⟨hc, h⟩ := jsh_some h
          rcases jcl_some h with ⟨v, w', q1, q2⟩ | ⟨E, w', q1, q2⟩
          · exact S8 pc idx mu' n as ls st st' w (.inl v, w') hi' hm hp hc q1 (fun u hu => by cases hu; exact hgo _ _ _ _ q2) (fun E hE => by cases hE)
          · refine S8 pc idx mu' n as ls st st' w (.inr E, w') hi' hm hp hc q1 (fun u hu => by cases hu) (fun E' hE => ?_)
            cases hE
            split at q2
            · cases q2
            · rename_i hj
              cases q2
              exact ⟨hj, rfl⟩
        · cases h
    · cases h
  · cases h
end JSndB
section JStSndB
variable {cl : List vw_C} {G : jGc} {p : Program} {l : Launch} {e : Env} {R : Room} {s : State} {m : MethodId} {args : Array Value} {below : List Frame} {meth : Method} {c : Code} {Q : State → Prop} {c0 s0 : Nat} {z : jO × jH} {pc : Nat} {ls : jL} {st : List jV} {w : jH}
variable {t : jT} {mu : Nat} {own : String} {cx : Nat → List jV → jH → jR}
set_option maxHeartbeats 4000000 in
theorem jst_sndB (hx : p.tables.exec = Jvm.exec) (hW : jWo cl G s) (hown : s.vm.findClass own = some m.cls) (hD : jDec t mu c) (hF : jFldF cl t mu own args s meth) (hC : ∃ (T : u_T) (N : Nat), cl[7]? = some ("HabitRegistry$State", T, N)) (S : jStpG cl G p l e R s m args below meth c Q c0 s0 z t mu cx)
    {go : Nat → jL → List jV → jH → jR} (hgo : ∀ pc' ls' st' w', go pc' ls' st' w' = some z → jPt cl G p l e R s m args below meth c Q c0 s0 z pc' ls' st' w') (hgn : ∀ pc' ls' st' w', go pc' ls' st' w' = some z → (jcode t mu pc').isSome = true) {i : Instr} (hi : jcode t mu pc = some i) (h : jst t mu cx go pc i ls st w = some z) : jPt cl G p l e R s m args below meth c Q c0 s0 z pc ls st w := by
  obtain ⟨S1, S2, S3, S4, S5, S6, S7, S8, S9, S10, S11, S12, S13, S14⟩ := id S
  cases i with
  | aload_n k =>
    obtain ⟨hd, ht⟩ := hD.at hi (by simp [jlen])
    obtain ⟨x, h1, h2⟩ := jlR_some h
    exact jS_aload_n hx hd h1 (hgo _ _ _ _ h2)
  | aload k =>
    obtain ⟨hd, ht⟩ := hD.at hi (by simp [jlen])
    obtain ⟨x, h1, h2⟩ := jlR_some h
    exact jS_aload hx hd h1 (hgo _ _ _ _ h2)
  | iload_n k =>
    obtain ⟨hd, ht⟩ := hD.at hi (by simp [jlen])
    obtain ⟨x, h1, h2⟩ := jlI_some h
    exact jS_iload_n hx hd h1 (hgo _ _ _ _ h2)
  | iload k =>
    obtain ⟨hd, ht⟩ := hD.at hi (by simp [jlen])
    obtain ⟨x, h1, h2⟩ := jlI_some h
    exact jS_iload hx hd h1 (hgo _ _ _ _ h2)
  | fload k =>
    obtain ⟨hd, ht⟩ := hD.at hi (by simp [jlen])
    obtain ⟨x, h1, h2⟩ := jlF_some h
    exact jS_fload hx hd h1 (hgo _ _ _ _ h2)
  | dload k =>
    obtain ⟨hd, ht⟩ := hD.at hi (by simp [jlen])
    obtain ⟨x, h1, h2⟩ := jlD_some h
    exact jS_dload hx hd h1 (hgo _ _ _ _ h2)
  | astore_n k =>
    obtain ⟨hd, ht⟩ := hD.at hi (by simp [jlen])
    obtain ⟨x, r, hst, h9⟩ := jpR_some h
    clear h
    skip
    subst hst
    have h := h9
    obtain ⟨h1, h2, h3⟩ := jst1_some h
    exact jS_astore_n hx hd h1 h2 (hgo _ _ _ _ h3)
  | astore k =>
    obtain ⟨hd, ht⟩ := hD.at hi (by simp [jlen])
    obtain ⟨x, r, hst, h9⟩ := jpR_some h
    clear h
    skip
    subst hst
    have h := h9
    obtain ⟨h1, h2, h3⟩ := jst1_some h
    exact jS_astore hx hd h1 h2 (hgo _ _ _ _ h3)
  | istore_n k =>
    obtain ⟨hd, ht⟩ := hD.at hi (by simp [jlen])
    obtain ⟨x, r, hst, h9⟩ := jp0_some h
    clear h
    skip
    subst hst
    have h := h9
    obtain ⟨h1, h2, h3⟩ := jst1_some h
    exact jS_istore_n hx hd h1 h2 (hgo _ _ _ _ h3)
  | istore k =>
    obtain ⟨hd, ht⟩ := hD.at hi (by simp [jlen])
    obtain ⟨x, r, hst, h9⟩ := jp0_some h
    clear h
    skip
    subst hst
    have h := h9
    obtain ⟨h1, h2, h3⟩ := jst1_some h
    exact jS_istore hx hd h1 h2 (hgo _ _ _ _ h3)
  | fstore k =>
    obtain ⟨hd, ht⟩ := hD.at hi (by simp [jlen])
    obtain ⟨x, r, hst, h9⟩ := jpF_some h
    clear h
    skip
    subst hst
    have h := h9
    obtain ⟨h1, h2, h3⟩ := jst1_some h
    exact jS_fstore hx hd h1 h2 (hgo _ _ _ _ h3)
  | dstore k =>
    obtain ⟨hd, ht⟩ := hD.at hi (by simp [jlen])
    obtain ⟨x, r, hst, h9⟩ := jpD_some h
    clear h
    skip
    subst hst
    have h := h9
    obtain ⟨h1, h2, h3⟩ := jst2_some h
    exact jS_dstore hx hd h1 h2 (hgo _ _ _ _ h3)
  | iconst n =>
    obtain ⟨hd, ht⟩ := hD.at hi (by simp [jlen])
    have h1 : (match jb8 n with | true => go (pc + 1) ls (.inl n :: st) w | false => none) = some z := h
    cases hb : jb8 n
    · rw [hb] at h1; cases h1
    · rw [hb] at h1; exact jS_iconst hx hd hb (hgo _ _ _ _ h1)
  | bipush n =>
    obtain ⟨hd, ht⟩ := hD.at hi (by simp [jlen])
    have h1 : (match jb8 n with | true => go (pc + 2) ls (.inl n :: st) w | false => none) = some z := h
    cases hb : jb8 n
    · rw [hb] at h1; cases h1
    · rw [hb] at h1; exact jS_bipush hx hd hb (hgo _ _ _ _ h1)
  | sipush n =>
    obtain ⟨hd, ht⟩ := hD.at hi (by simp [jlen])
    have h1 : (match jb16 n with | true => go (pc + 3) ls (.inl n :: st) w | false => none) = some z := h
    cases hb : jb16 n
    · rw [hb] at h1; cases h1
    · rw [hb] at h1; exact jS_sipush hx hd hb (hgo _ _ _ _ h1)
  | lconst n =>
    obtain ⟨hd, ht⟩ := hD.at hi (by simp [jlen])
    exact jS_lconst hx hd (hgo _ _ _ _ h)
  | fconst n =>
    obtain ⟨hd, ht⟩ := hD.at hi (by simp [jlen])
    have h1 : (match n.val with | 0 => go (pc + 1) ls (.inr (.inr (.float 0)) :: st) w | _ => none) = some z := h
    split at h1
    · rename_i h0
      have hn : n = 0 := Fin.ext h0
      subst hn
      exact jS_fconst0 hx hd (hgo _ _ _ _ h1)
    · cases h1
  | dconst n =>
    obtain ⟨hd, ht⟩ := hD.at hi (by simp [jlen])
    have h1 : (match n.val with | 0 => go (pc + 1) ls (.inr (.inr (.double 0)) :: st) w | _ => none) = some z := h
    split at h1
    · rename_i h0
      have hn : n = 0 := Fin.ext h0
      subst hn
      exact jS_dconst0 hx hd (hgo _ _ _ _ h1)
    · cases h1
  | iinc k n =>
    obtain ⟨hd, ht⟩ := hD.at hi (by simp [jlen])
    obtain ⟨x, h1, h2⟩ := jlI_some h
    obtain ⟨h3, h4, h5⟩ := jst1_some h2
    exact jS_iinc hx hd h1 h4 (hgo _ _ _ _ h5)
  | iadd =>
    obtain ⟨hd, ht⟩ := hD.at hi (by simp [jlen])
    obtain ⟨x, y, r, hst, h9⟩ := jp2_some h
    clear h
    skip
    subst hst
    have h := h9
    exact jS_iadd hx hd (hgo _ _ _ _ h)
  | isub =>
    obtain ⟨hd, ht⟩ := hD.at hi (by simp [jlen])
    obtain ⟨x, y, r, hst, h9⟩ := jp2_some h
    clear h
    skip
    subst hst
    have h := h9
    exact jS_isub hx hd (hgo _ _ _ _ h)
  | imul =>
    obtain ⟨hd, ht⟩ := hD.at hi (by simp [jlen])
    obtain ⟨x, y, r, hst, h9⟩ := jp2_some h
    clear h
    skip
    subst hst
    have h := h9
    exact jS_imul hx hd (hgo _ _ _ _ h)
  | idiv =>
    obtain ⟨hd, ht⟩ := hD.at hi (by simp [jlen])
    obtain ⟨x, y, r, hst, h9⟩ := jp2_some h
    clear h
    skip
    subst hst
    have h := h9
    obtain ⟨h1, h⟩ := jite_some h
    exact jS_idiv hx hd h1 (hgo _ _ _ _ h)
  | irem =>
    obtain ⟨hd, ht⟩ := hD.at hi (by simp [jlen])
    obtain ⟨x, y, r, hst, h9⟩ := jp2_some h
    clear h
    skip
    subst hst
    have h := h9
    obtain ⟨h1, h⟩ := jite_some h
    exact jS_irem hx hd h1 (hgo _ _ _ _ h)
  | iand =>
    obtain ⟨hd, ht⟩ := hD.at hi (by simp [jlen])
    obtain ⟨x, y, r, hst, h9⟩ := jp2_some h
    clear h
    skip
    subst hst
    have h := h9
    obtain ⟨h1, h⟩ := jite_some h
    subst h1
    exact jS_iand hx hd (hgo _ _ _ _ h)
  | i2c =>
    obtain ⟨hd, ht⟩ := hD.at hi (by simp [jlen])
    obtain ⟨x, r, hst, h9⟩ := jp0_some h
    clear h
    skip
    subst hst
    have h := h9
    exact jS_i2c hx hd (hgo _ _ _ _ h)
  | i2l =>
    obtain ⟨hd, ht⟩ := hD.at hi (by simp [jlen])
    obtain ⟨x, r, hst, h9⟩ := jp0_some h
    clear h
    skip
    subst hst
    have h := h9
    exact jS_i2l hx hd (hgo _ _ _ _ h)
  | i2d =>
    obtain ⟨hd, ht⟩ := hD.at hi (by simp [jlen])
    obtain ⟨x, r, hst, h9⟩ := jp0_some h
    clear h
    skip
    subst hst
    have h := h9
    exact jS_i2d hx hd (hgo _ _ _ _ h)
  | i2f =>
    obtain ⟨hd, ht⟩ := hD.at hi (by simp [jlen])
    obtain ⟨x, r, hst, h9⟩ := jp0_some h
    clear h
    skip
    subst hst
    have h := h9
    exact jS_i2f hx hd (hgo _ _ _ _ h)
  | lcmp =>
    obtain ⟨hd, ht⟩ := hD.at hi (by simp [jlen])
    obtain ⟨x, y, r, hst, h9⟩ := jpL_some h
    clear h
    skip
    subst hst
    have h := h9
    exact jS_lcmp hx hd (hgo _ _ _ _ h)
  | dup =>
    obtain ⟨hd, ht⟩ := hD.at hi (by simp [jlen])
    have h1 : (match (generalizing := false) st with | v :: r => (match (generalizing := false) v with | .inl _ => go (pc + 1) ls (v :: v :: r) w | .inr (.inr (.ref _)) => go (pc + 1) ls (v :: v :: r) w | _ => none) | _ => none) = some z := h
    split at h1
    · split at h1
      · exact jS_dupI hx hd (hgo _ _ _ _ h1)
      · exact jS_dupR hx hd (hgo _ _ _ _ h1)
      · cases h1
    · cases h1
  | dup2 =>
    obtain ⟨hd, ht⟩ := hD.at hi (by simp [jlen])
    have h1 : (match (generalizing := false) st with | .inl x :: .inr (.inr (.ref a)) :: r => go (pc + 1) ls (.inl x :: jr a :: .inl x :: jr a :: r) w | _ => none) = some z := h
    split at h1
    · exact jS_dup2 hx hd (hgo _ _ _ _ h1)
    · cases h1
  | pop =>
    obtain ⟨hd, ht⟩ := hD.at hi (by simp [jlen])
    obtain ⟨x, r, hst, h9⟩ := jp0_some h
    clear h
    skip
    subst hst
    have h := h9
    exact jS_pop hx hd (hgo _ _ _ _ h)
  | ifCond cd off =>
    obtain ⟨hd, ht⟩ := hD.at hi (by simp [jlen])
    obtain ⟨x, r, hst, h9⟩ := jp0_some h
    clear h
    skip
    subst hst
    have h := h9
    cases cd with
    | eq =>
      have h1 : (if x = 0 then go (jtgt pc off) ls r w else go (pc + 3) ls r w) = some z := h
      by_cases hc : x = 0
      · rw [if_pos hc] at h1; exact jS_if_eq_t hx hd ht hc (hgo _ _ _ _ h1)
      · rw [if_neg hc] at h1; exact jS_if_eq_f hx hd ht hc (hgo _ _ _ _ h1)
    | ne =>
      have h1 : (if x = 0 then go (pc + 3) ls r w else go (jtgt pc off) ls r w) = some z := h
      by_cases hc : x = 0
      · rw [if_pos hc] at h1; exact jS_if_ne_t hx hd ht hc (hgo _ _ _ _ h1)
      · rw [if_neg hc] at h1; exact jS_if_ne_f hx hd ht hc (hgo _ _ _ _ h1)
    | lt =>
      have h1 : (if x < 0 then go (jtgt pc off) ls r w else go (pc + 3) ls r w) = some z := h
      by_cases hc : x < 0
      · rw [if_pos hc] at h1; exact jS_if_lt_t hx hd ht hc (hgo _ _ _ _ h1)
      · rw [if_neg hc] at h1; exact jS_if_lt_f hx hd ht hc (hgo _ _ _ _ h1)
    | ge =>
      have h1 : (if x < 0 then go (pc + 3) ls r w else go (jtgt pc off) ls r w) = some z := h
      by_cases hc : x < 0
      · rw [if_pos hc] at h1; exact jS_if_ge_t hx hd ht hc (hgo _ _ _ _ h1)
      · rw [if_neg hc] at h1; exact jS_if_ge_f hx hd ht hc (hgo _ _ _ _ h1)
    | gt =>
      have h1 : (if 0 < x then go (jtgt pc off) ls r w else go (pc + 3) ls r w) = some z := h
      by_cases hc : 0 < x
      · rw [if_pos hc] at h1; exact jS_if_gt_t hx hd ht hc (hgo _ _ _ _ h1)
      · rw [if_neg hc] at h1; exact jS_if_gt_f hx hd ht hc (hgo _ _ _ _ h1)
    | le =>
      have h1 : (if 0 < x then go (pc + 3) ls r w else go (jtgt pc off) ls r w) = some z := h
      by_cases hc : 0 < x
      · rw [if_pos hc] at h1; exact jS_if_le_t hx hd ht hc (hgo _ _ _ _ h1)
      · rw [if_neg hc] at h1; exact jS_if_le_f hx hd ht hc (hgo _ _ _ _ h1)
  | if_icmp cd off =>
    obtain ⟨hd, ht⟩ := hD.at hi (by simp [jlen])
    obtain ⟨x, y, r, hst, h9⟩ := jp2_some h
    clear h
    skip
    subst hst
    have h := h9
    cases cd with
    | eq =>
      have h1 : (if x = y then go (jtgt pc off) ls r w else go (pc + 3) ls r w) = some z := h
      by_cases hc : x = y
      · rw [if_pos hc] at h1; exact jS_icmp_eq_t hx hd ht hc (hgo _ _ _ _ h1)
      · rw [if_neg hc] at h1; exact jS_icmp_eq_f hx hd ht hc (hgo _ _ _ _ h1)
    | ne =>
      have h1 : (if x = y then go (pc + 3) ls r w else go (jtgt pc off) ls r w) = some z := h
      by_cases hc : x = y
      · rw [if_pos hc] at h1; exact jS_icmp_ne_t hx hd ht hc (hgo _ _ _ _ h1)
      · rw [if_neg hc] at h1; exact jS_icmp_ne_f hx hd ht hc (hgo _ _ _ _ h1)
    | lt =>
      have h1 : (if x < y then go (jtgt pc off) ls r w else go (pc + 3) ls r w) = some z := h
      by_cases hc : x < y
      · rw [if_pos hc] at h1; exact jS_icmp_lt_t hx hd ht hc (hgo _ _ _ _ h1)
      · rw [if_neg hc] at h1; exact jS_icmp_lt_f hx hd ht hc (hgo _ _ _ _ h1)
    | ge =>
      have h1 : (if x < y then go (pc + 3) ls r w else go (jtgt pc off) ls r w) = some z := h
      by_cases hc : x < y
      · rw [if_pos hc] at h1; exact jS_icmp_ge_t hx hd ht hc (hgo _ _ _ _ h1)
      · rw [if_neg hc] at h1; exact jS_icmp_ge_f hx hd ht hc (hgo _ _ _ _ h1)
    | gt =>
      have h1 : (if y < x then go (jtgt pc off) ls r w else go (pc + 3) ls r w) = some z := h
      by_cases hc : y < x
      · rw [if_pos hc] at h1; exact jS_icmp_gt_t hx hd ht hc (hgo _ _ _ _ h1)
      · rw [if_neg hc] at h1; exact jS_icmp_gt_f hx hd ht hc (hgo _ _ _ _ h1)
    | le =>
      have h1 : (if y < x then go (pc + 3) ls r w else go (jtgt pc off) ls r w) = some z := h
      by_cases hc : y < x
      · rw [if_pos hc] at h1; exact jS_icmp_le_t hx hd ht hc (hgo _ _ _ _ h1)
      · rw [if_neg hc] at h1; exact jS_icmp_le_f hx hd ht hc (hgo _ _ _ _ h1)
  | goto off =>
    obtain ⟨hd, ht⟩ := hD.at hi (by simp [jlen])
    exact jS_goto hx hd ht (hgo _ _ _ _ h)
  | ifnull off =>
    obtain ⟨hd, ht⟩ := hD.at hi (by simp [jlen])
    obtain ⟨x, r, hst, h9⟩ := jpR_some h
    clear h
    skip
    subst hst
    have h := h9
    exact jS_ifnull hx hd (hgo _ _ _ _ h)
  | ifnonnull off =>
    obtain ⟨hd, ht⟩ := hD.at hi (by simp [jlen])
    obtain ⟨x, r, hst, h9⟩ := jpR_some h
    clear h
    skip
    subst hst
    have h := h9
    exact jS_ifnonnull hx hd ht (hgo _ _ _ _ h)
  | tableswitch d lo hh offs =>
    obtain ⟨len, hd, -, ht⟩ := hD _ _ hi
    obtain ⟨x, r, hst, h9⟩ := jp0_some h
    clear h
    skip
    subst hst
    have h := h9
    have h1 : (if x < lo ∨ hh < x then go (jtgt pc d) ls r w else (match offs[(x - lo).toNat]? with | some off => go (jtgt pc off) ls r w | none => none)) = some z := h
    by_cases hc : x < lo ∨ hh < x
    · rw [if_pos hc] at h1; exact jS_tableOut hx hd ht hc (hgo _ _ _ _ h1)
    · rw [if_neg hc] at h1
      split at h1
      · exact jS_tableIn hx hd ht hc (by assumption) (hgo _ _ _ _ h1)
      · cases h1
  | lookupswitch d ps =>
    obtain ⟨len, hd, -, ht⟩ := hD _ _ hi
    obtain ⟨x, r, hst, h9⟩ := jp0_some h
    clear h
    skip
    subst hst
    have h := h9
    exact jS_lookup hx hd ht (hgo _ _ _ _ h)
  | iaload =>
    obtain ⟨hd, ht⟩ := hD.at hi (by simp [jlen])
    obtain ⟨a, i, r, hst, h9⟩ := jpA_some h
    clear h
    skip
    subst hst
    have h := h9
    unfold jlda at h
    split at h
    · rename_i n g hw
      obtain ⟨h1, h2, h⟩ := jix_some h
      exact jS_iald hx hW hd hw h1 h2 (hgo _ _ _ _ h)
    · rename_i n g hw
      obtain ⟨h1, h2, h⟩ := jix_some h
      split at h
      · rename_i x hg
        exact jS_ialdS hx hW hd hw h1 h2 hg (hgo _ _ _ _ h)
      · cases h
    · cases h
  | baload =>
    obtain ⟨hd, ht⟩ := hD.at hi (by simp [jlen])
    obtain ⟨a, i, r, hst, h9⟩ := jpA_some h
    clear h
    skip
    subst hst
    have h := h9
    obtain ⟨n, g, hw, h⟩ := jga_some h
    obtain ⟨h1, h2, h⟩ := jix_some h
    exact jS_zald hx hW hd hw h1 h2 (hgo _ _ _ _ h)
  | caload =>
    obtain ⟨hd, ht⟩ := hD.at hi (by simp [jlen])
    obtain ⟨a, i, r, hst, h9⟩ := jpA_some h
    clear h
    skip
    subst hst
    have h := h9
    obtain ⟨n, g, hw, h⟩ := jga_some h
    obtain ⟨h1, h2, h⟩ := jix_some h
    exact jS_cald hx hW hd hw h1 h2 (hgo _ _ _ _ h)
  | laload =>
    obtain ⟨hd, ht⟩ := hD.at hi (by simp [jlen])
    obtain ⟨a, i, r, hst, h9⟩ := jpA_some h
    clear h
    skip
    subst hst
    have h := h9
    obtain ⟨n, g, hw, h⟩ := jga_some h
    obtain ⟨h1, h2, h⟩ := jix_some h
    exact jS_lald hx hW hd hw h1 h2 (hgo _ _ _ _ h)
  | daload =>
    obtain ⟨hd, ht⟩ := hD.at hi (by simp [jlen])
    obtain ⟨a, i, r, hst, h9⟩ := jpA_some h
    clear h
    skip
    subst hst
    have h := h9
    obtain ⟨ty, n, g, hw, h⟩ := jgq_some h
    obtain ⟨hty, h⟩ := jite_some h
    subst hty
    obtain ⟨h1, h2, h⟩ := jix_some h
    unfold jvD at h
    split at h
    · exact jS_dald hx hW hd hw h1 h2 (by assumption) (hgo _ _ _ _ h)
    · cases h
  | aaload =>
    obtain ⟨hd, ht⟩ := hD.at hi (by simp [jlen])
    obtain ⟨a, i, r, hst, h9⟩ := jpA_some h
    clear h
    skip
    subst hst
    have h := h9
    obtain ⟨ty, n, g, hw, h⟩ := jgq_some h
    obtain ⟨hty, h⟩ := jite_some h
    subst hty
    obtain ⟨h1, h2, h⟩ := jix_some h
    unfold jvR at h
    split at h
    · exact jS_aald hx hW hd hw h1 h2 (by assumption) (hgo _ _ _ _ h)
    · cases h
  | iastore =>
    obtain ⟨hd, ht⟩ := hD.at hi (by simp [jlen])
    obtain ⟨a, i, v, r, hst, h9⟩ := jpS_some h
    clear h
    skip
    subst hst
    have h := h9
    split at h
    · obtain ⟨n, g, hw, h⟩ := jga_some h
      obtain ⟨h1, h2, h⟩ := jix_some h
      obtain ⟨h3, h⟩ := jite_some h
      exact jS_iast hx hW hd hw h1 h2 h3 (hgo _ _ _ _ h)
    · cases h
  | bastore =>
    obtain ⟨hd, ht⟩ := hD.at hi (by simp [jlen])
    obtain ⟨a, i, v, r, hst, h9⟩ := jpS_some h
    clear h
    skip
    subst hst
    have h := h9
    split at h
    · obtain ⟨n, g, hw, h⟩ := jga_some h
      obtain ⟨h1, h2, h⟩ := jix_some h
      obtain ⟨h3, h⟩ := jite_some h
      exact jS_zast hx hW hd hw h1 h2 h3 (hgo _ _ _ _ h)
    · cases h
  | castore =>
    obtain ⟨hd, ht⟩ := hD.at hi (by simp [jlen])
    obtain ⟨a, i, v, r, hst, h9⟩ := jpS_some h
    clear h
    skip
    subst hst
    have h := h9
    split at h
    · obtain ⟨n, g, hw, h⟩ := jga_some h
      obtain ⟨h1, h2, h⟩ := jix_some h
      obtain ⟨h3, h⟩ := jite_some h
      exact jS_cast hx hW hd hw h1 h2 h3 (hgo _ _ _ _ h)
    · cases h
  | lastore =>
    obtain ⟨hd, ht⟩ := hD.at hi (by simp [jlen])
    obtain ⟨a, i, v, r, hst, h9⟩ := jpS_some h
    clear h
    skip
    subst hst
    have h := h9
    split at h
    · obtain ⟨n, g, hw, h⟩ := jga_some h
      obtain ⟨h1, h2, h⟩ := jix_some h
      exact jS_last hx hW hd hw h1 h2 (hgo _ _ _ _ h)
    · cases h
  | dastore =>
    obtain ⟨hd, ht⟩ := hD.at hi (by simp [jlen])
    obtain ⟨a, i, v, r, hst, h9⟩ := jpS_some h
    clear h
    skip
    subst hst
    have h := h9
    split at h
    · obtain ⟨ty, n, g, hw, h⟩ := jgq_some h
      obtain ⟨hty, h⟩ := jite_some h
      subst hty
      obtain ⟨h1, h2, h⟩ := jix_some h
      exact jS_dast hx hW hd hw h1 h2 (hgo _ _ _ _ h)
    · cases h
  | aastore =>
    obtain ⟨hd, ht⟩ := hD.at hi (by simp [jlen])
    obtain ⟨a, i, v, r, hst, h9⟩ := jpS_some h
    clear h
    skip
    subst hst
    have h := h9
    split at h
    · obtain ⟨ty, n, g, hw, h⟩ := jgq_some h
      obtain ⟨hty, h⟩ := jite_some h
      subst hty
      obtain ⟨h1, h2, h⟩ := jix_some h
      obtain ⟨fs, h3, h⟩ := jgo_some h
      obtain ⟨T, N, hc⟩ := hC
      exact jS_aast hx hW hc hd hw h1 h2 h3 (hgo _ _ _ _ h)
    · cases h
  | arraylength =>
    obtain ⟨hd, ht⟩ := hD.at hi (by simp [jlen])
    obtain ⟨a, r, hst, h9⟩ := jpR_some h
    clear h
    skip
    subst hst
    have h := h9
    unfold jleng at h
    split at h
    · exact jS_alenQ hx hW hd (by assumption) (hgo _ _ _ _ h)
    · cases h
  | getfield idx =>
    obtain ⟨hd, ht⟩ := hD.at hi (by simp [jlen])
    have h0 : (match (generalizing := false) jfres t mu idx with | some (ci, (k, _)) => jpR st fun a r => jgo w a ci fun fs => jfld fs k fun v => go (pc + 3) ls (v :: r) w | none => none) = some z := h
    split at h0
    · rename_i ci k ty hr
      obtain ⟨a, r, hst, h9⟩ := jpR_some h0
      clear h
      clear h0
      subst hst
      have h0 := h9
      obtain ⟨fs, hw, h0⟩ := jgo_some h0
      obtain ⟨v, hv, h0⟩ := jfld_some _ _ h0
      exact jS_get hx hW hown (hF.1 _ _ _ _ _ hi hr) hd hw hv (hgo _ _ _ _ h0)
    · cases h0
  | putfield idx =>
    obtain ⟨hd, ht⟩ := hD.at hi (by simp [jlen])
    have h0 : (match (generalizing := false) jfres t mu idx with | some (ci, (k, ty)) => (match (generalizing := false) st with | v :: .inr (.inr (.ref a)) :: r => jgo w a ci fun fs => if k < fs.length ∧ jsv ty v = true then go (pc + 3) ls r (jset w a (.inr (.inl (ci, fs.set k v)))) else none | _ => none) | none => none) = some z := h
    split at h0
    · rename_i ci k ty hr
      split at h0
      · obtain ⟨fs, hw, h0⟩ := jgo_some h0
        obtain ⟨⟨h1, h2⟩, h0⟩ := jite_some h0
        obtain ⟨f1, f2⟩ := hF.2 _ _ _ _ _ hi hr
        exact jS_putf hx hW hown f1 f2 hd hw h1 h2 (hgo _ _ _ _ h0)
      · cases h0
    · cases h0
  | ldc idx =>
    have h0 : (match jcres t mu idx with | some k => jlI ls k.toNat fun x => jsh st (go (pc + 6) ls (.inl (jidx x) :: st) w) | none => none) = some z := h
    split at h0
    · rename_i k hk
      obtain ⟨x, h1, h0⟩ := jlI_some h0
      obtain ⟨hc, h0⟩ := jsh_some h0
      exact S5 pc idx k x ls st w hi hk h1 hc (hgo _ _ _ _ h0)
    · cases h0
  | new idx =>
    have h0 : (match jkres t mu idx with | some (.inr E) => jsh st (some (.inr E, jthr w)) | some (.inl (ci, fs)) => jnew w (.inr (.inl (ci, fs))) fs.length fun a w' => go (pc + 3) ls (jr a :: st) w' | none => none) = some z := h
    split at h0
    · rename_i E hk
      obtain ⟨hc, h0⟩ := jsh_some h0
      cases h0
      exact S2 pc idx E ls st w hi hk hc rfl
    · rename_i ci fs hk
      obtain ⟨a, h1, h0⟩ := jnew_some h0
      exact S1 pc idx ci fs a ls st w hi hk h1 (hgo _ _ _ _ h0)
    · cases h0
  | newarray aty =>
    obtain ⟨x, r, hst, h9⟩ := jp0_some h
    clear h
    skip
    subst hst
    have h := h9
    obtain ⟨h1, h⟩ := jite_some h
    obtain ⟨a, h2, h⟩ := jnew_some h
    exact S3 pc aty x a ls r w hi h1.1 h1.2 h2 (hgo _ _ _ _ h)
  | anewarray idx =>
    obtain ⟨x, r, hst, h9⟩ := jp0_some h
    clear h
    skip
    subst hst
    have h := h9
    obtain ⟨h1, h⟩ := jite_some h
    subst h1
    obtain ⟨a, h2, h⟩ := jnew_some h
    exact S4 pc idx a ls r w hi h2 (hgo _ _ _ _ h)
  | invokevirtual idx =>
    have h0 : (match jmres t mu idx with | some (0, _) => jinv t mu cx go pc idx ls st w true | _ => none) = some z := h
    split at h0
    · rename_i q hq
      exact jinv_sndB S hgo hgn (Or.inl ⟨rfl, Or.inl ⟨hi, _, hq⟩⟩) h0
    · cases h0
  | invokestatic idx =>
    exact jinv_sndB S hgo hgn (Or.inr ⟨rfl, hi⟩) h
  | invokespecial idx =>
    have h0 : (match jmres t mu idx with | some (5, _) => jpR st fun _ r => jsh r (go (pc + 3) ls r w) | some (2, _) => jinv t mu cx go pc idx ls st w true | _ => none) = some z := h
    split at h0
    · rename_i q hq
      obtain ⟨a, r, hst, h9⟩ := jpR_some h0
      clear h
      clear h0
      subst hst
      have h0 := h9
      obtain ⟨hc, h0⟩ := jsh_some h0
      exact S6 pc idx a ls r w hi ⟨_, hq⟩ hc (hgo _ _ _ _ h0)
    · rename_i q hq
      exact jinv_sndB S hgo hgn (Or.inl ⟨rfl, Or.inr ⟨hi, _, hq⟩⟩) h0
    · cases h0
  | ireturn =>
    have h0 : (match (generalizing := false) st, jtres t mu with | [.inl x], some ty => if jfits ty x = true then jret (some (.inl x)) w else none | _, _ => none) = some z := h
    split at h0
    · rename_i x ty hr
      obtain ⟨h1, h0⟩ := jite_some h0
      cases h0
      exact S10 pc x ty ls w hi hr h1 rfl
    · cases h0
  | areturn =>
    have h0 : (match (generalizing := false) st, jtres t mu with | [.inr (.inr (.ref a))], some (.object _) => jret (some (jr a)) w | [.inr (.inr (.ref a))], some (.array _) => jret (some (jr a)) w | _, _ => none) = some z := h
    split at h0
    · rename_i a n hr
      cases h0
      exact S11 pc a _ ls w hi hr (Or.inl ⟨_, rfl⟩) rfl
    · rename_i a n hr
      cases h0
      exact S11 pc a _ ls w hi hr (Or.inr ⟨_, rfl⟩) rfl
    · cases h0
  | freturn =>
    have h0 : (match (generalizing := false) st, jtres t mu with | [.inr (.inr (.float a))], some .float => jret (some (.inr (.inr (.float a)))) w | _, _ => none) = some z := h
    split at h0
    · rename_i a hr
      cases h0
      exact S12 pc a ls w hi hr rfl
    · cases h0
  | dreturn =>
    have h0 : (match (generalizing := false) st, jtres t mu with | [.inr (.inr (.double a))], some .double => jret (some (.inr (.inr (.double a)))) w | _, _ => none) = some z := h
    split at h0
    · rename_i a hr
      cases h0
      exact S13 pc a ls w hi hr rfl
    · cases h0
  | return_ =>
    have h0 : (match (generalizing := false) st, jtres t mu with | [], none => jret none w | _, _ => none) = some z := h
    split at h0
    · rename_i hr
      cases h0
      exact S14 pc ls w hi hr rfl
    · cases h0
  | ddiv =>
    obtain ⟨hd, ht⟩ := hD.at hi (by simp [jlen])
    have h0 : (match (generalizing := false) st with | .inr (.inr (.double y)) :: .inr (.inr (.double x)) :: r => if FP.ddiv x y &&& 0x7fffffffffffffff ≤ 0x7ff0000000000000 then go (pc + 1) ls (.inr (.inr (.double (FP.ddiv x y))) :: r) w else none | _ => none) = some z := h
    split at h0
    · obtain ⟨h1, h0⟩ := jite_some h0
      exact jS_ddiv hx hd h1 (hgo _ _ _ _ h0)
    · cases h0
  | fdiv =>
    obtain ⟨hd, ht⟩ := hD.at hi (by simp [jlen])
    have h0 : (match (generalizing := false) st with | .inr (.inr (.float y)) :: .inr (.inr (.float x)) :: r => if FP.fdiv x y &&& 0x7fffffff ≤ 0x7f800000 then go (pc + 1) ls (.inr (.inr (.float (FP.fdiv x y))) :: r) w else none | _ => none) = some z := h
    split at h0
    · obtain ⟨h1, h0⟩ := jite_some h0
      exact jS_fdiv hx hd h1 (hgo _ _ _ _ h0)
    · cases h0
  | f2d =>
    obtain ⟨hd, ht⟩ := hD.at hi (by simp [jlen])
    obtain ⟨x, r, hst, h9⟩ := jpF_some h
    clear h
    skip
    subst hst
    have h := h9
    obtain ⟨h1, h⟩ := jite_some h
    exact jS_f2d hx hd h1 (hgo _ _ _ _ h)
  | dcmp op =>
    obtain ⟨hd, ht⟩ := hD.at hi (by simp [jlen])
    have h0 : (match (generalizing := false) st with | .inr (.inr (.double y)) :: .inr (.inr (.double x)) :: r => go (pc + 1) ls (.inl (Op.cmpValue (FP.dcmp x y) op).toInt :: r) w | _ => none) = some z := h
    split at h0
    · exact jS_dcmp hx hd (hgo _ _ _ _ h0)
    · cases h0
  | fcmp op =>
    obtain ⟨hd, ht⟩ := hD.at hi (by simp [jlen])
    have h0 : (match (generalizing := false) st with | .inr (.inr (.float y)) :: .inr (.inr (.float x)) :: r => go (pc + 1) ls (.inl (Op.cmpValue (FP.fcmp x y) op).toInt :: r) w | _ => none) = some z := h
    split at h0
    · exact jS_fcmp hx hd (hgo _ _ _ _ h0)
    · cases h0
  | _ => exact nomatch h
end JStSndB
section JLpB
variable {cl : List vw_C} {G : jGc} {p : Program} {l : Launch} {e : Env} {R : Room} {s : State} {m : MethodId} {args : Array Value} {below : List Frame} {meth : Method} {c : Code} {Q : State → Prop} {c0 s0 : Nat} {z : jO × jH}
variable {t : jT} {mu : Nat} {own : String} {cx : Nat → List jV → jH → jR}
theorem jblk_code {bk : Nat → jL → List jV → jH → jR} {n pc : Nat} {ls : jL} {st : List jV} {w : jH} (h : jblk t mu cx bk n pc ls st w = some z) : (jcode t mu pc).isSome = true := by
  cases n with
  | zero => cases h
  | succ n =>
    unfold jblk at h
    split at h
    · rename_i i hi
      rw [hi]
      rfl
    · cases h
theorem jlp_code {n pc : Nat} {ls : jL} {st : List jV} {w : jH} (h : jlp t mu cx n pc ls st w = some z) : (jcode t mu pc).isSome = true := by
  cases n with
  | zero => cases h
  | succ n => exact jblk_code h
theorem jblk_sndB (hx : p.tables.exec = Jvm.exec) (hW : jWo cl G s) (hown : s.vm.findClass own = some m.cls) (hD : jDec t mu c) (hF : jFldF cl t mu own args s meth) (hC : ∃ (T : u_T) (N : Nat), cl[7]? = some ("HabitRegistry$State", T, N)) (S : jStpG cl G p l e R s m args below meth c Q c0 s0 z t mu cx)
    {bk : Nat → jL → List jV → jH → jR} (hbk : ∀ pc' ls' st' w', bk pc' ls' st' w' = some z → jPt cl G p l e R s m args below meth c Q c0 s0 z pc' ls' st' w') (hbn : ∀ pc' ls' st' w', bk pc' ls' st' w' = some z → (jcode t mu pc').isSome = true) : ∀ (n pc : Nat) (ls : jL) (st : List jV) (w : jH), jblk t mu cx bk n pc ls st w = some z → jPt cl G p l e R s m args below meth c Q c0 s0 z pc ls st w
  | 0, _, _, _, _, h => nomatch h
  | n + 1, pc, ls, st, w, h => by
    unfold jblk at h
    split at h
    · rename_i i hi
      refine jst_sndB hx hW hown hD hF hC S (fun pc' ls' st' w' h9 => ?_) (fun pc' ls' st' w' h9 => ?_) hi h
      · have h9 : (match Nat.blt pc pc' && !(jcut t mu pc') with | true => jblk t mu cx bk n pc' ls' st' w' | false => bk pc' ls' st' w') = some z := h9
        split at h9
        · exact jblk_sndB hx hW hown hD hF hC S hbk hbn n _ _ _ _ h9
        · exact hbk _ _ _ _ h9
      · have h9 : (match Nat.blt pc pc' && !(jcut t mu pc') with | true => jblk t mu cx bk n pc' ls' st' w' | false => bk pc' ls' st' w') = some z := h9
        split at h9
        · exact jblk_code h9
        · exact hbn _ _ _ _ h9
    · cases h
theorem jlp_sndB (hx : p.tables.exec = Jvm.exec) (hW : jWo cl G s) (hown : s.vm.findClass own = some m.cls) (hD : jDec t mu c) (hF : jFldF cl t mu own args s meth) (hC : ∃ (T : u_T) (N : Nat), cl[7]? = some ("HabitRegistry$State", T, N)) (S : jStpG cl G p l e R s m args below meth c Q c0 s0 z t mu cx) : ∀ (n pc : Nat) (ls : jL) (st : List jV) (w : jH), jlp t mu cx n pc ls st w = some z → jPt cl G p l e R s m args below meth c Q c0 s0 z pc ls st w
  | 0, _, _, _, _, h => nomatch h
  | n + 1, pc, ls, st, w, h => jblk_sndB hx hW hown hD hF hC S (fun pc' ls' st' w' h9 => jlp_sndB hx hW hown hD hF hC S n pc' ls' st' w' h9) (fun _ _ _ _ h9 => jlp_code h9) 4000 pc ls st w h
end JLpB

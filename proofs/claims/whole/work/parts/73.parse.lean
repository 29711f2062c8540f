/-! ===== a text read through ===== -/
/-- what reading a whole text leaves -/
def txL (k : Nat) (m m' : jMem) : Prop := (∀ q, q ≠ 139 → (q < 141 ∨ 144 < q) → m' q = m q) ∧ (∀ j, j ≠ 2 → j ≠ 7 → m' 139 j = m 139 j) ∧ ∀ q j, j < k → 141 ≤ q → q ≤ 144 → m' q j = m q j
def txN (k : Nat) (m m' : jMem) : Prop := (∀ q, q ≠ 147 → q ≠ 154 → m' q = m q) ∧ (∀ j, j ≠ 17 → j ≠ 19 → m' 147 j = m 147 j) ∧ ∀ j, j < 4 * k → m' 154 j = m 154 j
def txQ (t : Nat → Int) (c o k : Nat) (b : Bool) (e : Nat) (os : List Nat) : Prop :=
  (∀ (N : Nat) (m : jMem), 60 ≤ N + k → txC t c o m → m 139 7 = (k : Int) → ∃ m', f_Script_parseL (N + 1) m (k : Int) = some (if b = true then 1 else 0, m') ∧ m' 139 2 = (e : Int) ∧ txL k m m' ∧ (b = true → m' 139 7 = ((k + os.length : Nat) : Int) ∧ ∀ i x, os[i]? = some x → cmC t c m' (k + i) x)) ∧
  (∀ (N : Nat) (m : jMem), 60 ≤ N + k → txM t c o m → m 147 19 = (k : Int) → ∃ m', f_Mod_isTextL (N + 1) m = some (if b = true then 1 else 0, m') ∧ m' 147 17 = (e : Int) ∧ txN k m m' ∧ (b = true → m' 147 19 = ((k + os.length : Nat) : Int) ∧ ∀ i x, os[i]? = some x → cmM t c m' (k + i) x))
section Txt
variable {t : Nat → Int} {c o k p : Nat} {m m' m1 m2 : jMem}
theorem txC.cnt (h : txC t c o m) (x : Int) : txC t c o (mset m 139 7 x) := h.mv (mset_ne (by omega)) (ms_g (by omega)) ((ms_g (by omega)).trans h.2.1)
theorem txM.cnt (h : txM t c o m) (x : Int) : txM t c o (mset m 147 19 x) := h.mv (mset_ne (by omega)) (ms_g (by omega)) ((ms_g (by omega)).trans h.2.1)
theorem cmC.mv {i x : Nat} (h : cmC t c m i x) (e : ∀ q, 141 ≤ q → q ≤ 144 → m' q i = m q i) : cmC t c m' i x := by
  unfold cmC
  rw [e 141 (by omega) (by omega), e 142 (by omega) (by omega), e 143 (by omega) (by omega), e 144 (by omega) (by omega)]
  exact h
theorem cmM.mv {i x : Nat} (h : cmM t c m i x) (e : ∀ j, 4 * i ≤ j → j ≤ 4 * i + 3 → m' 154 j = m 154 j) : cmM t c m' i x := by
  unfold cmM
  rw [e (4 * i) (by omega) (by omega), e (4 * i + 1) (by omega) (by omega), e (4 * i + 2) (by omega) (by omega), e (4 * i + 3) (by omega) (by omega)]
  exact h
theorem prl (N : Nat) (m : jMem) (a1 : Int) : f_Script_parseL (N + 1) m a1 = if a1 < 60 then (f_Script_readCommand m a1).bind fun qx1 => if qx1.1 = 0 then some (0, qx1.2) else if ((mset qx1.2 139 7 (jw ((qx1.2 139 7) + 1))) 139 2) < ((mset qx1.2 139 7 (jw ((qx1.2 139 7) + 1))) 139 1) then (f_Script_skip (mset qx1.2 139 7 (jw ((qx1.2 139 7) + 1))) 59).bind fun qx2 => if qx2.1 = 0 then some (0, qx2.2) else f_Script_parseL N qx2.2 (jw (a1 + 1)) else some (1, mset qx1.2 139 7 (jw ((qx1.2 139 7) + 1))) else some (0, m) := rfl
theorem itl (N : Nat) (m : jMem) : f_Mod_isTextL (N + 1) m = (f_Mod_commandHere m).bind fun qx1 => if qx1.1 = 0 then some (0, qx1.2) else (f_Mod_skips (mset qx1.2 147 19 (jw ((qx1.2 147 19) + 1))) 59).bind fun qx2 => if qx2.1 = 0 then if (qx2.2 147 17) = (qx2.2 147 13) then some (1, qx2.2) else some (0, qx2.2) else f_Mod_isTextL N qx2.2 := rfl
/-- a command, and its place in the rows -/
theorem pr_1 (X : txV t c) (hk : k ≤ 30) {o' : Nat} (h : txOK t c o k true o') {N : Nat} (hm : txC t c o m) (h7 : m 139 7 = (k : Int)) : ∃ m1, txC t c o' m1 ∧ m1 139 7 = ((k + 1 : Nat) : Int) ∧ txL k m m1 ∧ cmC t c m1 k o ∧ (o' < c → t o' = 59 → f_Script_parseL (N + 1) m (k : Int) = f_Script_parseL N (mset m1 139 2 ((o' + 1 : Nat) : Int)) ((k + 1 : Nat) : Int)) ∧ (o' < c → t o' ≠ 59 → f_Script_parseL (N + 1) m (k : Int) = some (0, m1)) ∧ (o' = c → f_Script_parseL (N + 1) m (k : Int) = some (1, m1)) := by
  obtain ⟨m', e1, w1, f1, v1⟩ := h.1 m hm
  rw [bif_t] at e1
  have a7 : m' 139 7 = (k : Int) := (f1.2.1 7 (by omega)).trans h7
  have w2 := w1.cnt ((k + 1 : Nat) : Int)
  have hd : f_Script_parseL (N + 1) m (k : Int) = if (o' : Int) < (c : Int) then (f_Script_skip (mset m' 139 7 ((k + 1 : Nat) : Int)) 59).bind fun qx2 => if qx2.1 = 0 then some (0, qx2.2) else f_Script_parseL N qx2.2 ((k + 1 : Nat) : Int) else some (1, mset m' 139 7 ((k + 1 : Nat) : Int)) := by
    rw [prl, if_pos (by omega), e1, Option.bind_some]
    show (if (1 : Int) = 0 then some (0, m') else if (mset m' 139 7 (jw (m' 139 7 + 1))) 139 2 < (mset m' 139 7 (jw (m' 139 7 + 1))) 139 1 then (f_Script_skip (mset m' 139 7 (jw (m' 139 7 + 1))) 59).bind fun qx2 => if qx2.1 = 0 then some (0, qx2.2) else f_Script_parseL N qx2.2 (jw ((k : Int) + 1)) else some (1, mset m' 139 7 (jw (m' 139 7 + 1)))) = _
    rw [if_neg (by omega), a7, jw_s (by omega), w2.1, w2.2.1]
  refine ⟨mset m' 139 7 ((k + 1 : Nat) : Int), w2, ms_f, ⟨fun q a b => (mset_ne a).trans (f1.1 q a b), fun j a b => (ms_g b).trans (f1.2.1 j a), fun q j a b d => (ms_o (by omega)).trans (f1.2.2 q j (by omega) b d)⟩, (v1 rfl).mv fun q a b => ms_o (by omega), fun ho hs => ?_, fun ho hs => ?_, fun ho => ?_⟩
  · rw [hd, if_pos (by omega)]
    exact alt1 (w2.sk_y X ho hs)
  · rw [hd, if_pos (by omega)]
    exact alt0 (w2.sk_n X (by omega) (fun q => hs q.2))
  · rw [hd, if_neg (by omega)]
theorem it_1 (X : txV t c) (hk : k ≤ 30) {o' : Nat} (h : txOK t c o k true o') {N : Nat} (hm : txM t c o m) (h7 : m 147 19 = (k : Int)) : ∃ m1, txM t c o' m1 ∧ m1 147 19 = ((k + 1 : Nat) : Int) ∧ txN k m m1 ∧ cmM t c m1 k o ∧ (o' < c → t o' = 59 → f_Mod_isTextL (N + 1) m = f_Mod_isTextL N (mset m1 147 17 ((o' + 1 : Nat) : Int))) ∧ (o' < c → t o' ≠ 59 → f_Mod_isTextL (N + 1) m = some (0, m1)) ∧ (o' = c → f_Mod_isTextL (N + 1) m = some (1, m1)) := by
  obtain ⟨m', e1, w1, f1, v1⟩ := h.2 m hm h7
  rw [bif_t] at e1
  have a7 : m' 147 19 = (k : Int) := (f1.2.1 19 (by omega)).trans h7
  have w2 := w1.cnt ((k + 1 : Nat) : Int)
  have hd : f_Mod_isTextL (N + 1) m = (f_Mod_skips (mset m' 147 19 ((k + 1 : Nat) : Int)) 59).bind fun qx2 => if qx2.1 = 0 then if (qx2.2 147 17) = (qx2.2 147 13) then some (1, qx2.2) else some (0, qx2.2) else f_Mod_isTextL N qx2.2 := by
    rw [itl, e1, Option.bind_some]
    dsimp only
    rw [if_neg (by omega), a7, jw_s (by omega)]
  refine ⟨mset m' 147 19 ((k + 1 : Nat) : Int), w2, ms_f, ⟨fun q a b => (mset_ne a).trans (f1.1 q a b), fun j a b => (ms_g b).trans (f1.2.1 j a), fun j a => (ms_o (by omega)).trans (f1.2.2 j (by omega))⟩, (v1 rfl).mv fun j a b => ms_o (by omega), fun ho hs => ?_, fun ho hs => ?_, fun ho => ?_⟩
  · rw [hd]
    exact alt1 (w2.sk_y X ho hs)
  · rw [hd]
    refine (alt0 (w2.sk_n X (by omega) (fun q => hs q.2))).trans ?_
    show (if (mset m' 147 19 ((k + 1 : Nat) : Int)) 147 17 = (mset m' 147 19 ((k + 1 : Nat) : Int)) 147 13 then some (1, mset m' 147 19 ((k + 1 : Nat) : Int)) else some (0, mset m' 147 19 ((k + 1 : Nat) : Int))) = _
    rw [w2.1, w2.2.1, if_neg (by omega)]
  · rw [hd]
    refine (alt0 (w2.sk_n X (by omega) (fun q => by omega))).trans ?_
    show (if (mset m' 147 19 ((k + 1 : Nat) : Int)) 147 17 = (mset m' 147 19 ((k + 1 : Nat) : Int)) 147 13 then some (1, mset m' 147 19 ((k + 1 : Nat) : Int)) else some (0, mset m' 147 19 ((k + 1 : Nat) : Int))) = _
    rw [w2.1, w2.2.1, if_pos (by omega)]
theorem txL.trans (h : txL k m m1) (h' : txL (k + 1) m1 m2) : txL k m m2 := ⟨fun q a b => (h'.1 q a b).trans (h.1 q a b), fun j a b => (h'.2.1 j a b).trans (h.2.1 j a b), fun q j a b d => (h'.2.2 q j (by omega) b d).trans (h.2.2 q j a b d)⟩
theorem txN.trans (h : txN k m m1) (h' : txN (k + 1) m1 m2) : txN k m m2 := ⟨fun q a b => (h'.1 q a b).trans (h.1 q a b), fun j a b => (h'.2.1 j a b).trans (h.2.1 j a b), fun j a => (h'.2.2 j (by omega)).trans (h.2.2 j a)⟩
theorem txL.nx (h : txL k m m1) (x : Int) : txL k m (mset m1 139 2 x) := ⟨fun q a b => (mset_ne a).trans (h.1 q a b), fun j a b => (ms_g a).trans (h.2.1 j a b), fun q j a b d => (ms_o (by omega)).trans (h.2.2 q j a b d)⟩
theorem txN.nx (h : txN k m m1) (x : Int) : txN k m (mset m1 147 17 x) := ⟨fun q a b => (mset_ne a).trans (h.1 q a b), fun j a b => (ms_g a).trans (h.2.1 j a b), fun j a => (ms_o (by omega)).trans (h.2.2 j a)⟩
/-- the whole text, from a command on -/
theorem txAll (X : txV t c) : ∀ (n o k : Nat), n + k = 60 → 2 * k ≤ o → o ≤ c → ∃ b e os, txQ t c o k b e os ∧ (b = true → ∀ x, x ∈ os → cmV t c x) ∧ k + os.length ≤ 31
  | 0, o, k, h1, h2, h3 => by
    have := X.1
    omega
  | n + 1, o, k, h1, h2, h3 => by
    have hc := X.1
    have hk : k ≤ 30 := by omega
    obtain ⟨b0, o', hOK, hb⟩ := tc_all X hk h3
    cases b0 with
    | false =>
      refine ⟨false, o', [], ⟨fun N m hN hm h7 => ?_, fun N m hN hm h7 => ?_⟩, (fun q => by cases q), by rw [List.length_nil]; omega⟩
      · obtain ⟨m', e1, w1, f1, -⟩ := hOK.1 m hm
        rw [bif_f] at e1
        refine ⟨m', ?_, w1.2.1, ⟨f1.1, fun j a _ => f1.2.1 j a, fun q j a b d => f1.2.2 q j (by omega) b d⟩, fun q => by cases q⟩
        rw [bif_f, prl, if_pos (by omega), e1]
        rfl
      · obtain ⟨m', e1, w1, f1, -⟩ := hOK.2 m hm h7
        rw [bif_f] at e1
        refine ⟨m', ?_, w1.2.1, ⟨f1.1, fun j a _ => f1.2.1 j a, fun j a => f1.2.2 j (by omega)⟩, fun q => by cases q⟩
        rw [bif_f, itl, e1]
        rfl
    | true =>
      obtain ⟨hlt, hle, hV⟩ := hb rfl
      by_cases ho : o' < c
      · by_cases hs : t o' = 59
        · obtain ⟨b, e, os, hQ, hVs, hl⟩ := txAll X n (o' + 1) (k + 1) (by omega) (by omega) (by omega)
          refine ⟨b, e, o :: os, ⟨fun N m hN hm h7 => ?_, fun N m hN hm h7 => ?_⟩, fun q x hx => ?_, by rw [List.length_cons]; omega⟩
          · obtain ⟨m1, w1, v7, f1, hcm, hgo, -⟩ := pr_1 X hk hOK (N := N) hm h7
            obtain ⟨N', rfl⟩ : ∃ N', N = N' + 1 := ⟨N - 1, by omega⟩
            obtain ⟨m2, e2, w2, f2, g2⟩ := hQ.1 N' (mset m1 139 2 ((o' + 1 : Nat) : Int)) (by omega) w1.nx ((ms_g (by omega)).trans v7)
            refine ⟨m2, (hgo ho hs).trans e2, w2, (f1.nx _).trans f2, fun q => ⟨?_, fun i x hi => ?_⟩⟩
            · rw [(g2 q).1, List.length_cons, show k + 1 + os.length = k + (os.length + 1) by omega]
            · cases i with
              | zero =>
                rw [List.getElem?_cons_zero] at hi
                have hx := Option.some.inj hi
                rw [← hx, show k + 0 = k from rfl]
                exact hcm.mv fun q a b => (f2.2.2 q k (by omega) a b).trans (ms_o (by omega))
              | succ i =>
                rw [List.getElem?_cons_succ] at hi
                have h9 := (g2 q).2 i x hi
                rw [show k + 1 + i = k + (i + 1) by omega] at h9
                exact h9
          · obtain ⟨m1, w1, v7, f1, hcm, hgo, -⟩ := it_1 X hk hOK (N := N) hm h7
            obtain ⟨N', rfl⟩ : ∃ N', N = N' + 1 := ⟨N - 1, by omega⟩
            obtain ⟨m2, e2, w2, f2, g2⟩ := hQ.2 N' (mset m1 147 17 ((o' + 1 : Nat) : Int)) (by omega) w1.nx ((ms_g (by omega)).trans v7)
            refine ⟨m2, (hgo ho hs).trans e2, w2, (f1.nx _).trans f2, fun q => ⟨?_, fun i x hi => ?_⟩⟩
            · rw [(g2 q).1, List.length_cons, show k + 1 + os.length = k + (os.length + 1) by omega]
            · cases i with
              | zero =>
                rw [List.getElem?_cons_zero] at hi
                have hx := Option.some.inj hi
                rw [← hx, show k + 0 = k from rfl]
                exact hcm.mv fun j a b => (f2.2.2 j (by omega)).trans (ms_o (by omega))
              | succ i =>
                rw [List.getElem?_cons_succ] at hi
                have h9 := (g2 q).2 i x hi
                rw [show k + 1 + i = k + (i + 1) by omega] at h9
                exact h9
          · rcases List.mem_cons.mp hx with h9 | h9
            · rw [h9]
              exact hV
            · exact hVs q x h9
        · refine ⟨false, o', [], ⟨fun N m hN hm h7 => ?_, fun N m hN hm h7 => ?_⟩, (fun q => by cases q), by rw [List.length_nil]; omega⟩
          · obtain ⟨m1, w1, v7, f1, hcm, -, hgo, -⟩ := pr_1 X hk hOK (N := N) hm h7
            exact ⟨m1, hgo ho hs, w1.2.1, f1, fun q => by cases q⟩
          · obtain ⟨m1, w1, v7, f1, hcm, -, hgo, -⟩ := it_1 X hk hOK (N := N) hm h7
            exact ⟨m1, hgo ho hs, w1.2.1, f1, fun q => by cases q⟩
      · refine ⟨true, o', [o], ⟨fun N m hN hm h7 => ?_, fun N m hN hm h7 => ?_⟩, fun q x hx => ?_, by rw [List.length_singleton]; omega⟩
        · obtain ⟨m1, w1, v7, f1, hcm, -, -, hgo⟩ := pr_1 X hk hOK (N := N) hm h7
          refine ⟨m1, hgo (by omega), w1.2.1, f1, fun q => ⟨v7, fun i x hi => ?_⟩⟩
          cases i with
          | zero =>
            rw [List.getElem?_cons_zero] at hi
            have hx := Option.some.inj hi
            rw [← hx, show k + 0 = k from rfl]
            exact hcm
          | succ i =>
            rw [List.getElem?_cons_succ] at hi
            simp at hi
        · obtain ⟨m1, w1, v7, f1, hcm, -, -, hgo⟩ := it_1 X hk hOK (N := N) hm h7
          refine ⟨m1, hgo (by omega), w1.2.1, f1, fun q => ⟨v7, fun i x hi => ?_⟩⟩
          cases i with
          | zero =>
            rw [List.getElem?_cons_zero] at hi
            have hx := Option.some.inj hi
            rw [← hx, show k + 0 = k from rfl]
            exact hcm
          | succ i =>
            rw [List.getElem?_cons_succ] at hi
            simp at hi
        · rw [List.mem_singleton.mp hx]
          exact hV
end Txt

/-! ===== the exceptions that a method lets out are among those that it makes ===== -/
def jEn (X : List String) (z : jO × jH) : Prop := ∀ E, z.1 = .inr E → E ∈ X
section JExc
variable {t : jT} {mu : Nat} {cx : Nat → List jV → jH → jR} {z : jO × jH} {pc : Nat} {ls : jL} {st : List jV} {w : jH} {X : List String}
theorem jinv_exc (hcx : ∀ mu' as w z', cx mu' as w = some z' → jEn X z') {go : Nat → jL → List jV → jH → jR} (hgo : ∀ pc' ls' st' w', go pc' ls' st' w' = some z → jEn X z) {idx : Nat} {inst : Bool} (h : jinv t mu cx go pc idx ls st w inst = some z) : jEn X z := by
  unfold jinv at h
  split at h
  · split at h
    · split at h
      · obtain ⟨a, r, hst, h⟩ := jpR_some h
        obtain ⟨hc, h⟩ := jsh_some h
        have h := jrc_some h
        rcases jcl_some h with ⟨v, w', q1, q2⟩ | ⟨E, w', q1, q2⟩
        · exact hgo _ _ _ _ q2
        · split at q2
          · exact hgo _ _ _ _ q2
          · cases q2
            exact hcx _ _ _ _ q1
      · split at h
        · obtain ⟨hc, h⟩ := jsh_some h
          exact hgo _ _ _ _ h
        · obtain ⟨hc, h⟩ := jsh_some h
          exact hgo _ _ _ _ h
        · obtain ⟨hc, h⟩ := jsh_some h
          rcases jcl_some h with ⟨v, w', q1, q2⟩ | ⟨E, w', q1, q2⟩
          · exact hgo _ _ _ _ q2
          · split at q2
            · cases q2
            · cases q2
              exact hcx _ _ _ _ q1
        · cases h
    · cases h
  · cases h
set_option maxHeartbeats 4000000 in
theorem jst_exc (hX : ∀ mu idx E, jkres t mu idx = some (.inr E) → E ∈ X) (hcx : ∀ mu' as w z', cx mu' as w = some z' → jEn X z') {go : Nat → jL → List jV → jH → jR} (hgo : ∀ pc' ls' st' w', go pc' ls' st' w' = some z → jEn X z) {i : Instr} (h : jst t mu cx go pc i ls st w = some z) : jEn X z := by
  cases i with
  | aload_n k =>
    obtain ⟨x, h1, h2⟩ := jlR_some h
    (have q := hgo _ _ _ _ h2; exact q)
  | aload k =>
    obtain ⟨x, h1, h2⟩ := jlR_some h
    (have q := hgo _ _ _ _ h2; exact q)
  | iload_n k =>
    obtain ⟨x, h1, h2⟩ := jlI_some h
    (have q := hgo _ _ _ _ h2; exact q)
  | iload k =>
    obtain ⟨x, h1, h2⟩ := jlI_some h
    (have q := hgo _ _ _ _ h2; exact q)
  | fload k =>
    obtain ⟨x, h1, h2⟩ := jlF_some h
    (have q := hgo _ _ _ _ h2; exact q)
  | dload k =>
    obtain ⟨x, h1, h2⟩ := jlD_some h
    (have q := hgo _ _ _ _ h2; exact q)
  | astore_n k =>
    obtain ⟨x, r, hst, h9⟩ := jpR_some h
    clear h
    skip
    subst hst
    have h := h9
    obtain ⟨h1, h2, h3⟩ := jst1_some h
    (have q := hgo _ _ _ _ h3; exact q)
  | astore k =>
    obtain ⟨x, r, hst, h9⟩ := jpR_some h
    clear h
    skip
    subst hst
    have h := h9
    obtain ⟨h1, h2, h3⟩ := jst1_some h
    (have q := hgo _ _ _ _ h3; exact q)
  | istore_n k =>
    obtain ⟨x, r, hst, h9⟩ := jp0_some h
    clear h
    skip
    subst hst
    have h := h9
    obtain ⟨h1, h2, h3⟩ := jst1_some h
    (have q := hgo _ _ _ _ h3; exact q)
  | istore k =>
    obtain ⟨x, r, hst, h9⟩ := jp0_some h
    clear h
    skip
    subst hst
    have h := h9
    obtain ⟨h1, h2, h3⟩ := jst1_some h
    (have q := hgo _ _ _ _ h3; exact q)
  | fstore k =>
    obtain ⟨x, r, hst, h9⟩ := jpF_some h
    clear h
    skip
    subst hst
    have h := h9
    obtain ⟨h1, h2, h3⟩ := jst1_some h
    (have q := hgo _ _ _ _ h3; exact q)
  | dstore k =>
    obtain ⟨x, r, hst, h9⟩ := jpD_some h
    clear h
    skip
    subst hst
    have h := h9
    obtain ⟨h1, h2, h3⟩ := jst2_some h
    (have q := hgo _ _ _ _ h3; exact q)
  | iconst n =>
    have h1 : (match jb8 n with | true => go (pc + 1) ls (.inl n :: st) w | false => none) = some z := h
    cases hb : jb8 n
    · rw [hb] at h1; cases h1
    · rw [hb] at h1; (have q := hgo _ _ _ _ h1; exact q)
  | bipush n =>
    have h1 : (match jb8 n with | true => go (pc + 2) ls (.inl n :: st) w | false => none) = some z := h
    cases hb : jb8 n
    · rw [hb] at h1; cases h1
    · rw [hb] at h1; (have q := hgo _ _ _ _ h1; exact q)
  | sipush n =>
    have h1 : (match jb16 n with | true => go (pc + 3) ls (.inl n :: st) w | false => none) = some z := h
    cases hb : jb16 n
    · rw [hb] at h1; cases h1
    · rw [hb] at h1; (have q := hgo _ _ _ _ h1; exact q)
  | lconst n =>
    (have q := hgo _ _ _ _ h; exact q)
  | fconst n =>
    have h1 : (match n.val with | 0 => go (pc + 1) ls (.inr (.inr (.float 0)) :: st) w | _ => none) = some z := h
    split at h1
    · rename_i h0
      have hn : n = 0 := Fin.ext h0
      subst hn
      (have q := hgo _ _ _ _ h1; exact q)
    · cases h1
  | dconst n =>
    have h1 : (match n.val with | 0 => go (pc + 1) ls (.inr (.inr (.double 0)) :: st) w | _ => none) = some z := h
    split at h1
    · rename_i h0
      have hn : n = 0 := Fin.ext h0
      subst hn
      (have q := hgo _ _ _ _ h1; exact q)
    · cases h1
  | iinc k n =>
    obtain ⟨x, h1, h2⟩ := jlI_some h
    obtain ⟨h3, h4, h5⟩ := jst1_some h2
    (have q := hgo _ _ _ _ h5; exact q)
  | iadd =>
    obtain ⟨x, y, r, hst, h9⟩ := jp2_some h
    clear h
    skip
    subst hst
    have h := h9
    (have q := hgo _ _ _ _ h; exact q)
  | isub =>
    obtain ⟨x, y, r, hst, h9⟩ := jp2_some h
    clear h
    skip
    subst hst
    have h := h9
    (have q := hgo _ _ _ _ h; exact q)
  | imul =>
    obtain ⟨x, y, r, hst, h9⟩ := jp2_some h
    clear h
    skip
    subst hst
    have h := h9
    (have q := hgo _ _ _ _ h; exact q)
  | idiv =>
    obtain ⟨x, y, r, hst, h9⟩ := jp2_some h
    clear h
    skip
    subst hst
    have h := h9
    obtain ⟨h1, h⟩ := jite_some h
    (have q := hgo _ _ _ _ h; exact q)
  | irem =>
    obtain ⟨x, y, r, hst, h9⟩ := jp2_some h
    clear h
    skip
    subst hst
    have h := h9
    obtain ⟨h1, h⟩ := jite_some h
    (have q := hgo _ _ _ _ h; exact q)
  | iand =>
    obtain ⟨x, y, r, hst, h9⟩ := jp2_some h
    clear h
    skip
    subst hst
    have h := h9
    obtain ⟨h1, h⟩ := jite_some h
    subst h1
    (have q := hgo _ _ _ _ h; exact q)
  | i2c =>
    obtain ⟨x, r, hst, h9⟩ := jp0_some h
    clear h
    skip
    subst hst
    have h := h9
    (have q := hgo _ _ _ _ h; exact q)
  | i2l =>
    obtain ⟨x, r, hst, h9⟩ := jp0_some h
    clear h
    skip
    subst hst
    have h := h9
    (have q := hgo _ _ _ _ h; exact q)
  | i2d =>
    obtain ⟨x, r, hst, h9⟩ := jp0_some h
    clear h
    skip
    subst hst
    have h := h9
    (have q := hgo _ _ _ _ h; exact q)
  | i2f =>
    obtain ⟨x, r, hst, h9⟩ := jp0_some h
    clear h
    skip
    subst hst
    have h := h9
    (have q := hgo _ _ _ _ h; exact q)
  | lcmp =>
    obtain ⟨x, y, r, hst, h9⟩ := jpL_some h
    clear h
    skip
    subst hst
    have h := h9
    (have q := hgo _ _ _ _ h; exact q)
  | dup =>
    have h1 : (match (generalizing := false) st with | v :: r => (match (generalizing := false) v with | .inl _ => go (pc + 1) ls (v :: v :: r) w | .inr (.inr (.ref _)) => go (pc + 1) ls (v :: v :: r) w | _ => none) | _ => none) = some z := h
    split at h1
    · split at h1
      · (have q := hgo _ _ _ _ h1; exact q)
      · (have q := hgo _ _ _ _ h1; exact q)
      · cases h1
    · cases h1
  | dup2 =>
    have h1 : (match (generalizing := false) st with | .inl x :: .inr (.inr (.ref a)) :: r => go (pc + 1) ls (.inl x :: jr a :: .inl x :: jr a :: r) w | _ => none) = some z := h
    split at h1
    · (have q := hgo _ _ _ _ h1; exact q)
    · cases h1
  | pop =>
    obtain ⟨x, r, hst, h9⟩ := jp0_some h
    clear h
    skip
    subst hst
    have h := h9
    (have q := hgo _ _ _ _ h; exact q)
  | ifCond cd off =>
    obtain ⟨x, r, hst, h9⟩ := jp0_some h
    clear h
    skip
    subst hst
    have h := h9
    cases cd with
    | eq =>
      have h1 : (if x = 0 then go (jtgt pc off) ls r w else go (pc + 3) ls r w) = some z := h
      by_cases hc : x = 0
      · rw [if_pos hc] at h1; (have q := hgo _ _ _ _ h1; exact q)
      · rw [if_neg hc] at h1; (have q := hgo _ _ _ _ h1; exact q)
    | ne =>
      have h1 : (if x = 0 then go (pc + 3) ls r w else go (jtgt pc off) ls r w) = some z := h
      by_cases hc : x = 0
      · rw [if_pos hc] at h1; (have q := hgo _ _ _ _ h1; exact q)
      · rw [if_neg hc] at h1; (have q := hgo _ _ _ _ h1; exact q)
    | lt =>
      have h1 : (if x < 0 then go (jtgt pc off) ls r w else go (pc + 3) ls r w) = some z := h
      by_cases hc : x < 0
      · rw [if_pos hc] at h1; (have q := hgo _ _ _ _ h1; exact q)
      · rw [if_neg hc] at h1; (have q := hgo _ _ _ _ h1; exact q)
    | ge =>
      have h1 : (if x < 0 then go (pc + 3) ls r w else go (jtgt pc off) ls r w) = some z := h
      by_cases hc : x < 0
      · rw [if_pos hc] at h1; (have q := hgo _ _ _ _ h1; exact q)
      · rw [if_neg hc] at h1; (have q := hgo _ _ _ _ h1; exact q)
    | gt =>
      have h1 : (if 0 < x then go (jtgt pc off) ls r w else go (pc + 3) ls r w) = some z := h
      by_cases hc : 0 < x
      · rw [if_pos hc] at h1; (have q := hgo _ _ _ _ h1; exact q)
      · rw [if_neg hc] at h1; (have q := hgo _ _ _ _ h1; exact q)
    | le =>
      have h1 : (if 0 < x then go (pc + 3) ls r w else go (jtgt pc off) ls r w) = some z := h
      by_cases hc : 0 < x
      · rw [if_pos hc] at h1; (have q := hgo _ _ _ _ h1; exact q)
      · rw [if_neg hc] at h1; (have q := hgo _ _ _ _ h1; exact q)
  | if_icmp cd off =>
    obtain ⟨x, y, r, hst, h9⟩ := jp2_some h
    clear h
    skip
    subst hst
    have h := h9
    cases cd with
    | eq =>
      have h1 : (if x = y then go (jtgt pc off) ls r w else go (pc + 3) ls r w) = some z := h
      by_cases hc : x = y
      · rw [if_pos hc] at h1; (have q := hgo _ _ _ _ h1; exact q)
      · rw [if_neg hc] at h1; (have q := hgo _ _ _ _ h1; exact q)
    | ne =>
      have h1 : (if x = y then go (pc + 3) ls r w else go (jtgt pc off) ls r w) = some z := h
      by_cases hc : x = y
      · rw [if_pos hc] at h1; (have q := hgo _ _ _ _ h1; exact q)
      · rw [if_neg hc] at h1; (have q := hgo _ _ _ _ h1; exact q)
    | lt =>
      have h1 : (if x < y then go (jtgt pc off) ls r w else go (pc + 3) ls r w) = some z := h
      by_cases hc : x < y
      · rw [if_pos hc] at h1; (have q := hgo _ _ _ _ h1; exact q)
      · rw [if_neg hc] at h1; (have q := hgo _ _ _ _ h1; exact q)
    | ge =>
      have h1 : (if x < y then go (pc + 3) ls r w else go (jtgt pc off) ls r w) = some z := h
      by_cases hc : x < y
      · rw [if_pos hc] at h1; (have q := hgo _ _ _ _ h1; exact q)
      · rw [if_neg hc] at h1; (have q := hgo _ _ _ _ h1; exact q)
    | gt =>
      have h1 : (if y < x then go (jtgt pc off) ls r w else go (pc + 3) ls r w) = some z := h
      by_cases hc : y < x
      · rw [if_pos hc] at h1; (have q := hgo _ _ _ _ h1; exact q)
      · rw [if_neg hc] at h1; (have q := hgo _ _ _ _ h1; exact q)
    | le =>
      have h1 : (if y < x then go (pc + 3) ls r w else go (jtgt pc off) ls r w) = some z := h
      by_cases hc : y < x
      · rw [if_pos hc] at h1; (have q := hgo _ _ _ _ h1; exact q)
      · rw [if_neg hc] at h1; (have q := hgo _ _ _ _ h1; exact q)
  | goto off =>
    (have q := hgo _ _ _ _ h; exact q)
  | ifnull off =>
    obtain ⟨x, r, hst, h9⟩ := jpR_some h
    clear h
    skip
    subst hst
    have h := h9
    (have q := hgo _ _ _ _ h; exact q)
  | ifnonnull off =>
    obtain ⟨x, r, hst, h9⟩ := jpR_some h
    clear h
    skip
    subst hst
    have h := h9
    (have q := hgo _ _ _ _ h; exact q)
  | tableswitch d lo hh offs =>
    obtain ⟨x, r, hst, h9⟩ := jp0_some h
    clear h
    skip
    subst hst
    have h := h9
    have h1 : (if x < lo ∨ hh < x then go (jtgt pc d) ls r w else (match offs[(x - lo).toNat]? with | some off => go (jtgt pc off) ls r w | none => none)) = some z := h
    by_cases hc : x < lo ∨ hh < x
    · rw [if_pos hc] at h1; (have q := hgo _ _ _ _ h1; exact q)
    · rw [if_neg hc] at h1
      split at h1
      · (have q := hgo _ _ _ _ h1; exact q)
      · cases h1
  | lookupswitch d ps =>
    obtain ⟨x, r, hst, h9⟩ := jp0_some h
    clear h
    skip
    subst hst
    have h := h9
    (have q := hgo _ _ _ _ h; exact q)
  | iaload =>
    obtain ⟨a, i, r, hst, h9⟩ := jpA_some h
    clear h
    skip
    subst hst
    have h := h9
    unfold jlda at h
    split at h
    · rename_i n g hw
      obtain ⟨h1, h2, h⟩ := jix_some h
      (have q := hgo _ _ _ _ h; exact q)
    · rename_i n g hw
      obtain ⟨h1, h2, h⟩ := jix_some h
      split at h
      · rename_i x hg
        (have q := hgo _ _ _ _ h; exact q)
      · cases h
    · cases h
  | baload =>
    obtain ⟨a, i, r, hst, h9⟩ := jpA_some h
    clear h
    skip
    subst hst
    have h := h9
    obtain ⟨n, g, hw, h⟩ := jga_some h
    obtain ⟨h1, h2, h⟩ := jix_some h
    (have q := hgo _ _ _ _ h; exact q)
  | caload =>
    obtain ⟨a, i, r, hst, h9⟩ := jpA_some h
    clear h
    skip
    subst hst
    have h := h9
    obtain ⟨n, g, hw, h⟩ := jga_some h
    obtain ⟨h1, h2, h⟩ := jix_some h
    (have q := hgo _ _ _ _ h; exact q)
  | laload =>
    obtain ⟨a, i, r, hst, h9⟩ := jpA_some h
    clear h
    skip
    subst hst
    have h := h9
    obtain ⟨n, g, hw, h⟩ := jga_some h
    obtain ⟨h1, h2, h⟩ := jix_some h
    (have q := hgo _ _ _ _ h; exact q)
  | daload =>
    obtain ⟨a, i, r, hst, h9⟩ := jpA_some h
    clear h
    skip
    subst hst
    have h := h9
    obtain ⟨ty, n, g, hw, h⟩ := jgq_some h
    obtain ⟨hty, h⟩ := jite_some h
    subst hty
    obtain ⟨h1, h2, h⟩ := jix_some h
    unfold jvD at h
    split at h
    · (have q := hgo _ _ _ _ h; exact q)
    · cases h
  | aaload =>
    obtain ⟨a, i, r, hst, h9⟩ := jpA_some h
    clear h
    skip
    subst hst
    have h := h9
    obtain ⟨ty, n, g, hw, h⟩ := jgq_some h
    obtain ⟨hty, h⟩ := jite_some h
    subst hty
    obtain ⟨h1, h2, h⟩ := jix_some h
    unfold jvR at h
    split at h
    · (have q := hgo _ _ _ _ h; exact q)
    · cases h
  | iastore =>
    obtain ⟨a, i, v, r, hst, h9⟩ := jpS_some h
    clear h
    skip
    subst hst
    have h := h9
    split at h
    · obtain ⟨n, g, hw, h⟩ := jga_some h
      obtain ⟨h1, h2, h⟩ := jix_some h
      obtain ⟨h3, h⟩ := jite_some h
      (have q := hgo _ _ _ _ h; exact q)
    · cases h
  | bastore =>
    obtain ⟨a, i, v, r, hst, h9⟩ := jpS_some h
    clear h
    skip
    subst hst
    have h := h9
    split at h
    · obtain ⟨n, g, hw, h⟩ := jga_some h
      obtain ⟨h1, h2, h⟩ := jix_some h
      obtain ⟨h3, h⟩ := jite_some h
      (have q := hgo _ _ _ _ h; exact q)
    · cases h
  | castore =>
    obtain ⟨a, i, v, r, hst, h9⟩ := jpS_some h
    clear h
    skip
    subst hst
    have h := h9
    split at h
    · obtain ⟨n, g, hw, h⟩ := jga_some h
      obtain ⟨h1, h2, h⟩ := jix_some h
      obtain ⟨h3, h⟩ := jite_some h
      (have q := hgo _ _ _ _ h; exact q)
    · cases h
  | lastore =>
    obtain ⟨a, i, v, r, hst, h9⟩ := jpS_some h
    clear h
    skip
    subst hst
    have h := h9
    split at h
    · obtain ⟨n, g, hw, h⟩ := jga_some h
      obtain ⟨h1, h2, h⟩ := jix_some h
      (have q := hgo _ _ _ _ h; exact q)
    · cases h
  | dastore =>
    obtain ⟨a, i, v, r, hst, h9⟩ := jpS_some h
    clear h
    skip
    subst hst
    have h := h9
    split at h
    · obtain ⟨ty, n, g, hw, h⟩ := jgq_some h
      obtain ⟨hty, h⟩ := jite_some h
      subst hty
      obtain ⟨h1, h2, h⟩ := jix_some h
      (have q := hgo _ _ _ _ h; exact q)
    · cases h
  | aastore =>
    obtain ⟨a, i, v, r, hst, h9⟩ := jpS_some h
    clear h
    skip
    subst hst
    have h := h9
    split at h
    · obtain ⟨ty, n, g, hw, h⟩ := jgq_some h
      obtain ⟨hty, h⟩ := jite_some h
      subst hty
      obtain ⟨h1, h2, h⟩ := jix_some h
      obtain ⟨fs, h3, h⟩ := jgo_some h
      (have q := hgo _ _ _ _ h; exact q)
    · cases h
  | arraylength =>
    obtain ⟨a, r, hst, h9⟩ := jpR_some h
    clear h
    skip
    subst hst
    have h := h9
    unfold jleng at h
    split at h
    · (have q := hgo _ _ _ _ h; exact q)
    · cases h
  | getfield idx =>
    have h0 : (match (generalizing := false) jfres t mu idx with | some (ci, (k, _)) => jpR st fun a r => jgo w a ci fun fs => jfld fs k fun v => go (pc + 3) ls (v :: r) w | none => none) = some z := h
    split at h0
    · rename_i ci k ty hr
      obtain ⟨a, r, hst, h9⟩ := jpR_some h0
      clear h
      clear h0
      subst hst
      have h0 := h9
      obtain ⟨fs, hw, h0⟩ := jgo_some h0
      obtain ⟨v, hv, h0⟩ := jfld_some _ _ h0
      (have q := hgo _ _ _ _ h0; exact q)
    · cases h0
  | putfield idx =>
    have h0 : (match (generalizing := false) jfres t mu idx with | some (ci, (k, ty)) => (match (generalizing := false) st with | v :: .inr (.inr (.ref a)) :: r => jgo w a ci fun fs => if k < fs.length ∧ jsv ty v = true then go (pc + 3) ls r (jset w a (.inr (.inl (ci, fs.set k v)))) else none | _ => none) | none => none) = some z := h
    split at h0
    · rename_i ci k ty hr
      split at h0
      · obtain ⟨fs, hw, h0⟩ := jgo_some h0
        obtain ⟨⟨h1, h2⟩, h0⟩ := jite_some h0
        (have q := hgo _ _ _ _ h0; exact q)
      · cases h0
    · cases h0
  | ldc idx =>
    have h0 : (match jcres t mu idx with | some k => jlI ls k.toNat fun x => jsh st (go (pc + 6) ls (.inl (jidx x) :: st) w) | none => none) = some z := h
    split at h0
    · rename_i k hk
      obtain ⟨x, h1, h0⟩ := jlI_some h0
      obtain ⟨hc, h0⟩ := jsh_some h0
      (have q := hgo _ _ _ _ h0; exact q)
    · cases h0
  | new idx =>
    have h0 : (match jkres t mu idx with | some (.inr E) => jsh st (some (.inr E, jthr w)) | some (.inl (ci, fs)) => jnew w (.inr (.inl (ci, fs))) fs.length fun a w' => go (pc + 3) ls (jr a :: st) w' | none => none) = some z := h
    split at h0
    · rename_i E hk
      obtain ⟨hc, h0⟩ := jsh_some h0
      cases h0
      exact fun E9 hE => by cases hE; exact hX _ _ _ hk
    · rename_i ci fs hk
      obtain ⟨a, h1, h0⟩ := jnew_some h0
      (have q := hgo _ _ _ _ h0; exact q)
    · cases h0
  | newarray aty =>
    obtain ⟨x, r, hst, h9⟩ := jp0_some h
    clear h
    skip
    subst hst
    have h := h9
    obtain ⟨h1, h⟩ := jite_some h
    obtain ⟨a, h2, h⟩ := jnew_some h
    (have q := hgo _ _ _ _ h; exact q)
  | anewarray idx =>
    obtain ⟨x, r, hst, h9⟩ := jp0_some h
    clear h
    skip
    subst hst
    have h := h9
    obtain ⟨h1, h⟩ := jite_some h
    subst h1
    obtain ⟨a, h2, h⟩ := jnew_some h
    (have q := hgo _ _ _ _ h; exact q)
  | invokevirtual idx =>
    have h0 : (match jmres t mu idx with | some (0, _) => jinv t mu cx go pc idx ls st w true | _ => none) = some z := h
    split at h0
    · rename_i q hq
      (have q : jinv t mu cx go pc idx ls st w true = some z := h0; exact jinv_exc hcx hgo q)
    · cases h0
  | invokestatic idx =>
    (have q : jinv t mu cx go pc idx ls st w false = some z := h; exact jinv_exc hcx hgo q)
  | invokespecial idx =>
    have h0 : (match jmres t mu idx with | some (5, _) => jpR st fun _ r => jsh r (go (pc + 3) ls r w) | some (2, _) => jinv t mu cx go pc idx ls st w true | _ => none) = some z := h
    split at h0
    · rename_i q hq
      obtain ⟨a, r, hst, h9⟩ := jpR_some h0
      clear h
      clear h0
      subst hst
      have h0 := h9
      obtain ⟨hc, h0⟩ := jsh_some h0
      (have q := hgo _ _ _ _ h0; exact q)
    · rename_i q hq
      (have q : jinv t mu cx go pc idx ls st w true = some z := h0; exact jinv_exc hcx hgo q)
    · cases h0
  | ireturn =>
    have h0 : (match (generalizing := false) st, jtres t mu with | [.inl x], some ty => if jfits ty x = true then jret (some (.inl x)) w else none | _, _ => none) = some z := h
    split at h0
    · rename_i x ty hr
      obtain ⟨h1, h0⟩ := jite_some h0
      cases h0
      exact fun E9 hE => nomatch hE
    · cases h0
  | areturn =>
    have h0 : (match (generalizing := false) st, jtres t mu with | [.inr (.inr (.ref a))], some (.object _) => jret (some (jr a)) w | [.inr (.inr (.ref a))], some (.array _) => jret (some (jr a)) w | _, _ => none) = some z := h
    split at h0
    · rename_i a n hr
      cases h0
      exact fun E9 hE => nomatch hE
    · rename_i a n hr
      cases h0
      exact fun E9 hE => nomatch hE
    · cases h0
  | freturn =>
    have h0 : (match (generalizing := false) st, jtres t mu with | [.inr (.inr (.float a))], some .float => jret (some (.inr (.inr (.float a)))) w | _, _ => none) = some z := h
    split at h0
    · rename_i a hr
      cases h0
      exact fun E9 hE => nomatch hE
    · cases h0
  | dreturn =>
    have h0 : (match (generalizing := false) st, jtres t mu with | [.inr (.inr (.double a))], some .double => jret (some (.inr (.inr (.double a)))) w | _, _ => none) = some z := h
    split at h0
    · rename_i a hr
      cases h0
      exact fun E9 hE => nomatch hE
    · cases h0
  | return_ =>
    have h0 : (match (generalizing := false) st, jtres t mu with | [], none => jret none w | _, _ => none) = some z := h
    split at h0
    · rename_i hr
      cases h0
      exact fun E9 hE => nomatch hE
    · cases h0
  | ddiv =>
    have h0 : (match (generalizing := false) st with | .inr (.inr (.double y)) :: .inr (.inr (.double x)) :: r => if FP.ddiv x y &&& 0x7fffffffffffffff ≤ 0x7ff0000000000000 then go (pc + 1) ls (.inr (.inr (.double (FP.ddiv x y))) :: r) w else none | _ => none) = some z := h
    split at h0
    · obtain ⟨h1, h0⟩ := jite_some h0
      (have q := hgo _ _ _ _ h0; exact q)
    · cases h0
  | fdiv =>
    have h0 : (match (generalizing := false) st with | .inr (.inr (.float y)) :: .inr (.inr (.float x)) :: r => if FP.fdiv x y &&& 0x7fffffff ≤ 0x7f800000 then go (pc + 1) ls (.inr (.inr (.float (FP.fdiv x y))) :: r) w else none | _ => none) = some z := h
    split at h0
    · obtain ⟨h1, h0⟩ := jite_some h0
      (have q := hgo _ _ _ _ h0; exact q)
    · cases h0
  | f2d =>
    obtain ⟨x, r, hst, h9⟩ := jpF_some h
    clear h
    skip
    subst hst
    have h := h9
    obtain ⟨h1, h⟩ := jite_some h
    (have q := hgo _ _ _ _ h; exact q)
  | dcmp op =>
    have h0 : (match (generalizing := false) st with | .inr (.inr (.double y)) :: .inr (.inr (.double x)) :: r => go (pc + 1) ls (.inl (Op.cmpValue (FP.dcmp x y) op).toInt :: r) w | _ => none) = some z := h
    split at h0
    · (have q := hgo _ _ _ _ h0; exact q)
    · cases h0
  | fcmp op =>
    have h0 : (match (generalizing := false) st with | .inr (.inr (.float y)) :: .inr (.inr (.float x)) :: r => go (pc + 1) ls (.inl (Op.cmpValue (FP.fcmp x y) op).toInt :: r) w | _ => none) = some z := h
    split at h0
    · (have q := hgo _ _ _ _ h0; exact q)
    · cases h0
  | _ => exact nomatch h
theorem jblk_exc (hX : ∀ mu idx E, jkres t mu idx = some (.inr E) → E ∈ X) (hcx : ∀ mu' as w z', cx mu' as w = some z' → jEn X z') {bk : Nat → jL → List jV → jH → jR} (hbk : ∀ pc' ls' st' w', bk pc' ls' st' w' = some z → jEn X z) : ∀ (n pc : Nat) (ls : jL) (st : List jV) (w : jH), jblk t mu cx bk n pc ls st w = some z → jEn X z
  | 0, _, _, _, _, h => nomatch h
  | n + 1, pc, ls, st, w, h => by
    unfold jblk at h
    split at h
    · refine jst_exc hX hcx (fun pc' ls' st' w' h9 => ?_) h
      have h9 : (match Nat.blt pc pc' && !(jcut t mu pc') with | true => jblk t mu cx bk n pc' ls' st' w' | false => bk pc' ls' st' w') = some z := h9
      split at h9
      · exact jblk_exc hX hcx hbk n _ _ _ _ h9
      · exact hbk _ _ _ _ h9
    · cases h
theorem jlp_exc (hX : ∀ mu idx E, jkres t mu idx = some (.inr E) → E ∈ X) (hcx : ∀ mu' as w z', cx mu' as w = some z' → jEn X z') : ∀ (n pc : Nat) (ls : jL) (st : List jV) (w : jH), jlp t mu cx n pc ls st w = some z → jEn X z
  | 0, _, _, _, _, h => nomatch h
  | n + 1, pc, ls, st, w, h => jblk_exc hX hcx (fun pc' ls' st' w' h9 => jlp_exc hX hcx n pc' ls' st' w' h9) 4000 pc ls st w h
end JExc
theorem jme_exc {t : jT} {mx : Nat → Nat} {X : List String} (hX : ∀ mu idx E, jkres t mu idx = some (.inr E) → E ∈ X) : ∀ (d mu : Nat) (as : List jV) (w : jH) (z : jO × jH), jme t mx d mu as w = some z → jEn X z
  | 0, _, _, _, _, h => nomatch h
  | d + 1, mu, as, w, z, h => by
    unfold jme at h
    split at h
    · exact jlp_exc hX (fun mu' as w z' h' => jme_exc hX d mu' as w z' h') _ _ _ _ _ h
    · cases h
/-- a class of exceptions that the program makes is one of six -/
def jkx1 (e : Nat × ((Nat × List jV) ⊕ String)) : Bool := match e.2 with
  | .inl _ => true
  | .inr E => jexc.any fun X => decide (X = E)
theorem jkx_ok : (jkrs.all fun g => g.all jkx1) = true := by decide +kernel
theorem jkx_at : ∀ mu idx E, jkres jT0 mu idx = some (.inr E) → E ∈ jexc := fun mu idx E h => by
  obtain ⟨g, hg, hm⟩ := jsel_mem (show jsel jkrs mu idx = _ from h)
  have h1 := List.all_eq_true.mp (List.all_eq_true.mp jkx_ok g (List.mem_of_getElem? hg)) _ hm
  obtain ⟨X, h2, h3⟩ := List.any_eq_true.mp (show (jexc.any fun X => decide (X = E)) = true from h1)
  rw [decide_eq_true_eq] at h3
  exact h3 ▸ h2
theorem jX_exc {d mu : Nat} {as : List jV} {w : jH} {z : jO × jH} (h : jX d mu as w = some z) : jEn jexc z := jme_exc jkx_at d mu as w z h
theorem jX_mono {d mu : Nat} {as : List jV} {w : jH} {z : jO × jH} (h : jX d mu as w = some z) : Mn w z := jme_mono d mu as w z h

/-! ===== decode, of every method ===== -/
theorem jdecm_app (a b : List jPg) (c : ByteArray) : jdecm (a ++ b) c = (jdecm a c && jdecm b c) := List.all_append
theorem jdecm_cons (a : jPg) (b : List jPg) (c : ByteArray) (h1 : jdecm [a] c = true) (h2 : jdecm b c = true) : jdecm (a :: b) c = true := by
  rw [show a :: b = [a] ++ b from rfl, jdecm_app, h1, h2]
  rfl
theorem jdl_all : jdecm jt337 code = true := by
  show jdecm ([jt337_0] ++ ([jt337_1] ++ ([jt337_2] ++ ([jt337_3] ++ ([jt337_4] ++ ([jt337_5] ++ ([jt337_6] ++ ([jt337_7] ++ ([jt337_8] ++ ([jt337_9] ++ ([jt337_10] ++ ([jt337_11] ++ ([jt337_12] ++ ([jt337_13] ++ ([jt337_14] ++ ([jt337_15] ++ ([jt337_16] ++ ([jt337_17] ++ ([jt337_18] ++ ([jt337_19] ++ ([jt337_20] ++ ([jt337_21] ++ ([jt337_22] ++ ([jt337_23] ++ ([jt337_24] ++ ([jt337_25] ++ ([jt337_26] ++ ([jt337_27] ++ ([jt337_28] ++ ([jt337_29] ++ ([jt337_30] ++ ([jt337_31] ++ ([jt337_32] ++ ([jt337_33] ++ ([jt337_34] ++ ([jt337_35] ++ ([jt337_36] ++ ([jt337_37] ++ ([jt337_38] ++ ([jt337_39] ++ ([jt337_40] ++ ([jt337_41] ++ ([jt337_42] ++ ([jt337_43] ++ ([jt337_44] ++ ([jt337_45] ++ ([jt337_46] ++ ([jt337_47] ++ ([jt337_48] ++ ([jt337_49] ++ ([jt337_50] ++ ([jt337_51])))))))))))))))))))))))))))))))))))))))))))))))))))) code = true
  rw [jdecm_app, jdecm_app, jdecm_app, jdecm_app, jdecm_app, jdecm_app, jdecm_app, jdecm_app, jdecm_app, jdecm_app, jdecm_app, jdecm_app, jdecm_app, jdecm_app, jdecm_app, jdecm_app, jdecm_app, jdecm_app, jdecm_app, jdecm_app, jdecm_app, jdecm_app, jdecm_app, jdecm_app, jdecm_app, jdecm_app, jdecm_app, jdecm_app, jdecm_app, jdecm_app, jdecm_app, jdecm_app, jdecm_app, jdecm_app, jdecm_app, jdecm_app, jdecm_app, jdecm_app, jdecm_app, jdecm_app, jdecm_app, jdecm_app, jdecm_app, jdecm_app, jdecm_app, jdecm_app, jdecm_app, jdecm_app, jdecm_app, jdecm_app, jdecm_app, jdl0, jdl1, jdl2, jdl3, jdl4, jdl5, jdl6, jdl7, jdl8, jdl9, jdl10, jdl11, jdl12, jdl13, jdl14, jdl15, jdl16, jdl17, jdl18, jdl19, jdl20, jdl21, jdl22, jdl23, jdl24, jdl25, jdl26, jdl27, jdl28, jdl29, jdl30, jdl31, jdl32, jdl33, jdl34, jdl35, jdl36, jdl37, jdl38, jdl39, jdl40, jdl41, jdl42, jdl43, jdl44, jdl45, jdl46, jdl47, jdl48, jdl49, jdl50, jdl51]
  rfl
theorem jdg16 : jdecg jq16 jbb16 = true := by
  show (jdecm jt320 method_35_code && (jdecm jt321 method_36_code && (jdecm jt322 method_37_code && (jdecm jt323 method_38_code && (jdecm jt324 method_39_code && (jdecm jt325 method_40_code && (jdecm jt326 method_41_code && (jdecm jt327 method_42_code && (jdecm jt328 method_43_code && (jdecm jt329 method_44_code && (jdecm jt330 method_45_code && (jdecm jt331 method_46_code && (jdecm jt332 method_47_code && (jdecm jt333 method_48_code && (jdecm jt334 method_49_code && (jdecm jt335 method_50_code && (jdecm jt336 method_51_code && (jdecm jt337 code && (true))))))))))))))))))) = true
  rw [jdm320, jdm321, jdm322, jdm323, jdm324, jdm325, jdm326, jdm327, jdm328, jdm329, jdm330, jdm331, jdm332, jdm333, jdm334, jdm335, jdm336, jdl_all]
  rfl
theorem jdecg_at : ∀ (ps : List (List jPg)) (bs : List ByteArray), jdecg ps bs = true → ∀ (j : Nat) (p : List jPg), ps[j]? = some p → ∃ b, bs[j]? = some b ∧ jdecm p b = true
  | [], [], _, j, p, h => by simp at h
  | [], b :: bs, h, _, _, _ => by cases h
  | q :: ps, [], h, _, _, _ => by cases h
  | q :: ps, b :: bs, h, j, p, hp => by
    have h' : (jdecm q b && jdecg ps bs) = true := h
    rw [Bool.and_eq_true] at h'
    cases j with
    | zero =>
      cases hp
      exact ⟨b, rfl, h'.1⟩
    | succ j => exact jdecg_at ps bs h'.2 j p (by simpa using hp)
theorem jdec_grp (k : Nat) (ps : List (List jPg)) (h : jqs[k]? = some ps) : ∃ bs, jbbs[k]? = some bs ∧ jdecg ps bs = true := by
  match k, h with
  | 0, h => exact ⟨jbb0, rfl, by cases h; exact jdg0⟩
  | 1, h => exact ⟨jbb1, rfl, by cases h; exact jdg1⟩
  | 2, h => exact ⟨jbb2, rfl, by cases h; exact jdg2⟩
  | 3, h => exact ⟨jbb3, rfl, by cases h; exact jdg3⟩
  | 4, h => exact ⟨jbb4, rfl, by cases h; exact jdg4⟩
  | 5, h => exact ⟨jbb5, rfl, by cases h; exact jdg5⟩
  | 6, h => exact ⟨jbb6, rfl, by cases h; exact jdg6⟩
  | 7, h => exact ⟨jbb7, rfl, by cases h; exact jdg7⟩
  | 8, h => exact ⟨jbb8, rfl, by cases h; exact jdg8⟩
  | 9, h => exact ⟨jbb9, rfl, by cases h; exact jdg9⟩
  | 10, h => exact ⟨jbb10, rfl, by cases h; exact jdg10⟩
  | 11, h => exact ⟨jbb11, rfl, by cases h; exact jdg11⟩
  | 12, h => exact ⟨jbb12, rfl, by cases h; exact jdg12⟩
  | 13, h => exact ⟨jbb13, rfl, by cases h; exact jdg13⟩
  | 14, h => exact ⟨jbb14, rfl, by cases h; exact jdg14⟩
  | 15, h => exact ⟨jbb15, rfl, by cases h; exact jdg15⟩
  | 16, h => exact ⟨jbb16, rfl, by cases h; exact jdg16⟩
  | k + 17, h => exact absurd (List.getElem?_eq_some_iff.mp h).1 (by show ¬ k + 17 < 17; omega)
theorem jfind_mem : ∀ (g : jPg) (pc : Nat) (i : Instr), jfind g pc = some i → ∃ len, (pc, (i, len)) ∈ g
  | [], _, _, h => by cases h
  | (q, (i', len)) :: r, pc, i, h => by
    unfold jfind at h
    split at h
    · rename_i hq
      cases h
      have := Nat.eq_of_beq_eq_true hq
      subst this
      exact ⟨len, List.mem_cons_self⟩
    · obtain ⟨len', h'⟩ := jfind_mem r pc i h
      exact ⟨len', List.mem_cons_of_mem _ h'⟩
theorem jCode_dec (mu pc : Nat) (i : Instr) (h : jCode mu pc = some i) : ∃ len, (pc, (i, len)) ∈ (jpages mu).flatten ∧ jdec (jbytes mu) (pc, (i, len)) = true := by
  have h0 : jfindp (jpages mu) pc = some i := h
  unfold jfindp at h0
  split at h0
  · rename_i g hg
    obtain ⟨len, hm⟩ := jfind_mem g pc i h0
    have hgm := List.mem_of_getElem? hg
    refine ⟨len, List.mem_flatten.mpr ⟨g, hgm, hm⟩, ?_⟩
    unfold jpages at hgm
    split at hgm
    · rename_i ps hps
      obtain ⟨bs, hbs, hd⟩ := jdec_grp _ _ hps
      split at hgm
      · rename_i p hp
        obtain ⟨b, hb, hdm⟩ := jdecg_at ps bs hd _ _ hp
        have hbb : jbytes mu = b := by
          unfold jbytes jtwo
          rw [hbs]
          dsimp only
          rw [hb]
        rw [hbb]
        exact List.all_eq_true.mp (List.all_eq_true.mp hdm g hgm) _ hm
      · cases hgm
    · cases hgm
  · cases h0
theorem jDec_all {c : Code} (mu : Nat) (hb : c.code = jbytes mu) : jDec jT0 mu c := fun pc i hi => by
  obtain ⟨len, -, h⟩ := jCode_dec mu pc i hi
  have h' : (decide (decode (jbytes mu) pc = .ok (i, len)) && ((Nat.beq (jlen i) 0 || Nat.beq len (jlen i)) && jtk pc i)) = true := h
  rw [Bool.and_eq_true, Bool.and_eq_true, Bool.or_eq_true, decide_eq_true_eq] at h'
  refine ⟨len, by rw [hb]; exact h'.1, ?_, h'.2.2⟩
  rcases h'.2.1 with h1 | h1
  · exact Or.inl (Nat.eq_of_beq_eq_true h1)
  · exact Or.inr (Nat.eq_of_beq_eq_true h1)

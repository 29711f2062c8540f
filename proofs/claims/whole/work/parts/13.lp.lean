/-! ===== the interpreter is sound: stretches and loops ===== -/
section JLp
variable {cl : List vw_C} {G : jGc} {p : Program} {l : Launch} {e : Env} {R : Room} {s : State} {m : MethodId} {args : Array Value} {below : List Frame} {meth : Method} {c : Code} {Q : State → Prop} {c0 s0 : Nat} {z : jO × jH}
variable {t : jT} {mu : Nat} {own : String} {cx : Nat → List jV → jH → jR}
theorem jblk_snd (hx : p.tables.exec = Jvm.exec) (hW : jWo cl G s) (hown : s.vm.findClass own = some m.cls) (hD : jDec t mu c) (hF : jFldF cl t mu own args s meth) (hC : ∃ (T : u_T) (N : Nat), cl[7]? = some ("HabitRegistry$State", T, N)) (S : jStpF cl G p l e R s m args below meth c Q c0 s0 z t mu cx)
    {bk : Nat → jL → List jV → jH → jR} (hbk : ∀ pc' ls' st' w', bk pc' ls' st' w' = some z → jPt cl G p l e R s m args below meth c Q c0 s0 z pc' ls' st' w') : ∀ (n pc : Nat) (ls : jL) (st : List jV) (w : jH), jblk t mu cx bk n pc ls st w = some z → jPt cl G p l e R s m args below meth c Q c0 s0 z pc ls st w
  | 0, _, _, _, _, h => nomatch h
  | n + 1, pc, ls, st, w, h => by
    unfold jblk at h
    split at h
    · rename_i i hi
      refine jst_snd hx hW hown hD hF hC S (fun pc' ls' st' w' h9 => ?_) hi h
      have h9 : (match Nat.blt pc pc' && !(jcut t mu pc') with | true => jblk t mu cx bk n pc' ls' st' w' | false => bk pc' ls' st' w') = some z := h9
      split at h9
      · exact jblk_snd hx hW hown hD hF hC S hbk n _ _ _ _ h9
      · exact hbk _ _ _ _ h9
    · cases h
theorem jlp_snd (hx : p.tables.exec = Jvm.exec) (hW : jWo cl G s) (hown : s.vm.findClass own = some m.cls) (hD : jDec t mu c) (hF : jFldF cl t mu own args s meth) (hC : ∃ (T : u_T) (N : Nat), cl[7]? = some ("HabitRegistry$State", T, N)) (S : jStpF cl G p l e R s m args below meth c Q c0 s0 z t mu cx) : ∀ (n pc : Nat) (ls : jL) (st : List jV) (w : jH), jlp t mu cx n pc ls st w = some z → jPt cl G p l e R s m args below meth c Q c0 s0 z pc ls st w
  | 0, _, _, _, _, h => nomatch h
  | n + 1, pc, ls, st, w, h => jblk_snd hx hW hown hD hF hC S (fun pc' ls' st' w' h9 => jlp_snd hx hW hown hD hF hC S n pc' ls' st' w' h9) 4000 pc ls st w h
end JLp

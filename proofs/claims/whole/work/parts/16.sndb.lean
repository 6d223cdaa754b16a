/-! one instruction of the little machine is one of the machine's: the simple ones -/
section
variable {p : Program} {l : Launch} {e : Env} {R : Room} {s : State} {m : MethodId} {args : Array Value} {below : List Frame} {meth : Method} {c : Code} {Q : State → Prop}
variable {base : Nat} {ex : Nat → Nat} {cA : Nat → ClassId} {D : va_G} {scr : List Int32} {n0 z0 mi : Nat}
variable {len npc pc : Nat} {ls : aL} {st : List Value} {h : aH} {c' : aF}
theorem x_iadd (hh : a_exec mi .iadd len npc ls st h = some c') (hd : decode (codT mi) pc = .ok (.iadd, len)) (hn : npc = pc + len) (X : a_X p R s m args meth c base ex cA D scr mi) (kk : a_W p l e R s m args below meth c Q base ex cA D n0 z0 mi c') : a_W p l e R s m args below meth c Q base ex cA D n0 z0 mi (pc, ls, st, h) := by
  obtain ⟨hx, hb, hml, hown, hts, hE, hR, hin, hsc⟩ := X
  simp only [a_exec] at hh
  split at hh
  · cases hh
    subst hn
    intro H locs rls hl hll hP hS hz h1 h2
    refine lv_iadd hx hb hd ?_
    exact kk H locs rls hl hll hP hS hz h1 h2
  · cases hh
theorem x_isub (hh : a_exec mi .isub len npc ls st h = some c') (hd : decode (codT mi) pc = .ok (.isub, len)) (hn : npc = pc + len) (X : a_X p R s m args meth c base ex cA D scr mi) (kk : a_W p l e R s m args below meth c Q base ex cA D n0 z0 mi c') : a_W p l e R s m args below meth c Q base ex cA D n0 z0 mi (pc, ls, st, h) := by
  obtain ⟨hx, hb, hml, hown, hts, hE, hR, hin, hsc⟩ := X
  simp only [a_exec] at hh
  split at hh
  · cases hh
    subst hn
    intro H locs rls hl hll hP hS hz h1 h2
    refine lv_isub hx hb hd ?_
    exact kk H locs rls hl hll hP hS hz h1 h2
  · cases hh
theorem x_imul (hh : a_exec mi .imul len npc ls st h = some c') (hd : decode (codT mi) pc = .ok (.imul, len)) (hn : npc = pc + len) (X : a_X p R s m args meth c base ex cA D scr mi) (kk : a_W p l e R s m args below meth c Q base ex cA D n0 z0 mi c') : a_W p l e R s m args below meth c Q base ex cA D n0 z0 mi (pc, ls, st, h) := by
  obtain ⟨hx, hb, hml, hown, hts, hE, hR, hin, hsc⟩ := X
  simp only [a_exec] at hh
  split at hh
  · cases hh
    subst hn
    intro H locs rls hl hll hP hS hz h1 h2
    refine lv_imul hx hb hd ?_
    exact kk H locs rls hl hll hP hS hz h1 h2
  · cases hh
theorem x_iand (hh : a_exec mi .iand len npc ls st h = some c') (hd : decode (codT mi) pc = .ok (.iand, len)) (hn : npc = pc + len) (X : a_X p R s m args meth c base ex cA D scr mi) (kk : a_W p l e R s m args below meth c Q base ex cA D n0 z0 mi c') : a_W p l e R s m args below meth c Q base ex cA D n0 z0 mi (pc, ls, st, h) := by
  obtain ⟨hx, hb, hml, hown, hts, hE, hR, hin, hsc⟩ := X
  simp only [a_exec] at hh
  split at hh
  · cases hh
    subst hn
    intro H locs rls hl hll hP hS hz h1 h2
    refine lv_iand hx hb hd ?_
    exact kk H locs rls hl hll hP hS hz h1 h2
  · cases hh
theorem x_ior (hh : a_exec mi .ior len npc ls st h = some c') (hd : decode (codT mi) pc = .ok (.ior, len)) (hn : npc = pc + len) (X : a_X p R s m args meth c base ex cA D scr mi) (kk : a_W p l e R s m args below meth c Q base ex cA D n0 z0 mi c') : a_W p l e R s m args below meth c Q base ex cA D n0 z0 mi (pc, ls, st, h) := by
  obtain ⟨hx, hb, hml, hown, hts, hE, hR, hin, hsc⟩ := X
  simp only [a_exec] at hh
  split at hh
  · cases hh
    subst hn
    intro H locs rls hl hll hP hS hz h1 h2
    refine lv_ior hx hb hd ?_
    exact kk H locs rls hl hll hP hS hz h1 h2
  · cases hh
theorem x_ixor (hh : a_exec mi .ixor len npc ls st h = some c') (hd : decode (codT mi) pc = .ok (.ixor, len)) (hn : npc = pc + len) (X : a_X p R s m args meth c base ex cA D scr mi) (kk : a_W p l e R s m args below meth c Q base ex cA D n0 z0 mi c') : a_W p l e R s m args below meth c Q base ex cA D n0 z0 mi (pc, ls, st, h) := by
  obtain ⟨hx, hb, hml, hown, hts, hE, hR, hin, hsc⟩ := X
  simp only [a_exec] at hh
  split at hh
  · cases hh
    subst hn
    intro H locs rls hl hll hP hS hz h1 h2
    refine lv_ixor hx hb hd ?_
    exact kk H locs rls hl hll hP hS hz h1 h2
  · cases hh
theorem x_ishl (hh : a_exec mi .ishl len npc ls st h = some c') (hd : decode (codT mi) pc = .ok (.ishl, len)) (hn : npc = pc + len) (X : a_X p R s m args meth c base ex cA D scr mi) (kk : a_W p l e R s m args below meth c Q base ex cA D n0 z0 mi c') : a_W p l e R s m args below meth c Q base ex cA D n0 z0 mi (pc, ls, st, h) := by
  obtain ⟨hx, hb, hml, hown, hts, hE, hR, hin, hsc⟩ := X
  simp only [a_exec] at hh
  split at hh
  · cases hh
    subst hn
    intro H locs rls hl hll hP hS hz h1 h2
    refine lv_ishl hx hb hd ?_
    exact kk H locs rls hl hll hP hS hz h1 h2
  · cases hh
theorem x_ishr (hh : a_exec mi .ishr len npc ls st h = some c') (hd : decode (codT mi) pc = .ok (.ishr, len)) (hn : npc = pc + len) (X : a_X p R s m args meth c base ex cA D scr mi) (kk : a_W p l e R s m args below meth c Q base ex cA D n0 z0 mi c') : a_W p l e R s m args below meth c Q base ex cA D n0 z0 mi (pc, ls, st, h) := by
  obtain ⟨hx, hb, hml, hown, hts, hE, hR, hin, hsc⟩ := X
  simp only [a_exec] at hh
  split at hh
  · cases hh
    subst hn
    intro H locs rls hl hll hP hS hz h1 h2
    refine lv_ishr hx hb hd ?_
    exact kk H locs rls hl hll hP hS hz h1 h2
  · cases hh
theorem x_iushr (hh : a_exec mi .iushr len npc ls st h = some c') (hd : decode (codT mi) pc = .ok (.iushr, len)) (hn : npc = pc + len) (X : a_X p R s m args meth c base ex cA D scr mi) (kk : a_W p l e R s m args below meth c Q base ex cA D n0 z0 mi c') : a_W p l e R s m args below meth c Q base ex cA D n0 z0 mi (pc, ls, st, h) := by
  obtain ⟨hx, hb, hml, hown, hts, hE, hR, hin, hsc⟩ := X
  simp only [a_exec] at hh
  split at hh
  · cases hh
    subst hn
    intro H locs rls hl hll hP hS hz h1 h2
    refine lv_iushr hx hb hd rfl ?_
    exact kk H locs rls hl hll hP hS hz h1 h2
  · cases hh
theorem x_ladd (hh : a_exec mi .ladd len npc ls st h = some c') (hd : decode (codT mi) pc = .ok (.ladd, len)) (hn : npc = pc + len) (X : a_X p R s m args meth c base ex cA D scr mi) (kk : a_W p l e R s m args below meth c Q base ex cA D n0 z0 mi c') : a_W p l e R s m args below meth c Q base ex cA D n0 z0 mi (pc, ls, st, h) := by
  obtain ⟨hx, hb, hml, hown, hts, hE, hR, hin, hsc⟩ := X
  simp only [a_exec] at hh
  split at hh
  · cases hh
    subst hn
    intro H locs rls hl hll hP hS hz h1 h2
    refine lv_ladd hx hb hd ?_
    exact kk H locs rls hl hll hP hS hz h1 h2
  · cases hh
theorem x_lmul (hh : a_exec mi .lmul len npc ls st h = some c') (hd : decode (codT mi) pc = .ok (.lmul, len)) (hn : npc = pc + len) (X : a_X p R s m args meth c base ex cA D scr mi) (kk : a_W p l e R s m args below meth c Q base ex cA D n0 z0 mi c') : a_W p l e R s m args below meth c Q base ex cA D n0 z0 mi (pc, ls, st, h) := by
  obtain ⟨hx, hb, hml, hown, hts, hE, hR, hin, hsc⟩ := X
  simp only [a_exec] at hh
  split at hh
  · cases hh
    subst hn
    intro H locs rls hl hll hP hS hz h1 h2
    refine lv_lmul hx hb hd ?_
    exact kk H locs rls hl hll hP hS hz h1 h2
  · cases hh
theorem x_land (hh : a_exec mi .land len npc ls st h = some c') (hd : decode (codT mi) pc = .ok (.land, len)) (hn : npc = pc + len) (X : a_X p R s m args meth c base ex cA D scr mi) (kk : a_W p l e R s m args below meth c Q base ex cA D n0 z0 mi c') : a_W p l e R s m args below meth c Q base ex cA D n0 z0 mi (pc, ls, st, h) := by
  obtain ⟨hx, hb, hml, hown, hts, hE, hR, hin, hsc⟩ := X
  simp only [a_exec] at hh
  split at hh
  · cases hh
    subst hn
    intro H locs rls hl hll hP hS hz h1 h2
    refine lv_land hx hb hd ?_
    exact kk H locs rls hl hll hP hS hz h1 h2
  · cases hh
theorem x_lor (hh : a_exec mi .lor len npc ls st h = some c') (hd : decode (codT mi) pc = .ok (.lor, len)) (hn : npc = pc + len) (X : a_X p R s m args meth c base ex cA D scr mi) (kk : a_W p l e R s m args below meth c Q base ex cA D n0 z0 mi c') : a_W p l e R s m args below meth c Q base ex cA D n0 z0 mi (pc, ls, st, h) := by
  obtain ⟨hx, hb, hml, hown, hts, hE, hR, hin, hsc⟩ := X
  simp only [a_exec] at hh
  split at hh
  · cases hh
    subst hn
    intro H locs rls hl hll hP hS hz h1 h2
    refine lv_lor hx hb hd ?_
    exact kk H locs rls hl hll hP hS hz h1 h2
  · cases hh
theorem x_lshl (hh : a_exec mi .lshl len npc ls st h = some c') (hd : decode (codT mi) pc = .ok (.lshl, len)) (hn : npc = pc + len) (X : a_X p R s m args meth c base ex cA D scr mi) (kk : a_W p l e R s m args below meth c Q base ex cA D n0 z0 mi c') : a_W p l e R s m args below meth c Q base ex cA D n0 z0 mi (pc, ls, st, h) := by
  obtain ⟨hx, hb, hml, hown, hts, hE, hR, hin, hsc⟩ := X
  simp only [a_exec] at hh
  split at hh
  · cases hh
    subst hn
    intro H locs rls hl hll hP hS hz h1 h2
    refine lv_lshl hx hb hd rfl ?_
    exact kk H locs rls hl hll hP hS hz h1 h2
  · cases hh
theorem x_lshr (hh : a_exec mi .lshr len npc ls st h = some c') (hd : decode (codT mi) pc = .ok (.lshr, len)) (hn : npc = pc + len) (X : a_X p R s m args meth c base ex cA D scr mi) (kk : a_W p l e R s m args below meth c Q base ex cA D n0 z0 mi c') : a_W p l e R s m args below meth c Q base ex cA D n0 z0 mi (pc, ls, st, h) := by
  obtain ⟨hx, hb, hml, hown, hts, hE, hR, hin, hsc⟩ := X
  simp only [a_exec] at hh
  split at hh
  · cases hh
    subst hn
    intro H locs rls hl hll hP hS hz h1 h2
    refine lv_lshr hx hb hd rfl ?_
    exact kk H locs rls hl hll hP hS hz h1 h2
  · cases hh
theorem x_lcmp (hh : a_exec mi .lcmp len npc ls st h = some c') (hd : decode (codT mi) pc = .ok (.lcmp, len)) (hn : npc = pc + len) (X : a_X p R s m args meth c base ex cA D scr mi) (kk : a_W p l e R s m args below meth c Q base ex cA D n0 z0 mi c') : a_W p l e R s m args below meth c Q base ex cA D n0 z0 mi (pc, ls, st, h) := by
  obtain ⟨hx, hb, hml, hown, hts, hE, hR, hin, hsc⟩ := X
  simp only [a_exec] at hh
  split at hh
  · cases hh
    subst hn
    intro H locs rls hl hll hP hS hz h1 h2
    refine W.lcmp hx hb hd ?_
    exact kk H locs rls hl hll hP hS hz h1 h2
  · cases hh
theorem x_i2l (hh : a_exec mi .i2l len npc ls st h = some c') (hd : decode (codT mi) pc = .ok (.i2l, len)) (hn : npc = pc + len) (X : a_X p R s m args meth c base ex cA D scr mi) (kk : a_W p l e R s m args below meth c Q base ex cA D n0 z0 mi c') : a_W p l e R s m args below meth c Q base ex cA D n0 z0 mi (pc, ls, st, h) := by
  obtain ⟨hx, hb, hml, hown, hts, hE, hR, hin, hsc⟩ := X
  simp only [a_exec] at hh
  split at hh
  · cases hh
    subst hn
    intro H locs rls hl hll hP hS hz h1 h2
    refine lv_i2l hx hb hd rfl ?_
    exact kk H locs rls hl hll hP hS hz h1 h2
  · cases hh
theorem x_l2i (hh : a_exec mi .l2i len npc ls st h = some c') (hd : decode (codT mi) pc = .ok (.l2i, len)) (hn : npc = pc + len) (X : a_X p R s m args meth c base ex cA D scr mi) (kk : a_W p l e R s m args below meth c Q base ex cA D n0 z0 mi c') : a_W p l e R s m args below meth c Q base ex cA D n0 z0 mi (pc, ls, st, h) := by
  obtain ⟨hx, hb, hml, hown, hts, hE, hR, hin, hsc⟩ := X
  simp only [a_exec] at hh
  split at hh
  · cases hh
    subst hn
    intro H locs rls hl hll hP hS hz h1 h2
    refine lv_l2i hx hb hd rfl ?_
    exact kk H locs rls hl hll hP hS hz h1 h2
  · cases hh
theorem x_i2b (hh : a_exec mi .i2b len npc ls st h = some c') (hd : decode (codT mi) pc = .ok (.i2b, len)) (hn : npc = pc + len) (X : a_X p R s m args meth c base ex cA D scr mi) (kk : a_W p l e R s m args below meth c Q base ex cA D n0 z0 mi c') : a_W p l e R s m args below meth c Q base ex cA D n0 z0 mi (pc, ls, st, h) := by
  obtain ⟨hx, hb, hml, hown, hts, hE, hR, hin, hsc⟩ := X
  simp only [a_exec] at hh
  split at hh
  · cases hh
    subst hn
    intro H locs rls hl hll hP hS hz h1 h2
    refine lv_i2b hx hb hd rfl ?_
    exact kk H locs rls hl hll hP hS hz h1 h2
  · cases hh
theorem x_i2c (hh : a_exec mi .i2c len npc ls st h = some c') (hd : decode (codT mi) pc = .ok (.i2c, len)) (hn : npc = pc + len) (X : a_X p R s m args meth c base ex cA D scr mi) (kk : a_W p l e R s m args below meth c Q base ex cA D n0 z0 mi c') : a_W p l e R s m args below meth c Q base ex cA D n0 z0 mi (pc, ls, st, h) := by
  obtain ⟨hx, hb, hml, hown, hts, hE, hR, hin, hsc⟩ := X
  simp only [a_exec] at hh
  split at hh
  · cases hh
    subst hn
    intro H locs rls hl hll hP hS hz h1 h2
    refine lv_i2c hx hb hd rfl ?_
    exact kk H locs rls hl hll hP hS hz h1 h2
  · cases hh
theorem x_pop (hh : a_exec mi .pop len npc ls st h = some c') (hd : decode (codT mi) pc = .ok (.pop, len)) (hn : npc = pc + len) (X : a_X p R s m args meth c base ex cA D scr mi) (kk : a_W p l e R s m args below meth c Q base ex cA D n0 z0 mi c') : a_W p l e R s m args below meth c Q base ex cA D n0 z0 mi (pc, ls, st, h) := by
  obtain ⟨hx, hb, hml, hown, hts, hE, hR, hin, hsc⟩ := X
  simp only [a_exec] at hh
  split at hh
  · cases hh
    subst hn
    intro H locs rls hl hll hP hS hz h1 h2
    refine lv_pop hx hb hd rfl ?_
    exact kk H locs rls hl hll hP hS hz h1 h2
  · cases hh
theorem x_dup (hh : a_exec mi .dup len npc ls st h = some c') (hd : decode (codT mi) pc = .ok (.dup, len)) (hn : npc = pc + len) (X : a_X p R s m args meth c base ex cA D scr mi) (kk : a_W p l e R s m args below meth c Q base ex cA D n0 z0 mi c') : a_W p l e R s m args below meth c Q base ex cA D n0 z0 mi (pc, ls, st, h) := by
  obtain ⟨hx, hb, hml, hown, hts, hE, hR, hin, hsc⟩ := X
  simp only [a_exec] at hh
  split at hh
  · cases hh
    subst hn
    intro H locs rls hl hll hP hS hz h1 h2
    refine lv_dup hx hb hd rfl ?_
    exact kk H locs rls hl hll hP hS hz h1 h2
  · cases hh
    subst hn
    intro H locs rls hl hll hP hS hz h1 h2
    refine lv_dup hx hb hd rfl ?_
    exact kk H locs rls hl hll hP hS hz h1 h2
  · cases hh
theorem x_dup2 (hh : a_exec mi .dup2 len npc ls st h = some c') (hd : decode (codT mi) pc = .ok (.dup2, len)) (hn : npc = pc + len) (X : a_X p R s m args meth c base ex cA D scr mi) (kk : a_W p l e R s m args below meth c Q base ex cA D n0 z0 mi c') : a_W p l e R s m args below meth c Q base ex cA D n0 z0 mi (pc, ls, st, h) := by
  obtain ⟨hx, hb, hml, hown, hts, hE, hR, hin, hsc⟩ := X
  simp only [a_exec] at hh
  split at hh
  · cases hh
    subst hn
    intro H locs rls hl hll hP hS hz h1 h2
    refine lv_dup2_11 hx hb hd rfl rfl ?_
    exact kk H locs rls hl hll hP hS hz h1 h2
  · cases hh
theorem x_aload_n {k : Fin 4} (hh : a_exec mi (.aload_n k) len npc ls st h = some c') (hd : decode (codT mi) pc = .ok ((.aload_n k), len)) (hn : npc = pc + len) (X : a_X p R s m args meth c base ex cA D scr mi) (kk : a_W p l e R s m args below meth c Q base ex cA D n0 z0 mi c') : a_W p l e R s m args below meth c Q base ex cA D n0 z0 mi (pc, ls, st, h) := by
  obtain ⟨hx, hb, hml, hown, hts, hE, hR, hin, hsc⟩ := X
  simp only [a_exec] at hh
  split at hh
  · rename_i hq
    cases hh
    subst hn
    intro H locs rls hl hll hP hS hz h1 h2
    have hg := a_lv_get hl hq
    refine lv_aload_n hx hb hd rfl hg ?_
    exact kk H locs rls hl hll hP hS hz h1 h2
  · rename_i hq
    cases hh
    subst hn
    intro H locs rls hl hll hP hS hz h1 h2
    have hg := a_lv_get hl hq
    refine lv_aload_n hx hb hd rfl hg ?_
    exact kk H locs rls hl hll hP hS hz h1 h2
  · cases hh
theorem x_aload {k : Nat} (hh : a_exec mi (.aload k) len npc ls st h = some c') (hd : decode (codT mi) pc = .ok ((.aload k), len)) (hn : npc = pc + len) (X : a_X p R s m args meth c base ex cA D scr mi) (kk : a_W p l e R s m args below meth c Q base ex cA D n0 z0 mi c') : a_W p l e R s m args below meth c Q base ex cA D n0 z0 mi (pc, ls, st, h) := by
  obtain ⟨hx, hb, hml, hown, hts, hE, hR, hin, hsc⟩ := X
  simp only [a_exec] at hh
  split at hh
  · rename_i hq
    cases hh
    subst hn
    intro H locs rls hl hll hP hS hz h1 h2
    have hg := a_lv_get hl hq
    refine lv_aload hx hb hd hg ?_
    exact kk H locs rls hl hll hP hS hz h1 h2
  · rename_i hq
    cases hh
    subst hn
    intro H locs rls hl hll hP hS hz h1 h2
    have hg := a_lv_get hl hq
    refine lv_aload hx hb hd hg ?_
    exact kk H locs rls hl hll hP hS hz h1 h2
  · cases hh
theorem x_iload_n {k : Fin 4} (hh : a_exec mi (.iload_n k) len npc ls st h = some c') (hd : decode (codT mi) pc = .ok ((.iload_n k), len)) (hn : npc = pc + len) (X : a_X p R s m args meth c base ex cA D scr mi) (kk : a_W p l e R s m args below meth c Q base ex cA D n0 z0 mi c') : a_W p l e R s m args below meth c Q base ex cA D n0 z0 mi (pc, ls, st, h) := by
  obtain ⟨hx, hb, hml, hown, hts, hE, hR, hin, hsc⟩ := X
  simp only [a_exec] at hh
  split at hh
  · rename_i hq
    cases hh
    subst hn
    intro H locs rls hl hll hP hS hz h1 h2
    have hg := a_lv_get hl hq
    refine lv_iload_n hx hb hd rfl hg ?_
    exact kk H locs rls hl hll hP hS hz h1 h2
  · cases hh
theorem x_iload {k : Nat} (hh : a_exec mi (.iload k) len npc ls st h = some c') (hd : decode (codT mi) pc = .ok ((.iload k), len)) (hn : npc = pc + len) (X : a_X p R s m args meth c base ex cA D scr mi) (kk : a_W p l e R s m args below meth c Q base ex cA D n0 z0 mi c') : a_W p l e R s m args below meth c Q base ex cA D n0 z0 mi (pc, ls, st, h) := by
  obtain ⟨hx, hb, hml, hown, hts, hE, hR, hin, hsc⟩ := X
  simp only [a_exec] at hh
  split at hh
  · rename_i hq
    cases hh
    subst hn
    intro H locs rls hl hll hP hS hz h1 h2
    have hg := a_lv_get hl hq
    refine lv_iload hx hb hd hg ?_
    exact kk H locs rls hl hll hP hS hz h1 h2
  · cases hh
theorem x_lload_n {k : Fin 4} (hh : a_exec mi (.lload_n k) len npc ls st h = some c') (hd : decode (codT mi) pc = .ok ((.lload_n k), len)) (hn : npc = pc + len) (X : a_X p R s m args meth c base ex cA D scr mi) (kk : a_W p l e R s m args below meth c Q base ex cA D n0 z0 mi c') : a_W p l e R s m args below meth c Q base ex cA D n0 z0 mi (pc, ls, st, h) := by
  obtain ⟨hx, hb, hml, hown, hts, hE, hR, hin, hsc⟩ := X
  simp only [a_exec] at hh
  split at hh
  · rename_i hq
    cases hh
    subst hn
    intro H locs rls hl hll hP hS hz h1 h2
    have hg := a_lv_get hl hq
    refine lv_lload_n hx hb hd rfl hg ?_
    exact kk H locs rls hl hll hP hS hz h1 h2
  · cases hh
theorem x_lload {k : Nat} (hh : a_exec mi (.lload k) len npc ls st h = some c') (hd : decode (codT mi) pc = .ok ((.lload k), len)) (hn : npc = pc + len) (X : a_X p R s m args meth c base ex cA D scr mi) (kk : a_W p l e R s m args below meth c Q base ex cA D n0 z0 mi c') : a_W p l e R s m args below meth c Q base ex cA D n0 z0 mi (pc, ls, st, h) := by
  obtain ⟨hx, hb, hml, hown, hts, hE, hR, hin, hsc⟩ := X
  simp only [a_exec] at hh
  split at hh
  · rename_i hq
    cases hh
    subst hn
    intro H locs rls hl hll hP hS hz h1 h2
    have hg := a_lv_get hl hq
    refine lv_lload hx hb hd hg ?_
    exact kk H locs rls hl hll hP hS hz h1 h2
  · cases hh
theorem x_istore_n {k : Fin 4} (hh : a_exec mi (.istore_n k) len npc ls st h = some c') (hd : decode (codT mi) pc = .ok ((.istore_n k), len)) (hn : npc = pc + len) (X : a_X p R s m args meth c base ex cA D scr mi) (kk : a_W p l e R s m args below meth c Q base ex cA D n0 z0 mi c') : a_W p l e R s m args below meth c Q base ex cA D n0 z0 mi (pc, ls, st, h) := by
  obtain ⟨hx, hb, hml, hown, hts, hE, hR, hin, hsc⟩ := X
  simp only [a_exec] at hh
  split at hh
  · obtain ⟨hi, ls', hk, hlen, hmem⟩ := a_st1_some hh
    cases hk
    subst hn
    intro H locs rls hl hll hP hS hz h1 h2
    have hll' : ls.length = nlT mi := hll
    refine lv_istore_n hx hb hd rfl hl (by omega) rfl (fun rls' hl' => ?_)
    exact kk H locs rls' (a_lv_mono hl' (a_las_st1 hmem)) (hlen.trans hll') hP hS hz h1 h2
  · cases hh
theorem x_istore {k : Nat} (hh : a_exec mi (.istore k) len npc ls st h = some c') (hd : decode (codT mi) pc = .ok ((.istore k), len)) (hn : npc = pc + len) (X : a_X p R s m args meth c base ex cA D scr mi) (kk : a_W p l e R s m args below meth c Q base ex cA D n0 z0 mi c') : a_W p l e R s m args below meth c Q base ex cA D n0 z0 mi (pc, ls, st, h) := by
  obtain ⟨hx, hb, hml, hown, hts, hE, hR, hin, hsc⟩ := X
  simp only [a_exec] at hh
  split at hh
  · obtain ⟨hi, ls', hk, hlen, hmem⟩ := a_st1_some hh
    cases hk
    subst hn
    intro H locs rls hl hll hP hS hz h1 h2
    have hll' : ls.length = nlT mi := hll
    refine lv_istore hx hb hd hl (by omega) rfl (fun rls' hl' => ?_)
    exact kk H locs rls' (a_lv_mono hl' (a_las_st1 hmem)) (hlen.trans hll') hP hS hz h1 h2
  · cases hh
theorem x_astore_n {k : Fin 4} (hh : a_exec mi (.astore_n k) len npc ls st h = some c') (hd : decode (codT mi) pc = .ok ((.astore_n k), len)) (hn : npc = pc + len) (X : a_X p R s m args meth c base ex cA D scr mi) (kk : a_W p l e R s m args below meth c Q base ex cA D n0 z0 mi c') : a_W p l e R s m args below meth c Q base ex cA D n0 z0 mi (pc, ls, st, h) := by
  obtain ⟨hx, hb, hml, hown, hts, hE, hR, hin, hsc⟩ := X
  simp only [a_exec] at hh
  split at hh
  · obtain ⟨hi, ls', hk, hlen, hmem⟩ := a_st1_some hh
    cases hk
    subst hn
    intro H locs rls hl hll hP hS hz h1 h2
    have hll' : ls.length = nlT mi := hll
    refine lv_astore_n hx hb hd rfl hl (by omega) rfl (fun rls' hl' => ?_)
    exact kk H locs rls' (a_lv_mono hl' (a_las_st1 hmem)) (hlen.trans hll') hP hS hz h1 h2
  · cases hh
theorem x_lstore_n {k : Fin 4} (hh : a_exec mi (.lstore_n k) len npc ls st h = some c') (hd : decode (codT mi) pc = .ok ((.lstore_n k), len)) (hn : npc = pc + len) (X : a_X p R s m args meth c base ex cA D scr mi) (kk : a_W p l e R s m args below meth c Q base ex cA D n0 z0 mi c') : a_W p l e R s m args below meth c Q base ex cA D n0 z0 mi (pc, ls, st, h) := by
  obtain ⟨hx, hb, hml, hown, hts, hE, hR, hin, hsc⟩ := X
  simp only [a_exec] at hh
  split at hh
  · obtain ⟨hi, ls', hk, hlen, hmem⟩ := a_st2_some hh
    cases hk
    subst hn
    intro H locs rls hl hll hP hS hz h1 h2
    have hll' : ls.length = nlT mi := hll
    refine lv_lstore_n hx hb hd rfl hl (by omega) rfl (fun rls' hl' => ?_)
    exact kk H locs rls' (a_lv_mono hl' (a_las_st2 hmem)) (hlen.trans hll') hP hS hz h1 h2
  · cases hh
theorem x_lstore {k : Nat} (hh : a_exec mi (.lstore k) len npc ls st h = some c') (hd : decode (codT mi) pc = .ok ((.lstore k), len)) (hn : npc = pc + len) (X : a_X p R s m args meth c base ex cA D scr mi) (kk : a_W p l e R s m args below meth c Q base ex cA D n0 z0 mi c') : a_W p l e R s m args below meth c Q base ex cA D n0 z0 mi (pc, ls, st, h) := by
  obtain ⟨hx, hb, hml, hown, hts, hE, hR, hin, hsc⟩ := X
  simp only [a_exec] at hh
  split at hh
  · obtain ⟨hi, ls', hk, hlen, hmem⟩ := a_st2_some hh
    cases hk
    subst hn
    intro H locs rls hl hll hP hS hz h1 h2
    have hll' : ls.length = nlT mi := hll
    refine lv_lstore hx hb hd hl (by omega) rfl (fun rls' hl' => ?_)
    exact kk H locs rls' (a_lv_mono hl' (a_las_st2 hmem)) (hlen.trans hll') hP hS hz h1 h2
  · cases hh
theorem a_k_eq (n : Int) : Int32.ofInt n = a_k n := by
  cases n with
  | ofNat k => exact Int32.ofInt_eq_ofNat
  | negSucc k => rfl
theorem a_b_eq : ∀ k, k < 128 → (Int8.ofInt (Int.ofNat k)).toInt32 = nI k := by decide +kernel
theorem a_bn_eq : ∀ k, k < 128 → (Int8.ofInt (Int.negSucc k)).toInt32 = a_k (Int.negSucc k) := by decide +kernel
theorem a_s_eq : ∀ k, k < 401 → (Int16.ofInt (Int.ofNat k)).toInt32 = nI k := by decide +kernel
theorem a_cond_some {α : Type} {b : Bool} {x y : α} (h : cond b (some x) none = some y) : b = true ∧ x = y := by
  cases b with
  | false => cases h
  | true => cases h; exact ⟨rfl, rfl⟩
theorem x_iinc {k : Nat} {n : Int} (hh : a_exec mi (.iinc k n) len npc ls st h = some c') (hd : decode (codT mi) pc = .ok ((.iinc k n), len)) (hn : npc = pc + len) (X : a_X p R s m args meth c base ex cA D scr mi) (kk : a_W p l e R s m args below meth c Q base ex cA D n0 z0 mi c') : a_W p l e R s m args below meth c Q base ex cA D n0 z0 mi (pc, ls, st, h) := by
  obtain ⟨hx, hb, hml, hown, hts, hE, hR, hin, hsc⟩ := X
  simp only [a_exec] at hh
  split at hh
  · rename_i x hq
    rw [a_kk_eq] at hh
    obtain ⟨hi, ls', hk, hlen, hmem⟩ := a_st1_some hh
    cases hk
    subst hn
    intro H locs rls hl hll hP hS hz h1 h2
    have hll' : ls.length = nlT mi := hll
    have hg : ∃ j : Nat, (a_las base ex 0 ls)[j]? = some (k, Value.int x) := by
      have h1 : ls[k]? = some (some (.int x)) := by
        rw [← a_nth_eq]
        unfold a_ld at hq
        split at hq
        · rename_i w e
          cases hq
          exact e
        · cases hq
      exact List.getElem?_of_mem ((a_las_mem base ex ls 0 k _).mpr ⟨k, .int x, by omega, h1, rfl⟩)
    obtain ⟨j, hj⟩ := hg
    refine lv_iinc hx hb hd hl hj (by rw [a_k_eq]) (by omega) rfl (fun rls' hl' => ?_)
    exact kk H locs rls' (a_lv_mono hl' (a_las_st1 hmem)) (hlen.trans hll') hP hS hz h1 h2
  · cases hh
theorem x_iconst {n : Int} (hh : a_exec mi (.iconst n) len npc ls st h = some c') (hd : decode (codT mi) pc = .ok ((.iconst n), len)) (hn : npc = pc + len) (X : a_X p R s m args meth c base ex cA D scr mi) (kk : a_W p l e R s m args below meth c Q base ex cA D n0 z0 mi c') : a_W p l e R s m args below meth c Q base ex cA D n0 z0 mi (pc, ls, st, h) := by
  obtain ⟨hx, hb, hml, hown, hts, hE, hR, hin, hsc⟩ := X
  simp only [a_exec] at hh
  split at hh
  · rw [a_kk_eq] at hh
    cases hh
    subst hn
    intro H locs rls hl hll hP hS hz h1 h2
    refine lv_iconst hx hb hd (a_k_eq n) ?_
    exact kk H locs rls hl hll hP hS hz h1 h2
  · cases hh
theorem x_bipush {n : Int} (hh : a_exec mi (.bipush n) len npc ls st h = some c') (hd : decode (codT mi) pc = .ok ((.bipush n), len)) (hn : npc = pc + len) (X : a_X p R s m args meth c base ex cA D scr mi) (kk : a_W p l e R s m args below meth c Q base ex cA D n0 z0 mi c') : a_W p l e R s m args below meth c Q base ex cA D n0 z0 mi (pc, ls, st, h) := by
  obtain ⟨hx, hb, hml, hown, hts, hE, hR, hin, hsc⟩ := X
  simp only [a_exec] at hh
  split at hh
  · obtain ⟨hb9, hc⟩ := a_cond_some hh
    cases hc
    subst hn
    intro H locs rls hl hll hP hS hz h1 h2
    refine lv_bipush hx hb hd (a_b_eq _ (Nat.lt_succ_of_le (Nat.le_of_ble_eq_true hb9))) ?_
    exact kk H locs rls hl hll hP hS hz h1 h2
  · obtain ⟨hb9, hc⟩ := a_cond_some hh
    cases hc
    subst hn
    intro H locs rls hl hll hP hS hz h1 h2
    refine lv_bipush hx hb hd (a_bn_eq _ (Nat.lt_succ_of_le (Nat.le_of_ble_eq_true hb9))) ?_
    exact kk H locs rls hl hll hP hS hz h1 h2
  · cases hh
theorem x_sipush {n : Int} (hh : a_exec mi (.sipush n) len npc ls st h = some c') (hd : decode (codT mi) pc = .ok ((.sipush n), len)) (hn : npc = pc + len) (X : a_X p R s m args meth c base ex cA D scr mi) (kk : a_W p l e R s m args below meth c Q base ex cA D n0 z0 mi c') : a_W p l e R s m args below meth c Q base ex cA D n0 z0 mi (pc, ls, st, h) := by
  obtain ⟨hx, hb, hml, hown, hts, hE, hR, hin, hsc⟩ := X
  simp only [a_exec] at hh
  split at hh
  · obtain ⟨hb9, hc⟩ := a_cond_some hh
    cases hc
    subst hn
    intro H locs rls hl hll hP hS hz h1 h2
    refine lv_sipush hx hb hd (a_s_eq _ (Nat.lt_succ_of_le (Nat.le_of_ble_eq_true hb9))) ?_
    exact kk H locs rls hl hll hP hS hz h1 h2
  · cases hh
theorem x_lconst {n : Fin 2} (hh : a_exec mi (.lconst n) len npc ls st h = some c') (hd : decode (codT mi) pc = .ok ((.lconst n), len)) (hn : npc = pc + len) (X : a_X p R s m args meth c base ex cA D scr mi) (kk : a_W p l e R s m args below meth c Q base ex cA D n0 z0 mi c') : a_W p l e R s m args below meth c Q base ex cA D n0 z0 mi (pc, ls, st, h) := by
  obtain ⟨hx, hb, hml, hown, hts, hE, hR, hin, hsc⟩ := X
  simp only [a_exec] at hh
  split at hh
  · cases hh
    subst hn
    intro H locs rls hl hll hP hS hz h1 h2
    refine lv_lconst hx hb hd rfl ?_
    exact kk H locs rls hl hll hP hS hz h1 h2
  · cases hh
theorem x_ldc {k : Nat} (hh : a_exec mi (.ldc k) len npc ls st h = some c') (hd : decode (codT mi) pc = .ok ((.ldc k), len)) (hn : npc = pc + len) (X : a_X p R s m args meth c base ex cA D scr mi) (kk : a_W p l e R s m args below meth c Q base ex cA D n0 z0 mi c') : a_W p l e R s m args below meth c Q base ex cA D n0 z0 mi (pc, ls, st, h) := by
  obtain ⟨hx, hb, hml, hown, hts, hE, hR, hin, hsc⟩ := X
  simp only [a_exec] at hh
  split at hh
  · rw [a_kk_eq] at hh
    cases hh
    subst hn
    intro H locs rls hl hll hP hS hz h1 h2
    refine lv_ldc hx hb hown (hts _ (kT_ok _ _ _ (by assumption))) hd ?_
    exact kk H locs rls hl hll hP hS hz h1 h2
  · rename_i j _ hk
    cases hh
    subst hn
    intro H locs rls hl hll hP hS hz h1 h2
    obtain ⟨t, ht, hR9⟩ := sT_ok _ _ _ hk
    have hj : j < 4 := (List.getElem?_eq_some_iff.mp ht).1
    have hu : (UInt32.ofNat j).toNat = j := by rw [UInt32.toNat_ofNat']; omega
    have hZ := hE.2.2.2.2.1 j k t ht
    rw [← hR9] at hZ
    have hZ2 : vk_R (RT (ownT mi)) k t (ex (UInt32.ofNat j).toNat) s := by rw [hu]; exact hZ
    refine va_ldcS hx hb hown hZ2 hd ?_
    exact kk H locs rls hl hll hP hS hz h1 h2
  · cases hh
theorem x_ldc_w {k : Nat} (hh : a_exec mi (.ldc_w k) len npc ls st h = some c') (hd : decode (codT mi) pc = .ok ((.ldc_w k), len)) (hn : npc = pc + len) (X : a_X p R s m args meth c base ex cA D scr mi) (kk : a_W p l e R s m args below meth c Q base ex cA D n0 z0 mi c') : a_W p l e R s m args below meth c Q base ex cA D n0 z0 mi (pc, ls, st, h) := by
  obtain ⟨hx, hb, hml, hown, hts, hE, hR, hin, hsc⟩ := X
  simp only [a_exec] at hh
  split at hh
  · rename_i n hk
    rw [a_kk_eq] at hh
    cases hh
    subst hn
    intro H locs rls hl hll hP hS hz h1 h2
    refine lv_ldcw hx hb hown (hts _ (kT_ok _ _ _ hk)) hd ?_
    exact kk H locs rls hl hll hP hS hz h1 h2
  · cases hh
theorem x_ldc2_w {k : Nat} (hh : a_exec mi (.ldc2_w k) len npc ls st h = some c') (hd : decode (codT mi) pc = .ok ((.ldc2_w k), len)) (hn : npc = pc + len) (X : a_X p R s m args meth c base ex cA D scr mi) (kk : a_W p l e R s m args below meth c Q base ex cA D n0 z0 mi c') : a_W p l e R s m args below meth c Q base ex cA D n0 z0 mi (pc, ls, st, h) := by
  obtain ⟨hx, hb, hml, hown, hts, hE, hR, hin, hsc⟩ := X
  simp only [a_exec] at hh
  split at hh
  · rename_i n hk
    rw [a_kkl_eq] at hh
    cases hh
    subst hn
    intro H locs rls hl hll hP hS hz h1 h2
    refine lv_ldc2 hx hb hown (hts _ (lT_ok _ _ _ hk)) hd ?_
    exact kk H locs rls hl hll hP hS hz h1 h2
  · cases hh
theorem x_ifnull {k : Int} (hh : a_exec mi (.ifnull k) len npc ls st h = some c') (hd : decode (codT mi) pc = .ok ((.ifnull k), len)) (hn : npc = pc + len) (X : a_X p R s m args meth c base ex cA D scr mi) (kk : a_W p l e R s m args below meth c Q base ex cA D n0 z0 mi c') : a_W p l e R s m args below meth c Q base ex cA D n0 z0 mi (pc, ls, st, h) := by
  obtain ⟨hx, hb, hml, hown, hts, hE, hR, hin, hsc⟩ := X
  simp only [a_exec] at hh
  split at hh
  · cases hh
    subst hn
    intro H locs rls hl hll hP hS hz h1 h2
    refine lv_ifnull hx hb hd ?_
    exact kk H locs rls hl hll hP hS hz h1 h2
  · cases hh
end

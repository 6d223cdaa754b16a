/-! one instruction of the little machine is one of the machine's: new arrays, divisions, the JDK's own calls; a step -/
section
variable {p : Program} {l : Launch} {e : Env} {R : Room} {s : State} {m : MethodId} {args : Array Value} {below : List Frame} {meth : Method} {c : Code} {Q : State → Prop}
variable {base : Nat} {ex : Nat → Nat} {cA : Nat → ClassId} {D : va_G} {scr : List Int32} {n0 z0 mi : Nat}
variable {len npc pc : Nat} {ls : aL} {st : List Value} {h : aH} {c' : aF} {tg : Option Nat} {b : Bool}
theorem a_rep0 (n j : Nat) : (List.replicate n (0 : Int32)).getD j 0 = 0 := by
  rw [List.getD_eq_getElem?_getD, List.getElem?_replicate]
  split <;> rfl
theorem a_repN (n j : Nat) : (List.replicate n (none : Option Nat)).getD j none = none := by
  rw [List.getD_eq_getElem?_getD, List.getElem?_replicate]
  split <;> rfl
/-- a new cell at the end -/
theorem a_W_app {y : aC} {r : List Value} {sz : Nat} (hy : a_size y = sz) (kk : a_W p l e R s m args below meth c Q base ex cA D n0 z0 mi (npc, ls, r, h ++ [y])) (hz : s.heap.size = base + n0) (h1 : n0 ≤ h.length) (h2 : z0 ≤ a_sl h) {rls : Array Slot} (hl : lv_has rls (nlT mi) (a_las base ex 0 ls)) (hll : ls.length = nlT mi) {H H1 : Heap} {locs : List Loc} (hP : va_P D vwCl (a_wd base ex cA 0 h) H) (hS : va_S (fun q => base ≤ q) s.heap H locs) (z1 : H1.size = H.size + 1) (o1 : ∀ q, q < H.size → H1[q]? = H[q]?) (hat : va_at D vwCl (base + h.length, a_rc base ex cA y) H1) : W p l e R s m args below meth c H1 locs (h.length - n0 + 1) (a_sl h - z0 + sz) Q (F0 m npc rls (r.map (a_rv base ex))) := by
  have := kk H1 locs rls hl hll (a_P_app hP o1 hat) ⟨Nat.le_trans hS.1 (by omega), fun x b1 b2 => (o1 x (Nat.lt_of_lt_of_le b1 hS.1)).trans (hS.2.1 x b1 b2), hS.2.2⟩ hz (by show n0 ≤ (h ++ [_]).length; rw [List.length_append]; omega) (by show z0 ≤ a_sl (h ++ [_]); rw [a_sl_app]; omega)
  simp only [List.length_append, List.length_singleton, a_sl_app, hy] at this
  rw [show h.length + 1 - n0 = h.length - n0 + 1 by omega, show a_sl h + sz - z0 = a_sl h - z0 + sz by omega] at this
  exact this
theorem a_newarr {t : ArrayType} {ty : FieldType} {k : Nat} {n : Int32} {r : List Value} (ht : newarray.typeOf t = ty) (hdv : defaultValue ty = .int 0) (hcb : componentBytes ty ≤ 8) (hk : (a_tys cA)[k]? = some (cA k, ty)) (hprim : ∀ U : State, va_RA U (cA k) ty → U.vm.findClass ("[" ++ ty.toString) = some (cA k)) (hw : Cond.arrayClass ty ∈ a_big) (hv : ¬ n < 0 ∧ n.toNatClampNeg ≤ 1000) (hd : decode (codT mi) pc = .ok (.newarray t, 2)) (X : a_X p R s m args meth c base ex cA D scr mi)
    (hrc : (h ++ [(.inl (k, List.replicate n.toNatClampNeg 0) : aC)]).length - n0 ≤ R.cells) (hrs : a_sl (h ++ [(.inl (k, List.replicate n.toNatClampNeg 0) : aC)]) - z0 ≤ R.slots) (kk : a_W p l e R s m args below meth c Q base ex cA D n0 z0 mi (pc + 2, ls, .ref h.length :: r, h ++ [.inl (k, List.replicate n.toNatClampNeg 0)])) : a_W p l e R s m args below meth c Q base ex cA D n0 z0 mi (pc, ls, .int n :: r, h) := by
  obtain ⟨hx, hb, hml, hown, hts, hE, hR, hin, hsc⟩ := X
  subst ht
  intro H locs rls hl hll hP hS hz h1 h2 T hT X
  have h1 : n0 ≤ h.length := h1
  have h2 : z0 ≤ a_sl h := h2
  have hsz := a_hsz X hT rfl hP hS hz h1
  have hsl : a_size (.inl (k, List.replicate n.toNatClampNeg 0) : aC) = n.toNatClampNeg := List.length_replicate
  rw [List.length_append, List.length_singleton] at hrc
  rw [a_sl_app, hsl] at hrs
  have hbytes : n.toNatClampNeg * componentBytes (newarray.typeOf t) ≤ 536870912 := Nat.le_trans (Nat.mul_le_mul hv.2 hcb) (by decide)
  refine va_newaK (Q := Q) (g := F0 m pc rls ((.int n :: r).map (a_rv base ex))) (rest := r.map (a_rv base ex)) hx hb (hts _ hw) rfl hd rfl hv.1 rfl hbytes (by show h.length - n0 + 1 ≤ R.cells; omega) (by show a_sl h - z0 + n.toNatClampNeg ≤ R.slots; omega) rfl (fun H1 cA' e1 z1 o1 hAr hNm => ?_) T hT X
  have hcA : cA' = cA k := by
    have := hprim s (hE.1.2 _ _ hk).2
    exact Option.some.inj (hNm.symm.trans this)
  subst hcA
  have hat : va_at D vwCl (base + h.length, a_rc base ex cA (.inl (k, List.replicate n.toNatClampNeg 0) : aC)) H1 := by
    show H1[base + h.length]? = some (vp_cell (cA k) ((List.replicate n.toNatClampNeg (0 : Int32)).length, .inl (fun j => (List.replicate n.toNatClampNeg (0 : Int32)).getD j 0)))
    rw [← hsz, e1, vp_cell_i, List.length_replicate, hdv]
    simp only [a_rep0]
  rw [hsz]
  exact a_W_app hsl kk hz h1 h2 hl hll hP hS z1 o1 hat
theorem k_newarray {t : ArrayType} (hh : a_chk scr mi (.newarray t) len npc ls st h = some (b, c')) (hb9 : b = true) (hd : decode (codT mi) pc = .ok (.newarray t, len)) (hn : npc = pc + len) (X : a_X p R s m args meth c base ex cA D scr mi) (hrc : c'.2.2.2.length - n0 ≤ R.cells) (hrs : a_sl c'.2.2.2 - z0 ≤ R.slots) (kk : a_W p l e R s m args below meth c Q base ex cA D n0 z0 mi c') : a_W p l e R s m args below meth c Q base ex cA D n0 z0 mi (pc, ls, st, h) := by
  simp only [a_chk] at hh
  split at hh
  · split at hh
    · cases hh
      subst hn
      exact a_newarr (t := .int) (ty := .int) (k := 0) rfl rfl (by decide) rfl (fun U q => q) a_mbA0 (of_decide_eq_true hb9) hd X hrc hrs kk
    · cases hh
      subst hn
      exact a_newarr (t := .byte) (ty := .byte) (k := 1) rfl rfl (by decide) rfl (fun U q => q) a_mbA1 (of_decide_eq_true hb9) hd X hrc hrs kk
    · cases hh
      subst hn
      exact a_newarr (t := .boolean) (ty := .boolean) (k := 2) rfl rfl (by decide) rfl (fun U q => q) a_mbA2 (of_decide_eq_true hb9) hd X hrc hrs kk
    · cases hh
  · cases hh
theorem k_anewarray {k : Nat} (hh : a_chk scr mi (.anewarray k) len npc ls st h = some (b, c')) (hb9 : b = true) (hd : decode (codT mi) pc = .ok (.anewarray k, len)) (hn : npc = pc + len) (X : a_X p R s m args meth c base ex cA D scr mi) (hrc : c'.2.2.2.length - n0 ≤ R.cells) (hrs : a_sl c'.2.2.2 - z0 ≤ R.slots) (kk : a_W p l e R s m args below meth c Q base ex cA D n0 z0 mi c') : a_W p l e R s m args below meth c Q base ex cA D n0 z0 mi (pc, ls, st, h) := by
  obtain ⟨hx, hb, hml, hown, hts, hE, hR, hin, hsc⟩ := X
  simp only [a_chk] at hh
  split at hh
  · rename_i n r ho
    cases hh
    subst hn
    have hv : ¬ n < 0 ∧ n.toNatClampNeg ≤ 1000 := of_decide_eq_true hb9
    rw [ho] at hown
    intro H locs rls hl hll hP hS hz h1 h2 T hT X
    have h1 : n0 ≤ h.length := h1
    have h2 : z0 ≤ a_sl h := h2
    have hsz := a_hsz X hT rfl hP hS hz h1
    have hsl : a_size (.inr (.inr (List.replicate n.toNatClampNeg none)) : aC) = n.toNatClampNeg := List.length_replicate
    have hrc : (h ++ [(.inr (.inr (List.replicate n.toNatClampNeg none)) : aC)]).length - n0 ≤ R.cells := hrc
    have hrs : a_sl (h ++ [(.inr (.inr (List.replicate n.toNatClampNeg none)) : aC)]) - z0 ≤ R.slots := hrs
    rw [List.length_append, List.length_singleton] at hrc
    rw [a_sl_app, hsl] at hrs
    have hbytes : n.toNatClampNeg * 4 ≤ 536870912 := Nat.le_trans (Nat.mul_le_mul hv.2 (Nat.le_refl 4)) (by decide)
    refine W.anew (Q := Q) (C := "WhitePaw$Moment") (g := F0 m pc rls ((.int n :: r).map (a_rv base ex))) (rest := r.map (a_rv base ex)) hx hb hown (hts _ a_mbC13) (va_AO.use hE.2.2.1) rfl hd rfl hv.1 hbytes (by show h.length - n0 + 1 ≤ R.cells; omega) (by show a_sl h - z0 + n.toNatClampNeg ≤ R.slots; omega) (fun cA' kA comp f1 f2 f3 f4 => ?_) T hT X
    have hcA : cA' = cA 3 := by
      obtain ⟨kA2, comp2, i1, i2, i3, i4⟩ := (hE.1.2 3 _ rfl).2
      exact Option.some.inj (f1.symm.trans i4)
    subst hcA
    generalize hH1 : H.push ({ cls := cA 3, slots := Array.replicate n.toNatClampNeg .null, vm := .none } : Cell) = H1
    have z1 : H1.size = H.size + 1 := by rw [← hH1, Array.size_push]
    have e1 : H1[H.size]? = some (arrV (cA 3) n.toNatClampNeg (fun _ => .null)) := by rw [← hH1, Array.getElem?_push_size, ← arrV_new]
    have o1 : ∀ q : Nat, q < H.size → H1[q]? = H[q]? := fun q hq => by rw [← hH1, Array.getElem?_push, if_neg (Nat.ne_of_lt hq)]
    have hat : va_at D vwCl (base + h.length, a_rc base ex cA (.inr (.inr (List.replicate n.toNatClampNeg none)) : aC)) H1 := by
      show H1[base + h.length]? = some (vp_cell (cA 3) ((List.replicate n.toNatClampNeg (none : Option Nat)).length, .inr (.inr (.inr (.inr (fun j => ((List.replicate n.toNatClampNeg (none : Option Nat)).getD j none).map (fun k => base + k)))))))
      rw [← hsz, e1, vp_cell_q, List.length_replicate]
      simp only [a_repN]
      rfl
    rw [hsz]
    exact a_W_app hsl kk hz h1 h2 hl hll hP hS z1 o1 hat
  · cases hh
theorem k_idiv (hh : a_chk scr mi .idiv len npc ls st h = some (b, c')) (hb9 : b = true) (hd : decode (codT mi) pc = .ok (.idiv, len)) (hn : npc = pc + len) (X : a_X p R s m args meth c base ex cA D scr mi) (kk : a_W p l e R s m args below meth c Q base ex cA D n0 z0 mi c') : a_W p l e R s m args below meth c Q base ex cA D n0 z0 mi (pc, ls, st, h) := by
  obtain ⟨hx, hb, hml, hown, hts, hE, hR, hin, hsc⟩ := X
  simp only [a_chk] at hh
  split at hh
  · cases hh
    subst hn
    intro H locs rls hl hll hP hS hz h1 h2
    exact lv_idiv hx hb hd (of_decide_eq_true hb9) (kk H locs rls hl hll hP hS hz h1 h2)
  · cases hh
theorem k_irem (hh : a_chk scr mi .irem len npc ls st h = some (b, c')) (hb9 : b = true) (hd : decode (codT mi) pc = .ok (.irem, len)) (hn : npc = pc + len) (X : a_X p R s m args meth c base ex cA D scr mi) (kk : a_W p l e R s m args below meth c Q base ex cA D n0 z0 mi c') : a_W p l e R s m args below meth c Q base ex cA D n0 z0 mi (pc, ls, st, h) := by
  obtain ⟨hx, hb, hml, hown, hts, hE, hR, hin, hsc⟩ := X
  simp only [a_chk] at hh
  split at hh
  · cases hh
    subst hn
    intro H locs rls hl hll hP hS hz h1 h2
    exact lv_irem hx hb hd (of_decide_eq_true hb9) (kk H locs rls hl hll hP hS hz h1 h2)
  · cases hh
theorem k_ldiv (hh : a_chk scr mi .ldiv len npc ls st h = some (b, c')) (hb9 : b = true) (hd : decode (codT mi) pc = .ok (.ldiv, len)) (hn : npc = pc + len) (X : a_X p R s m args meth c base ex cA D scr mi) (kk : a_W p l e R s m args below meth c Q base ex cA D n0 z0 mi c') : a_W p l e R s m args below meth c Q base ex cA D n0 z0 mi (pc, ls, st, h) := by
  obtain ⟨hx, hb, hml, hown, hts, hE, hR, hin, hsc⟩ := X
  simp only [a_chk] at hh
  split at hh
  · cases hh
    subst hn
    intro H locs rls hl hll hP hS hz h1 h2
    exact lv_ldiv hx hb hd (of_decide_eq_true hb9) (kk H locs rls hl hll hP hS hz h1 h2)
  · cases hh
theorem k_lrem (hh : a_chk scr mi .lrem len npc ls st h = some (b, c')) (hb9 : b = true) (hd : decode (codT mi) pc = .ok (.lrem, len)) (hn : npc = pc + len) (X : a_X p R s m args meth c base ex cA D scr mi) (kk : a_W p l e R s m args below meth c Q base ex cA D n0 z0 mi c') : a_W p l e R s m args below meth c Q base ex cA D n0 z0 mi (pc, ls, st, h) := by
  obtain ⟨hx, hb, hml, hown, hts, hE, hR, hin, hsc⟩ := X
  simp only [a_chk] at hh
  split at hh
  · cases hh
    subst hn
    intro H locs rls hl hll hP hS hz h1 h2
    exact lv_lrem hx hb hd (of_decide_eq_true hb9) (kk H locs rls hl hll hP hS hz h1 h2)
  · cases hh
theorem a_cat_map {base : Nat} {ex : Nat → Nat} (r : List Value) : ((r.map (a_rv base ex)).map fun v => v.category).sum = (r.map fun v => v.category).sum := by
  rw [List.map_map]
  congr 1
  exact List.map_congr_left fun v _ => a_rv_cat v
theorem a_nat3 {x y z : Nat} {u v w : Nat} (h : (Nat.ble u x && Nat.ble v y && Nat.ble z w) = true) : u ≤ x ∧ v ≤ y ∧ z ≤ w := by
  simp only [Bool.and_eq_true] at h
  exact ⟨Nat.le_of_ble_eq_true h.1.1, Nat.le_of_ble_eq_true h.1.2, Nat.le_of_ble_eq_true h.2⟩
theorem a_cpy_l {l0 l1 : List Int32} (hlen : l0.length = l1.length) : va_cpy (fun j => l0.getD j 0) (fun j => l1.getD j 0) 0 0 l0.length = fun j => l0.getD j 0 := by
  funext j
  show (if 0 ≤ j ∧ j < 0 + l0.length then l0.getD (0 + (j - 0)) 0 else l1.getD j 0) = l0.getD j 0
  by_cases hj : j < l0.length
  · rw [if_pos ⟨Nat.zero_le _, by omega⟩, Nat.zero_add, Nat.sub_zero]
  · rw [if_neg (by omega), List.getD_eq_getElem?_getD, List.getD_eq_getElem?_getD, List.getElem?_eq_none (by omega), List.getElem?_eq_none (by omega)]
theorem k_invokestatic {k : Nat} (hh : a_chk scr mi (.invokestatic k) len npc ls st h = some (b, c')) (hb9 : b = true) (hd : decode (codT mi) pc = .ok (.invokestatic k, len)) (hn : npc = pc + len) (X : a_X p R s m args meth c base ex cA D scr mi) (hrc : c'.2.2.2.length - n0 ≤ R.cells) (hrs : a_sl c'.2.2.2 - z0 ≤ R.slots) (kk : a_W p l e R s m args below meth c Q base ex cA D n0 z0 mi c') : a_W p l e R s m args below meth c Q base ex cA D n0 z0 mi (pc, ls, st, h) := by
  obtain ⟨hx, hb, hml, hown, hts, hE, hR, hin, hsc⟩ := X
  simp only [a_chk] at hh
  split at hh
  · rename_i y x r q9 n9 b8 hc
    cases hh
    subst hn
    obtain ⟨g1, g2, g3, g4⟩ := cT_ok _ _ _ hc
    obtain ⟨f1, f2, f3⟩ := a_nat3 hb9
    intro H locs rls hl hll hP hS hz h1 h2
    refine va_mmax hx hb (hml.trans hl.1.symm) hown (hts _ g1) (hts _ g2) (hts _ g3) (hts _ g4) (by omega) ?_ hrc hrs hd (kk H locs rls hl hll hP hS hz h1 h2)
    rw [a_cat_map]
    omega
  · rename_i y x r q9 n9 b8 hc
    cases hh
    subst hn
    obtain ⟨g1, g2, g3, g4⟩ := cT_ok _ _ _ hc
    obtain ⟨f1, f2, f3⟩ := a_nat3 hb9
    intro H locs rls hl hll hP hS hz h1 h2
    refine va_mmin hx hb (hml.trans hl.1.symm) hown (hts _ g1) (hts _ g2) (hts _ g3) (hts _ g4) (by omega) ?_ hrc hrs hd (kk H locs rls hl hll hP hS hz h1 h2)
    rw [a_cat_map]
    omega
  · rename_i y x r q9 n9 b8 hc
    cases hh
    subst hn
    obtain ⟨g1, g2, g3, g4⟩ := cT_ok _ _ _ hc
    obtain ⟨f1, f2, f3⟩ := a_nat3 hb9
    intro H locs rls hl hll hP hS hz h1 h2
    refine va_mmax_long hx hb (hml.trans hl.1.symm) hown (hts _ g1) (hts _ g2) (hts _ g3) (hts _ g4) (by omega) ?_ hrc hrs hd (kk H locs rls hl hll hP hS hz h1 h2)
    rw [a_cat_map]
    omega
  · rename_i n dp q1 sp q0 r q9 n9 b8 hc
    split at hh
    · rename_i l0 l1 hq0 hq1
      cases hh
      subst hn
      obtain ⟨g1, g2, g3, g4⟩ := cT_ok _ _ _ hc
      rw [Bool.and_eq_true] at hb9
      obtain ⟨hb9, hb8⟩ := hb9
      obtain ⟨f1, f2, f3⟩ := a_nat3 hb9
      obtain ⟨e1, e2, e3, e4, e5⟩ := of_decide_eq_true hb8
      subst e1; subst e2; subst e3
      have hnc : (nI l0.length).toNatClampNeg = l0.length := nI_clamp (by omega)
      have hw5 : nativeFrameWords "java/lang/System" "arraycopy" 5 = 7 := by decide +kernel
      intro H locs rls hl hll hP hS hz h1 h2
      refine va_copyi hx hb (hml.trans hl.1.symm) hown (hts _ g1) (hts _ g2) (hts _ g3) (hts _ g4) hE.1 hP (a_wd_D base ex cA h) hS q0 q1 0 0 (a_wd_at hq0) (a_wd_at hq1) rfl rfl rfl (by decide) (by decide) (nI_pos (by omega)) (by rw [hnc]; show 0 + l0.length ≤ l0.length; omega) (by rw [hnc]; show 0 + l0.length ≤ l1.length; omega) (fun _ _ => rfl) (by omega) (by rw [hw5, a_cat_map]; omega) hd (fun H1 locs1 hP1 _ hS1 => ?_)
      rw [hnc, show (0 : Int32).toNatClampNeg = 0 from rfl, a_cpy_l e4, ← e4] at hP1
      exact a_W_set (y := .inl (0, l0)) hq1 (by simp [a_size, e4]) kk hz h1 h2 hl hll hP1 hS1
    · cases hh
  · cases hh
theorem k_invokespecial {k : Nat} (hh : a_chk scr mi (.invokespecial k) len npc ls st h = some (b, c')) (hb9 : b = true) (hd : decode (codT mi) pc = .ok (.invokespecial k, len)) (hn : npc = pc + len) (X : a_X p R s m args meth c base ex cA D scr mi) (kk : a_W p l e R s m args below meth c Q base ex cA D n0 z0 mi c') : a_W p l e R s m args below meth c Q base ex cA D n0 z0 mi (pc, ls, st, h) := by
  obtain ⟨hx, hb, hml, hown, hts, hE, hR, hin, hsc⟩ := X
  simp only [a_chk] at hh
  split at hh
  · rename_i o r q9 n9 b8 hc
    cases hh
    subst hn
    obtain ⟨g1, g2, g3⟩ := cT_ok _ _ _ hc
    obtain ⟨f1, f2, f3⟩ := a_nat3 hb9
    intro H locs rls hl hll hP hS hz h1 h2
    refine W.objInit hx hb hown (hts _ g1) (hts _ g2) (hts _ g3) rfl (hl.1.trans hml.symm) rfl hd (by omega) ?_ (kk H locs rls hl hll hP hS hz h1 h2)
    show 2 * 0 + ((r.map (a_rv base ex)).map fun v => v.category).sum + 12 ≤ R.locals
    rw [a_cat_map]
    omega
  · cases hh
theorem a_chk_ok {i : Instr} (hh : a_chk scr mi i len npc ls st h = some (b, c')) (hb9 : b = true) (hd : decode (codT mi) pc = .ok (i, len)) (hn : npc = pc + len) (X : a_X p R s m args meth c base ex cA D scr mi) (hrc : c'.2.2.2.length - n0 ≤ R.cells) (hrs : a_sl c'.2.2.2 - z0 ≤ R.slots) (kk : a_W p l e R s m args below meth c Q base ex cA D n0 z0 mi c') : a_W p l e R s m args below meth c Q base ex cA D n0 z0 mi (pc, ls, st, h) := by
  cases i
  case iaload => exact k_iaload hh hb9 hd hn X kk
  case arraylength => exact k_arraylength hh hb9 hd hn X kk
  case baload => exact k_baload hh hb9 hd hn X kk
  case aaload => exact k_aaload hh hb9 hd hn X kk
  case iastore => exact k_iastore hh hb9 hd hn X kk
  case bastore => exact k_bastore hh hb9 hd hn X kk
  case aastore => exact k_aastore hh hb9 hd hn X kk
  case newarray => exact k_newarray hh hb9 hd hn X hrc hrs kk
  case anewarray => exact k_anewarray hh hb9 hd hn X hrc hrs kk
  case idiv => exact k_idiv hh hb9 hd hn X kk
  case irem => exact k_irem hh hb9 hd hn X kk
  case ldiv => exact k_ldiv hh hb9 hd hn X kk
  case lrem => exact k_lrem hh hb9 hd hn X kk
  case invokestatic => exact k_invokestatic hh hb9 hd hn X hrc hrs kk
  case invokespecial => exact k_invokespecial hh hb9 hd hn X kk
  all_goals (simp only [a_chk] at hh; cases hh)
theorem a_stp_ok (hh : a_stp scr mi (pc, ls, st, h) = some c') (X : a_X p R s m args meth c base ex cA D scr mi) (hrc : c'.2.2.2.length - n0 ≤ R.cells) (hrs : a_sl c'.2.2.2 - z0 ≤ R.slots) (kk : a_W p l e R s m args below meth c Q base ex cA D n0 z0 mi c') : a_W p l e R s m args below meth c Q base ex cA D n0 z0 mi (pc, ls, st, h) := by
  simp only [a_stp] at hh
  split at hh
  · cases hh
  · rename_i i len npc tg hdec
    obtain ⟨hd, hn, ht⟩ := decT_ok _ _ _ hdec
    split at hh
    · rename_i c2 he
      cases hh
      exact a_exec_ok he hd hn X hrc hrs kk
    · split at hh
      · rename_i cc x y t r he
        cases hcb : a_cb cc x y with
        | true =>
          rw [hcb] at hh
          cases hh
          exact a_cnd_ok he hd hn ht X (fun _ => kk) (fun q => absurd ((a_cb_iff cc x y).mp hcb) q)
        | false =>
          rw [hcb] at hh
          cases hh
          exact a_cnd_ok he hd hn ht X (fun q => by rw [(a_cb_iff cc x y).mpr q] at hcb; cases hcb) (fun _ => kk)
      · split at hh
        · rename_i t r he
          cases hh
          exact a_jmp_ok he hd ht X kk
        · split at hh
          · rename_i b9 c2 he
            obtain ⟨hb9, hc⟩ := a_cond_some hh
            cases hc
            exact a_chk_ok he hb9 hd hn X hrc hrs kk
          · cases hh
end

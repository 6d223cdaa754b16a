/-! one instruction of the little machine is one of the machine's: branches, jumps, what wants a check -/
section
variable {p : Program} {l : Launch} {e : Env} {R : Room} {s : State} {m : MethodId} {args : Array Value} {below : List Frame} {meth : Method} {c : Code} {Q : State → Prop}
variable {base : Nat} {ex : Nat → Nat} {cA : Nat → ClassId} {D : va_G} {scr : List Int32} {n0 z0 mi : Nat}
variable {len npc pc : Nat} {ls : aL} {st : List Value} {h : aH} {c' : aF} {tg : Option Nat} {b : Bool}
theorem a_cnd_ok {i : Instr} {cc : ClassFile.Cond} {x y : Int32} {t : Nat} {r : List Value} (hh : a_cnd i len tg st = some (cc, x, y, t, r)) (hd : decode (codT mi) pc = .ok (i, len)) (hn : npc = pc + len) (ht : ∀ t, tg = some t → (pc : Int) + a_off i = (t : Int)) (X : a_X p R s m args meth c base ex cA D scr mi) (k1 : a_cp cc x y → a_W p l e R s m args below meth c Q base ex cA D n0 z0 mi (t, ls, r, h)) (k2 : ¬ a_cp cc x y → a_W p l e R s m args below meth c Q base ex cA D n0 z0 mi (npc, ls, r, h)) : a_W p l e R s m args below meth c Q base ex cA D n0 z0 mi (pc, ls, st, h) := by
  obtain ⟨hx, hb, hml, hown, hts, hE, hR, hin, hsc⟩ := X
  cases i with
  | if_icmp c9 o =>
    simp only [a_cnd] at hh
    split at hh
    · cases hh
      subst hn
      have ht9 : (pc : Int) + o = (t : Int) := ht t rfl
      intro H locs rls hl hll hP hS hz h1 h2
      cases cc with
      | eq => exact lv_icmp_eq hx hb hd ht9 (fun q => k1 q H locs rls hl hll hP hS hz h1 h2) (fun q => k2 q H locs rls hl hll hP hS hz h1 h2)
      | ne => exact lv_icmp_ne hx hb hd ht9 (fun q => k1 q H locs rls hl hll hP hS hz h1 h2) (fun q => k2 (fun z => z q) H locs rls hl hll hP hS hz h1 h2)
      | lt => exact lv_icmp_lt hx hb hd ht9 (fun q => k1 q H locs rls hl hll hP hS hz h1 h2) (fun q => k2 q H locs rls hl hll hP hS hz h1 h2)
      | ge => exact lv_icmp_ge hx hb hd ht9 (fun q => k1 q H locs rls hl hll hP hS hz h1 h2) (fun q => k2 q H locs rls hl hll hP hS hz h1 h2)
      | gt => exact lv_icmp_gt hx hb hd ht9 (fun q => k1 q H locs rls hl hll hP hS hz h1 h2) (fun q => k2 q H locs rls hl hll hP hS hz h1 h2)
      | le => exact lv_icmp_le hx hb hd ht9 (fun q => k1 q H locs rls hl hll hP hS hz h1 h2) (fun q => k2 q H locs rls hl hll hP hS hz h1 h2)
    · cases hh
  | ifCond c9 o =>
    simp only [a_cnd] at hh
    split at hh
    · cases hh
      subst hn
      have ht9 : (pc : Int) + o = (t : Int) := ht t rfl
      intro H locs rls hl hll hP hS hz h1 h2
      cases cc with
      | eq => exact lv_if_eq hx hb hd ht9 (fun q => k1 q H locs rls hl hll hP hS hz h1 h2) (fun q => k2 q H locs rls hl hll hP hS hz h1 h2)
      | ne => exact lv_if_ne hx hb hd ht9 (fun q => k1 q H locs rls hl hll hP hS hz h1 h2) (fun q => k2 (fun z => z q) H locs rls hl hll hP hS hz h1 h2)
      | lt => exact lv_if_lt hx hb hd ht9 (fun q => k1 q H locs rls hl hll hP hS hz h1 h2) (fun q => k2 q H locs rls hl hll hP hS hz h1 h2)
      | ge => exact lv_if_ge hx hb hd ht9 (fun q => k1 q H locs rls hl hll hP hS hz h1 h2) (fun q => k2 q H locs rls hl hll hP hS hz h1 h2)
      | gt => exact lv_if_gt hx hb hd ht9 (fun q => k1 q H locs rls hl hll hP hS hz h1 h2) (fun q => k2 q H locs rls hl hll hP hS hz h1 h2)
      | le => exact lv_if_le hx hb hd ht9 (fun q => k1 q H locs rls hl hll hP hS hz h1 h2) (fun q => k2 q H locs rls hl hll hP hS hz h1 h2)
    · cases hh
  | _ => simp only [a_cnd] at hh; cases hh
theorem a_jmp_ok {i : Instr} {t : Nat} {r : List Value} (hh : a_jmp i len pc tg st = some (t, r)) (hd : decode (codT mi) pc = .ok (i, len)) (ht : ∀ t, tg = some t → (pc : Int) + a_off i = (t : Int)) (X : a_X p R s m args meth c base ex cA D scr mi) (kk : a_W p l e R s m args below meth c Q base ex cA D n0 z0 mi (t, ls, r, h)) : a_W p l e R s m args below meth c Q base ex cA D n0 z0 mi (pc, ls, st, h) := by
  obtain ⟨hx, hb, hml, hown, hts, hE, hR, hin, hsc⟩ := X
  cases i with
  | goto o =>
    simp only [a_jmp] at hh
    split at hh
    · cases hh
      have ht9 : (pc : Int) + o = (t : Int) := ht t rfl
      intro H locs rls hl hll hP hS hz h1 h2
      exact lv_goto hx hb hd ht9 (kk H locs rls hl hll hP hS hz h1 h2)
    · cases hh
  | tableswitch dflt lo hi offs =>
    simp only [a_jmp] at hh
    split at hh
    · rename_i x r9
      split at hh
      · rename_i off ho
        obtain ⟨hp9, hc⟩ := a_cond_some hh
        cases hc
        have hp9 : 0 ≤ (pc : Int) + off := of_decide_eq_true hp9
        have ht9 : (pc : Int) + off = ((a_tg pc off : Nat) : Int) := by
          unfold a_tg
          omega
        intro H locs rls hl hll hP hS hz h1 h2
        split at ho
        · rename_i hout
          cases ho
          exact lv_tableOut hx hb hd hout ht9 (kk H locs rls hl hll hP hS hz h1 h2)
        · rename_i hinn
          exact lv_tableIn hx hb hd (fun q => hinn (Or.inl q)) (fun q => hinn (Or.inr q)) ho ht9 (kk H locs rls hl hll hP hS hz h1 h2)
      · cases hh
    · cases hh
  | _ => simp only [a_jmp] at hh; cases hh
/-- what comes behind a store -/
theorem a_W_set {q : Nat} {x y : aC} {r : List Value} (hq : a_nth h q = some x) (he : a_size y = a_size x) (kk : a_W p l e R s m args below meth c Q base ex cA D n0 z0 mi (npc, ls, r, h.set q y)) (hz : s.heap.size = base + n0) (h1 : n0 ≤ h.length) (h2 : z0 ≤ a_sl h) {rls : Array Slot} (hl : lv_has rls (nlT mi) (a_las base ex 0 ls)) (hll : ls.length = nlT mi) {H1 : Heap} {locs1 : List Loc} (hP : va_P D vwCl ((a_wd base ex cA 0 h).set q (base + q, a_rc base ex cA y)) H1) (hS : va_S (fun q => base ≤ q) s.heap H1 locs1) : W p l e R s m args below meth c H1 locs1 (h.length - n0) (a_sl h - z0) Q (F0 m npc rls (r.map (a_rv base ex))) := by
  have hsl := a_sl_set (h := h) (q := q) (y := y) hq he
  have e1 := a_wd_set base ex cA y h 0 q
  rw [Nat.zero_add] at e1
  rw [e1] at hP
  have := kk H1 locs1 rls hl hll hP hS hz (by show n0 ≤ (h.set q _).length; rw [List.length_set]; exact h1) (by show z0 ≤ a_sl (h.set q _); rw [hsl]; exact h2)
  simp only [List.length_set, hsl] at this
  exact this
theorem a_upd_l {l : List Int32} {i : Nat} {x : Int32} (hi : i < l.length) : upd (fun j => l.getD j 0) i x = fun j => (l.set i x).getD j 0 := by
  funext j
  unfold upd
  by_cases e : j = i
  · subst e
    rw [if_pos rfl, List.getD_eq_getElem?_getD, List.getElem?_set_self hi]
    rfl
  · rw [if_neg e]
    show l.getD j 0 = (l.set i x).getD j 0
    rw [List.getD_eq_getElem?_getD, List.getD_eq_getElem?_getD, List.getElem?_set_ne (fun z => e z.symm)]
theorem a_upd_q {l : List (Option Nat)} {i a : Nat} (hi : i < l.length) : va_up (fun j => (l.getD j none).map (fun k => base + k)) i (some (base + a)) = fun j => ((l.set i (some a)).getD j none).map (fun k => base + k) := by
  funext j
  unfold va_up
  by_cases e : j = i
  · subst e
    rw [if_pos rfl, List.getD_eq_getElem?_getD, List.getElem?_set_self hi]
    rfl
  · rw [if_neg e]
    show (l.getD j none).map _ = ((l.set i (some a)).getD j none).map _
    rw [List.getD_eq_getElem?_getD, List.getD_eq_getElem?_getD, List.getElem?_set_ne (fun z => e z.symm)]
theorem a_vin {i : Int32} {n : Nat} (h : vp_in i n) : i.toNatClampNeg < n := Nat.not_le.mp fun q => h (Or.inr q)
theorem k_iaload (hh : a_chk scr mi .iaload len npc ls st h = some (b, c')) (hb9 : b = true) (hd : decode (codT mi) pc = .ok (.iaload, len)) (hn : npc = pc + len) (X : a_X p R s m args meth c base ex cA D scr mi) (kk : a_W p l e R s m args below meth c Q base ex cA D n0 z0 mi c') : a_W p l e R s m args below meth c Q base ex cA D n0 z0 mi (pc, ls, st, h) := by
  obtain ⟨hx, hb, hml, hown, hts, hE, hR, hin, hsc⟩ := X
  simp only [a_chk] at hh
  split at hh
  · rename_i i q r
    split at hh
    · rename_i l9 hq
      cases hh
      subst hn
      intro H locs rls hl hll hP hS hz h1 h2
      exact va_iald hx hb hE.1 hP q 0 (a_wd_at hq) rfl (a_in_of hb9) hd (kk H locs rls hl hll hP hS hz h1 h2)
    · cases hh
  · rename_i i j r
    obtain ⟨hj, hc⟩ := a_cond_some hh
    cases hc
    subst hn
    intro H locs rls hl hll hP hS hz h1 h2
    have hj := Nat.eq_of_beq_eq_true hj
    have hv := a_in_of hb9
    rcases hsc with ⟨e9, -⟩ | ⟨g1, g2, g3⟩
    · subst e9
      exact absurd (Or.inr (Nat.zero_le _)) hv
    · have hX : va_X (ex j.toNat) scr.length (fun j => scr.getD j 0) s s.heap := by rw [hj]; exact g1
      exact va_sld hx hb hX (by rw [hj]; exact g2) (by rw [hj]; exact g3) hS hv hd (kk H locs rls hl hll hP hS hz h1 h2)
  · cases hh
theorem k_arraylength (hh : a_chk scr mi .arraylength len npc ls st h = some (b, c')) (hb9 : b = true) (hd : decode (codT mi) pc = .ok (.arraylength, len)) (hn : npc = pc + len) (X : a_X p R s m args meth c base ex cA D scr mi) (kk : a_W p l e R s m args below meth c Q base ex cA D n0 z0 mi c') : a_W p l e R s m args below meth c Q base ex cA D n0 z0 mi (pc, ls, st, h) := by
  obtain ⟨hx, hb, hml, hown, hts, hE, hR, hin, hsc⟩ := X
  simp only [a_chk] at hh
  split at hh
  · rename_i j r
    obtain ⟨hj, hc⟩ := a_cond_some hh
    cases hc
    subst hn
    intro H locs rls hl hll hP hS hz h1 h2
    rw [Bool.and_eq_true] at hj
    have hf := Nat.eq_of_beq_eq_true hj.2
    have hj := Nat.eq_of_beq_eq_true hj.1
    rcases hsc with ⟨-, e9⟩ | ⟨g1, g2, g3⟩
    · omega
    · have hX : va_X (ex j.toNat) scr.length (fun j => scr.getD j 0) s s.heap := by rw [hj]; exact g1
      exact va_slen hx hb hX (by rw [hj]; exact g2) (by rw [hj]; exact g3) hS hd (kk H locs rls hl hll hP hS hz h1 h2)
  · cases hh
theorem k_baload (hh : a_chk scr mi .baload len npc ls st h = some (b, c')) (hb9 : b = true) (hd : decode (codT mi) pc = .ok (.baload, len)) (hn : npc = pc + len) (X : a_X p R s m args meth c base ex cA D scr mi) (kk : a_W p l e R s m args below meth c Q base ex cA D n0 z0 mi c') : a_W p l e R s m args below meth c Q base ex cA D n0 z0 mi (pc, ls, st, h) := by
  obtain ⟨hx, hb, hml, hown, hts, hE, hR, hin, hsc⟩ := X
  simp only [a_chk] at hh
  split at hh
  · rename_i i q r
    split at hh
    · rename_i l9 hq
      cases hh
      subst hn
      intro H locs rls hl hll hP hS hz h1 h2
      exact va_bald hx hb hE.1 hP q 1 (a_wd_at hq) rfl (a_in_of hb9) hd (kk H locs rls hl hll hP hS hz h1 h2)
    · rename_i l9 hq
      cases hh
      subst hn
      intro H locs rls hl hll hP hS hz h1 h2
      exact va_zald hx hb hE.1 hP q 2 (a_wd_at hq) rfl (a_in_of hb9) hd (kk H locs rls hl hll hP hS hz h1 h2)
    · cases hh
  · rename_i i j r
    cases hc9 : Nat.ble 10 j.toNat with
    | false => rw [hc9] at hh; cases hh
    | true =>
      rw [hc9] at hh
      have hh : (match a_nth a_slen (j.toNat - 10), a_nth a_sbyt (j.toNat - 10) with | some n, some l => some (a_in i n, (npc, ls, Value.int (l.getD i.toNatClampNeg 0) :: r, h)) | _, _ => none) = some (b, c') := hh
      split at hh
      · rename_i n l9 hq1 hq2
        cases hh
        subst hn
        intro H locs rls hl hll hP hS hz h1 h2
        have h10 : 10 ≤ j.toNat := Nat.le_of_ble_eq_true hc9
        have hlt : j.toNat - 10 < 4 := a_nth_lt hq1
        have hT := (hE.2.2.2.1.1 (j.toNat - 10) hlt).2.2.2
        have ej : 10 + (j.toNat - 10) = j.toNat := by omega
        rw [show (fun j => ex (10 + j)) (j.toNat - 10) = ex j.toNat from congrArg ex ej] at hT
        have en : a_slen.getD (j.toNat - 10) 0 = n := by
          rw [List.getD_eq_getElem?_getD, ← a_nth_eq, hq1]; rfl
        have el : a_sbyt.getD (j.toNat - 10) [] = l9 := by
          rw [List.getD_eq_getElem?_getD, ← a_nth_eq, hq2]; rfl
        rw [en, el] at hT
        exact va_tb hx hb hT hS (a_in_of hb9) rfl hd (kk H locs rls hl hll hP hS hz h1 h2)
      · cases hh
  · cases hh
theorem k_aaload (hh : a_chk scr mi .aaload len npc ls st h = some (b, c')) (hb9 : b = true) (hd : decode (codT mi) pc = .ok (.aaload, len)) (hn : npc = pc + len) (X : a_X p R s m args meth c base ex cA D scr mi) (kk : a_W p l e R s m args below meth c Q base ex cA D n0 z0 mi c') : a_W p l e R s m args below meth c Q base ex cA D n0 z0 mi (pc, ls, st, h) := by
  obtain ⟨hx, hb, hml, hown, hts, hE, hR, hin, hsc⟩ := X
  simp only [a_chk] at hh
  split at hh
  · rename_i i q r
    split at hh
    · rename_i l9 hq
      split at hh
      · rename_i a9 ha
        cases hh
        subst hn
        intro H locs rls hl hll hP hS hz h1 h2
        have e9 : va_rf ((fun j => (l9.getD j none).map (fun k => base + k)) i.toNatClampNeg) = .ref (base + a9) := by
          show va_rf ((l9.getD i.toNatClampNeg none).map _) = _
          rw [List.getD_eq_getElem?_getD, ha]
          rfl
        refine va_aldq hx hb hE.1 hP q 3 (a_wd_at hq) rfl (a_in_of hb9) hd ?_
        rw [e9]
        exact kk H locs rls hl hll hP hS hz h1 h2
      · cases hh
    · cases hh
  · cases hh
theorem k_iastore (hh : a_chk scr mi .iastore len npc ls st h = some (b, c')) (hb9 : b = true) (hd : decode (codT mi) pc = .ok (.iastore, len)) (hn : npc = pc + len) (X : a_X p R s m args meth c base ex cA D scr mi) (kk : a_W p l e R s m args below meth c Q base ex cA D n0 z0 mi c') : a_W p l e R s m args below meth c Q base ex cA D n0 z0 mi (pc, ls, st, h) := by
  obtain ⟨hx, hb, hml, hown, hts, hE, hR, hin, hsc⟩ := X
  simp only [a_chk] at hh
  split at hh
  · rename_i x i q r
    split at hh
    · rename_i l9 hq
      cases hh
      subst hn
      intro H locs rls hl hll hP hS hz h1 h2
      have hv := a_in_of hb9
      refine va_iast hx hb hE.1 hP (a_wd_D base ex cA h) hS q 0 (a_wd_at hq) rfl hv hd (fun H1 locs1 hP1 _ hS1 => ?_)
      rw [a_upd_l (a_vin hv)] at hP1
      refine a_W_set hq (by simp [a_size]) kk hz h1 h2 hl hll (?_ : va_P D vwCl ((a_wd base ex cA 0 h).set q (base + q, a_rc base ex cA (.inl (0, l9.set i.toNatClampNeg x)))) H1) hS1
      simp only [a_rc, List.length_set]
      exact hP1
    · cases hh
  · cases hh
theorem k_bastore (hh : a_chk scr mi .bastore len npc ls st h = some (b, c')) (hb9 : b = true) (hd : decode (codT mi) pc = .ok (.bastore, len)) (hn : npc = pc + len) (X : a_X p R s m args meth c base ex cA D scr mi) (kk : a_W p l e R s m args below meth c Q base ex cA D n0 z0 mi c') : a_W p l e R s m args below meth c Q base ex cA D n0 z0 mi (pc, ls, st, h) := by
  obtain ⟨hx, hb, hml, hown, hts, hE, hR, hin, hsc⟩ := X
  simp only [a_chk] at hh
  split at hh
  · rename_i x i q r
    split at hh
    · rename_i l9 hq
      cases hh
      subst hn
      intro H locs rls hl hll hP hS hz h1 h2
      have hv := a_in_of hb9
      refine va_bast hx hb hE.1 hP (a_wd_D base ex cA h) hS q 1 (a_wd_at hq) rfl hv hd (fun H1 locs1 hP1 _ hS1 => ?_)
      rw [vp_nar_byte, a_upd_l (a_vin hv)] at hP1
      refine a_W_set hq (by simp [a_size]) kk hz h1 h2 hl hll (?_ : va_P D vwCl ((a_wd base ex cA 0 h).set q (base + q, a_rc base ex cA (.inl (1, l9.set i.toNatClampNeg x.toInt8.toInt32)))) H1) hS1
      simp only [a_rc, List.length_set]
      exact hP1
    · rename_i l9 hq
      cases hh
      subst hn
      intro H locs rls hl hll hP hS hz h1 h2
      have hv := a_in_of hb9
      refine va_zast hx hb hE.1 hP (a_wd_D base ex cA h) hS q 2 (a_wd_at hq) rfl hv hd (fun H1 locs1 hP1 _ hS1 => ?_)
      rw [show vp_nar .boolean x = x &&& 1 from rfl, a_upd_l (a_vin hv)] at hP1
      refine a_W_set hq (by simp [a_size]) kk hz h1 h2 hl hll (?_ : va_P D vwCl ((a_wd base ex cA 0 h).set q (base + q, a_rc base ex cA (.inl (2, l9.set i.toNatClampNeg (x &&& 1))))) H1) hS1
      simp only [a_rc, List.length_set]
      exact hP1
    · cases hh
  · cases hh
theorem k_aastore (hh : a_chk scr mi .aastore len npc ls st h = some (b, c')) (hb9 : b = true) (hd : decode (codT mi) pc = .ok (.aastore, len)) (hn : npc = pc + len) (X : a_X p R s m args meth c base ex cA D scr mi) (kk : a_W p l e R s m args below meth c Q base ex cA D n0 z0 mi c') : a_W p l e R s m args below meth c Q base ex cA D n0 z0 mi (pc, ls, st, h) := by
  obtain ⟨hx, hb, hml, hown, hts, hE, hR, hin, hsc⟩ := X
  simp only [a_chk] at hh
  split at hh
  · rename_i a9 i q r
    split at hh
    · rename_i l9 fs hq ha
      cases hh
      subst hn
      intro H locs rls hl hll hP hS hz h1 h2
      have hv := a_in_of hb9
      refine va_astq (D := D) (cl := vwCl) (r := (RX2, TX2, 4)) hx hb hE.1 hP (a_wd_D base ex cA h) hS q 3 a9 2 (a_wd_at hq) rfl (a_wd_at ha) rfl hv hd (fun H1 locs1 hP1 _ hS1 => ?_)
      rw [a_upd_q (a_vin hv)] at hP1
      refine a_W_set hq (by simp [a_size]) kk hz h1 h2 hl hll (?_ : va_P D vwCl ((a_wd base ex cA 0 h).set q (base + q, a_rc base ex cA (.inr (.inr (l9.set i.toNatClampNeg (some a9)))))) H1) hS1
      simp only [a_rc, List.length_set]
      exact hP1
    · cases hh
  · cases hh
end

/-! rows for a heap that is not written out: its cells by hypotheses -/
def a_execG (mi : Nat) (i : Instr) (len npc : Nat) (ls : aL) (st : List Value) (h : aH) : Option aF := match i with
  | .arraylength => none
  | .getfield _ => none
  | .putfield _ => none
  | i => a_exec mi i len npc ls st h
theorem a_execG_some {mi : Nat} {i : Instr} {len npc : Nat} {ls : aL} {st : List Value} {h : aH} {c' : aF} (hh : a_execG mi i len npc ls st h = some c') : a_exec mi i len npc ls st h = some c' := by
  cases i <;> first | exact hh | cases hh
def a_runG : Nat → Nat → aF → Option (Instr × Nat × Nat × Option Nat × aL × List Value × aH)
  | 0, _, _ => none
  | n + 1, mi, (pc, ls, st, h) => match decT mi pc with
    | some (i, len, npc, tg) => match a_execG mi i len npc ls st h with
      | some c' => a_runG n mi c'
      | none => some (i, len, npc, tg, ls, st, h)
    | none => none
theorem a_runG_ev : ∀ (k : Nat) {scr : List Int32} {mi : Nat} {c : aF} {i : Instr} {len npc : Nat} {tg : Option Nat} {ls : aL} {st : List Value} {h : aH} {v : Option Value} {h' : aH}, a_runG k mi c = some (i, len, npc, tg, ls, st, h) → (∀ pc, decT mi pc = some (i, len, npc, tg) → Ev scr mi (pc, ls, st, h) v h') → Ev scr mi c v h'
  | 0, _, _, _, _, _, _, _, _, _, _, _, _, h, _ => by simp only [a_runG] at h; cases h
  | k + 1, scr, mi, (pc, ls0, st0, hh), i, len, npc, tg, ls, st, h2, v, h', h, e => by
    simp only [a_runG] at h
    split at h
    · rename_i i3 len3 npc3 tg3 hd
      split at h
      · rename_i c2 hx
        refine Ev_stp (c' := c2) ?_ (a_runG_ev k h e)
        simp only [a_stp, hd, a_execG_some hx]
      · cases h
        exact e pc hd
    · cases h
theorem Ev_al {scr : List Int32} {mi : Nat} {c : aF} {npc q k : Nat} {tg : Option Nat} {ls : aL} {r : List Value} {hh : aH} {v : Option Value} {h' : aH} {l : List Int32} (h : a_runG 99 mi c = some (.arraylength, 1, npc, tg, ls, .ref q :: r, hh)) (hq : a_nth hh q = some (.inl (k, l))) (hk : Nat.blt k 3 = true) (e : Ev scr mi (npc, ls, .int (nI l.length) :: r, hh) v h') : Ev scr mi c v h' := by
  refine a_runG_ev 99 h fun pc hd => Ev_stp (c' := (npc, ls, .int (nI l.length) :: r, hh)) ?_ e
  simp only [a_stp, hd, a_exec, hq, hk, cond_true]
theorem Ev_ia {scr : List Int32} {mi : Nat} {c : aF} {npc q : Nat} {i : Int32} {tg : Option Nat} {ls : aL} {r : List Value} {hh : aH} {v : Option Value} {h' : aH} {l : List Int32} (h : a_runG 99 mi c = some (.iaload, 1, npc, tg, ls, .int i :: .ref q :: r, hh)) (hq : a_nth hh q = some (.inl (0, l))) (hin : a_in i l.length = true) (e : Ev scr mi (npc, ls, .int (l.getD i.toNatClampNeg 0) :: r, hh) v h') : Ev scr mi c v h' := by
  refine a_runG_ev 99 h fun pc hd => Ev_stp (c' := (npc, ls, .int (l.getD i.toNatClampNeg 0) :: r, hh)) ?_ e
  simp only [a_stp, hd, a_exec, a_cnd, a_jmp, a_chk, hq, hin, cond_true]
theorem Ev_is {scr : List Int32} {mi : Nat} {c : aF} {npc q : Nat} {i x : Int32} {tg : Option Nat} {ls : aL} {r : List Value} {hh : aH} {v : Option Value} {h' : aH} {l : List Int32} (h : a_runG 99 mi c = some (.iastore, 1, npc, tg, ls, .int x :: .int i :: .ref q :: r, hh)) (hq : a_nth hh q = some (.inl (0, l))) (hin : a_in i l.length = true) (e : Ev scr mi (npc, ls, r, hh.set q (.inl (0, l.set i.toNatClampNeg x))) v h') : Ev scr mi c v h' := by
  refine a_runG_ev 99 h fun pc hd => Ev_stp (c' := (npc, ls, r, hh.set q (.inl (0, l.set i.toNatClampNeg x)))) ?_ e
  simp only [a_stp, hd, a_exec, a_cnd, a_jmp, a_chk, hq, hin, cond_true]
theorem Ev_gf {scr : List Int32} {mi : Nat} {c : aF} {npc q k ci f ty : Nat} {nest fin : Bool} {tg : Option Nat} {ls : aL} {r : List Value} {hh : aH} {v : Option Value} {w0 : Value} {h' : aH} {fs : List Value} (h : a_runG 99 mi c = some (.getfield k, 3, npc, tg, ls, .ref q :: r, hh)) (hf : fT (ownT mi) k = some (ci, f, nest, fin, ty)) (hq : a_nth hh q = some (.inr (.inl (ci, fs)))) (hv : a_nth fs f = some w0) (e : Ev scr mi (npc, ls, w0 :: r, hh) v h') : Ev scr mi c v h' := by
  refine a_runG_ev 99 h fun pc hd => Ev_stp (c' := (npc, ls, w0 :: r, hh)) ?_ e
  simp only [a_stp, hd, a_exec, hf, hq, hv, Nat.beq_refl, cond_true]
theorem Ev_cy {scr : List Int32} {mi : Nat} {c : aF} {npc q0 q1 k x y : Nat} {z : Bool} {n : Int32} {tg : Option Nat} {ls : aL} {r : List Value} {hh : aH} {v : Option Value} {h' : aH} {l0 l1 : List Int32} (h : a_runG 99 mi c = some (.invokestatic k, 3, npc, tg, ls, .int n :: .int (nI 0) :: .ref q1 :: .int (nI 0) :: .ref q0 :: r, hh)) (hc : cT (ownT mi) k = some (7, x, y, z)) (hq0 : a_nth hh q0 = some (.inl (0, l0))) (hq1 : a_nth hh q1 = some (.inl (0, l1))) (hn : n = nI l0.length) (hl : l0.length = l1.length) (hl2 : l0.length ≤ 1000) (hr : (Nat.ble 1 (frT mi) && Nat.ble 60 (loT mi) && Nat.ble (r.map fun v => v.category).sum 8) = true) (e : Ev scr mi (npc, ls, r, hh.set q1 (.inl (0, l0))) v h') : Ev scr mi c v h' := by
  refine a_runG_ev 99 h fun pc hd => Ev_stp (c' := (npc, ls, r, hh.set q1 (.inl (0, l0)))) ?_ e
  have h9 : decide (nI 0 = 0 ∧ nI 0 = 0 ∧ n = nI l0.length ∧ l0.length = l1.length ∧ l0.length ≤ 1000) = true := decide_eq_true ⟨nI_0, nI_0, hn, hl, hl2⟩
  simp only [a_stp, hd, a_exec, a_cnd, a_jmp, a_chk, hc, hq0, hq1, hr, h9, Bool.and_self, cond_true]
-- Nat lists
theorem a_inN {i n : Nat} (h : i < n) (hn : n < 2 ^ 31) : a_in (nI i) n = true := decide_eq_true (nI_in h hn)
theorem a_mapget (L : List Nat) (i : Nat) (hi : i < 2 ^ 31) : (L.map nI).getD (nI i).toNatClampNeg 0 = nI (L.getD i 0) := by
  rw [nI_clamp hi, List.getD_eq_getElem?_getD, List.getElem?_map, List.getD_eq_getElem?_getD]
  cases L[i]? with
  | none => exact nI_0.symm
  | some x => rfl
theorem a_mapset (L : List Nat) (i x : Nat) (hi : i < 2 ^ 31) : (L.map nI).set (nI i).toNatClampNeg (nI x) = (L.set i x).map nI := by
  rw [nI_clamp hi, List.map_set]
/-- WhitePaw.at -/
theorem c_at (h : aH) (q : Nat) (L : List Nat) (i : Nat) (hq : a_nth h q = some (.inl (0, L.map nI))) (hL : L.length ≤ 1000) (hi : i < 2 ^ 31) : Cl mX8_at [.ref q, .int (nI i)] h (some (.int (nI (L.getD i 0)))) h := by
  refine Ev_br rfl (fun hc => absurd hc (nI_pos hi)) (fun _ => ?_)
  refine Ev_al rfl hq rfl ?_
  refine Ev_br rfl (fun hc => ?_) (fun hc => ?_)
  · refine Ev_rt rfl rfl ?_ rfl
    have hc : nI (L.map nI).length ≤ nI i := hc
    rw [List.length_map, nI_leI (by omega) hi] at hc
    rw [List.getD_eq_getElem?_getD, List.getElem?_eq_none hc]
    rfl
  · have hc : ¬ nI (L.map nI).length ≤ nI i := hc
    rw [List.length_map, nI_leI (by omega) hi] at hc
    refine Ev_ia rfl hq (a_inN (by rw [List.length_map]; omega) (by rw [List.length_map]; omega)) ?_
    refine Ev_jp rfl ?_
    refine Ev_rt rfl rfl ?_ rfl
    rw [a_mapget L i hi]
/-- WhitePaw.put -/
theorem c_put (h : aH) (q : Nat) (L : List Nat) (i x : Nat) (hq : a_nth h q = some (.inl (0, L.map nI))) (hL : L.length ≤ 1000) (hi : i < L.length) : Cl mX8_put [.ref q, .int (nI i), .int (nI x)] h none (h.set q (.inl (0, (L.set i x).map nI))) := by
  refine Ev_br rfl (fun hc => absurd hc (nI_pos (by omega))) (fun _ => ?_)
  refine Ev_al rfl hq rfl ?_
  refine Ev_br rfl (fun hc => ?_) (fun hc => ?_)
  · have hc : nI (L.map nI).length ≤ nI i := hc
    rw [List.length_map, nI_leI (by omega) (by omega)] at hc
    omega
  · refine Ev_is rfl hq (a_inN (by rw [List.length_map]; omega) (by rw [List.length_map]; omega)) ?_
    refine Ev_rt rfl rfl rfl ?_
    rw [a_mapset L i x (by omega)]

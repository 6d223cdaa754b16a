/-! THE PURE SIDE: what a frame of the little machine comes to; its rows -/
/-- the frame comes to its end with this answer and heap -/
def Ev (scr : List Int32) (mi : Nat) (c : aF) (v : Option Value) (h' : aH) : Prop := ∃ n, a_ev scr n mi c = some (v, h')
/-- a call of a method comes to its end -/
def Cl (q : Nat) (as : List Value) (h : aH) (v : Option Value) (h' : aH) : Prop := Ev [] q (0, a_ent (nlT q) as, [], h) v h'
theorem a_ev_more : ∀ (n : Nat) {scr : List Int32} {mi : Nat} {c : aF} {r : Option Value × aH} (k : Nat), a_ev scr n mi c = some r → a_ev scr (n + k) mi c = some r
  | 0, _, _, _, _, _, h => by simp only [a_ev] at h; cases h
  | n + 1, scr, mi, c, r, k, h => by
    rw [Nat.add_right_comm]
    simp only [a_ev] at h ⊢
    cases h1 : a_stp scr mi c with
    | some c' =>
      rw [h1] at h
      exact a_ev_more n k h
    | none =>
      rw [h1] at h
      cases h2 : a_call mi c with
      | some z =>
        obtain ⟨q, as, npc, ls, r2, hh⟩ := z
        rw [h2] at h
        simp only at h ⊢
        cases h3 : a_ev [] n q (0, a_ent (nlT q) as, [], hh) with
        | some w =>
          obtain ⟨v, h'⟩ := w
          rw [h3] at h
          rw [a_ev_more n k h3]
          exact a_ev_more n k h
        | none =>
          rw [h3] at h
          cases h
      | none =>
        rw [h2] at h
        exact h
def a_run : Nat → Nat → aF → Option aF
  | 0, _, c => some c
  | n + 1, mi, (pc, ls, st, h) => match decT mi pc with
    | some (i, len, npc, _) => match a_exec mi i len npc ls st h with
      | some c' => a_run n mi c'
      | none => some (pc, ls, st, h)
    | none => some (pc, ls, st, h)
theorem a_run_ev : ∀ (k : Nat) {scr : List Int32} {mi : Nat} {c c' : aF} {v : Option Value} {h' : aH}, a_run k mi c = some c' → Ev scr mi c' v h' → Ev scr mi c v h'
  | 0, _, _, _, _, _, _, h, e => by
    simp only [a_run] at h
    cases h
    exact e
  | k + 1, scr, mi, (pc, ls, st, hh), c', v, h', h, e => by
    simp only [a_run] at h
    split at h
    · rename_i i len npc tg hd
      split at h
      · rename_i c2 hx
        obtain ⟨n, hn⟩ := a_run_ev k h e
        refine ⟨n + 1, ?_⟩
        have hs : a_stp scr mi (pc, ls, st, hh) = some c2 := by
          simp only [a_stp, hd, hx]
        simp only [a_ev, hs]
        exact hn
      · cases h; exact e
    · cases h; exact e
theorem Ev_stp {scr : List Int32} {mi : Nat} {c c' : aF} {v : Option Value} {h' : aH} (h : a_stp scr mi c = some c') (e : Ev scr mi c' v h') : Ev scr mi c v h' := by
  obtain ⟨n, hn⟩ := e
  refine ⟨n + 1, ?_⟩
  simp only [a_ev, h]
  exact hn
def a_brc (n mi : Nat) (c : aF) : Option (ClassFile.Cond × Int32 × Int32 × aF × aF) := match a_run n mi c with
  | some (pc, ls, st, h) => match decT mi pc with
    | some (i, len, npc, tg) => match a_exec mi i len npc ls st h with
      | some _ => none
      | none => match a_cnd i len tg st with
        | some (cc, x, y, t, r) => some (cc, x, y, (t, ls, r, h), (npc, ls, r, h))
        | none => none
    | none => none
  | none => none
theorem Ev_br {scr : List Int32} {mi : Nat} {c c1 c2 : aF} {cc : ClassFile.Cond} {x y : Int32} {v : Option Value} {h' : aH} (h : a_brc 99 mi c = some (cc, x, y, c1, c2)) (k1 : a_cp cc x y → Ev scr mi c1 v h') (k2 : ¬ a_cp cc x y → Ev scr mi c2 v h') : Ev scr mi c v h' := by
  unfold a_brc at h
  split at h
  · rename_i pc ls st hh hr
    split at h
    · rename_i i len npc tg hd
      split at h
      · cases h
      · rename_i hx
        split at h
        · rename_i cc2 x2 y2 t r hc
          cases h
          refine a_run_ev 99 hr ?_
          cases hb : a_cb cc x y with
          | true =>
            refine Ev_stp (c' := (t, ls, r, hh)) ?_ (k1 ((a_cb_iff cc x y).mp hb))
            simp only [a_stp, hd, hx, hc, hb, cond_true]
          | false =>
            refine Ev_stp (c' := (npc, ls, r, hh)) ?_ (k2 fun q => by rw [(a_cb_iff cc x y).mpr q] at hb; cases hb)
            simp only [a_stp, hd, hx, hc, hb, cond_false]
        · cases h
    · cases h
  · cases h
def a_jpc (n mi : Nat) (c : aF) : Option aF := match a_run n mi c with
  | some (pc, ls, st, h) => match decT mi pc with
    | some (i, len, npc, tg) => match a_exec mi i len npc ls st h with
      | some _ => none
      | none => match a_cnd i len tg st with
        | some _ => none
        | none => match a_jmp i len pc tg st with
          | some (t, r) => some (t, ls, r, h)
          | none => none
    | none => none
  | none => none
theorem Ev_jp {scr : List Int32} {mi : Nat} {c c1 : aF} {v : Option Value} {h' : aH} (h : a_jpc 99 mi c = some c1) (k : Ev scr mi c1 v h') : Ev scr mi c v h' := by
  unfold a_jpc at h
  split at h
  · rename_i pc ls st hh hr
    split at h
    · rename_i i len npc tg hd
      split at h
      · cases h
      · rename_i hx
        split at h
        · cases h
        · rename_i hc
          split at h
          · rename_i t r hj
            cases h
            refine a_run_ev 99 hr (Ev_stp (c' := (t, ls, r, hh)) ?_ k)
            simp only [a_stp, hd, hx, hc, hj]
          · cases h
    · cases h
  · cases h
/-- a switch: what is switched on, the table -/
def a_swc (n mi : Nat) (c : aF) : Option (Int32 × Int × Int × Int × Array Int × Nat × aL × List Value × aH) := match a_run n mi c with
  | some (pc, ls, .int x :: r, h) => match decT mi pc with
    | some (.tableswitch d lo hi offs, _, _, _) => some (x, d, lo, hi, offs, pc, ls, r, h)
    | _ => none
  | _ => none
theorem Ev_sw {scr : List Int32} {mi : Nat} {c : aF} {x : Int32} {d lo hi : Int} {offs : Array Int} {pc : Nat} {ls : aL} {r : List Value} {hh : aH} {v : Option Value} {h' : aH} (h : a_swc 99 mi c = some (x, d, lo, hi, offs, pc, ls, r, hh)) (t : Nat) (ht : (if x.toInt < lo ∨ hi < x.toInt then some d else offs[(x.toInt - lo).toNat]?) = some ((t : Int) - pc)) (k : Ev scr mi (t, ls, r, hh) v h') : Ev scr mi c v h' := by
  unfold a_swc at h
  split at h
  · rename_i pc2 ls2 x2 r2 hh2 hr
    split at h
    · rename_i d2 lo2 hi2 offs2 len npc tg hd
      cases h
      refine a_run_ev 99 hr (Ev_stp (c' := (t, ls, r, hh)) ?_ k)
      have e1 : a_tg pc ((t : Int) - pc) = t := by unfold a_tg; omega
      have e2 : decide (0 ≤ (pc : Int) + ((t : Int) - pc)) = true := decide_eq_true (by omega)
      simp only [a_stp, hd, a_exec, a_cnd, a_jmp, ht, e1, e2, cond_true]
    · cases h
  · cases h
def a_ckc (scr : List Int32) (n mi : Nat) (c : aF) : Option (Bool × aF) := match a_run n mi c with
  | some (pc, ls, st, h) => match decT mi pc with
    | some (i, len, npc, tg) => match a_exec mi i len npc ls st h with
      | some _ => none
      | none => match a_cnd i len tg st with
        | some _ => none
        | none => match a_jmp i len pc tg st with
          | some _ => none
          | none => a_chk scr mi i len npc ls st h
    | none => none
  | none => none
theorem Ev_ck {scr : List Int32} {mi : Nat} {c c1 : aF} {b : Bool} {v : Option Value} {h' : aH} (h : a_ckc scr 99 mi c = some (b, c1)) (hb : b = true) (k : Ev scr mi c1 v h') : Ev scr mi c v h' := by
  unfold a_ckc at h
  split at h
  · rename_i pc ls st hh hr
    split at h
    · rename_i i len npc tg hd
      split at h
      · cases h
      · rename_i hx
        split at h
        · cases h
        · rename_i hc
          split at h
          · cases h
          · rename_i hj
            refine a_run_ev 99 hr (Ev_stp (c' := c1) ?_ k)
            simp only [a_stp, hd, hx, hc, hj, h, hb, cond_true]
    · cases h
  · cases h
def a_cac (scr : List Int32) (n mi : Nat) (c : aF) : Option (Nat × List Value × Nat × aL × List Value × aH) := match a_run n mi c with
  | some (pc, ls, st, h) => match decT mi pc with
    | some (i, len, npc, tg) => match a_exec mi i len npc ls st h with
      | some _ => none
      | none => match a_cnd i len tg st with
        | some _ => none
        | none => match a_jmp i len pc tg st with
          | some _ => none
          | none => match a_chk scr mi i len npc ls st h with
            | some _ => none
            | none => match a_cal mi i len st h with
              | some (q, as, r) => cond (a_fit mi q as r) (some (q, as, npc, ls, r, h)) none
              | none => none
    | none => none
  | none => none
theorem Ev_ca {scr : List Int32} {mi : Nat} {c : aF} {q : Nat} {as : List Value} {npc : Nat} {ls : aL} {r : List Value} {hh : aH} {w v : Option Value} {h1 h' : aH} (h : a_cac scr 99 mi c = some (q, as, npc, ls, r, hh)) (C : Cl q as hh w h1) (k : Ev scr mi (npc, ls, w.toList ++ r, h1) v h') : Ev scr mi c v h' := by
  unfold a_cac at h
  split at h
  · rename_i pc ls2 st hh2 hr
    split at h
    · rename_i i len npc2 tg hd
      split at h
      · cases h
      · rename_i hx
        split at h
        · cases h
        · rename_i hc
          split at h
          · cases h
          · rename_i hj
            split at h
            · cases h
            · rename_i hk
              split at h
              · rename_i q2 as2 r2 hcal
                obtain ⟨hf, he⟩ := a_cond_some h
                cases he
                refine a_run_ev 99 hr ?_
                obtain ⟨n1, e1⟩ := C
                obtain ⟨n2, e2⟩ := k
                refine ⟨n1 + n2 + 1, ?_⟩
                have hs : a_stp scr mi (pc, ls, st, hh) = none := by simp only [a_stp, hd, hx, hc, hj, hk]
                have hca : a_call mi (pc, ls, st, hh) = some (q, as, npc, ls, r, hh) := by simp only [a_call, hd, hcal, hf, cond_true]
                simp only [a_ev, hs, hca]
                rw [a_ev_more n1 n2 e1, Nat.add_comm n1 n2]
                exact a_ev_more n2 n1 e2
              · cases h
    · cases h
  · cases h
def a_rtc (scr : List Int32) (n mi : Nat) (c : aF) : Option (Bool × Option Value × aH) := match a_run n mi c with
  | some (pc, ls, st, h) => match decT mi pc with
    | some (i, len, npc, tg) => match a_exec mi i len npc ls st h with
      | some _ => none
      | none => match a_cnd i len tg st with
        | some _ => none
        | none => match a_jmp i len pc tg st with
          | some _ => none
          | none => match a_chk scr mi i len npc ls st h with
            | some _ => none
            | none => match a_cal mi i len st h with
              | some _ => none
              | none => match a_ret mi i len st with
                | some (b, v) => some (b, v, h)
                | none => none
    | none => none
  | none => none
theorem Ev_rt {scr : List Int32} {mi : Nat} {c : aF} {b : Bool} {w v : Option Value} {h1 h' : aH} (h : a_rtc scr 99 mi c = some (b, w, h1)) (hb : b = true) (hv : w = v) (hh : h1 = h') : Ev scr mi c v h' := by
  subst hv; subst hh
  unfold a_rtc at h
  split at h
  · rename_i pc ls2 st hh2 hr
    split at h
    · rename_i i len npc2 tg hd
      split at h
      · cases h
      · rename_i hx
        split at h
        · cases h
        · rename_i hc
          split at h
          · cases h
          · rename_i hj
            split at h
            · cases h
            · rename_i hk
              split at h
              · cases h
              · rename_i hcal
                split at h
                · rename_i b2 v2 hret
                  cases h
                  refine a_run_ev 99 hr ⟨1, ?_⟩
                  have hs : a_stp scr mi (pc, ls2, st, h1) = none := by simp only [a_stp, hd, hx, hc, hj, hk]
                  have hca : a_call mi (pc, ls2, st, h1) = none := by simp only [a_call, hd, hcal]
                  have hrt : a_rtn mi (pc, ls2, st, h1) = some (w, h1) := by simp only [a_rtn, hd, hret, hb, cond_true]
                  simp only [a_ev, hs, hca, hrt]
                · cases h
    · cases h
  · cases h

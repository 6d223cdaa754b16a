/-! the little machine's heap only grows -/
section
variable {scr : List Int32} {mi : Nat} {len npc pc : Nat} {ls : aL} {st : List Value} {h : aH} {c' : aF} {tg : Option Nat} {b : Bool}
def a_le (h h' : aH) : Prop := h.length ≤ h'.length ∧ a_sl h ≤ a_sl h'
theorem a_le.rf {h : aH} : a_le h h := ⟨Nat.le_refl _, Nat.le_refl _⟩
theorem a_le.tr {h h1 h2 : aH} (a : a_le h h1) (b : a_le h1 h2) : a_le h h2 := ⟨Nat.le_trans a.1 b.1, Nat.le_trans a.2 b.2⟩
theorem a_le.app {h : aH} {y : aC} : a_le h (h ++ [y]) := ⟨by rw [List.length_append]; omega, by rw [a_sl_app]; omega⟩
theorem a_le.set {h : aH} {q : Nat} {x y : aC} (hx : a_nth h q = some x) (he : a_size y = a_size x) : a_le h (h.set q y) := ⟨by rw [List.length_set]; exact Nat.le_refl _, by rw [a_sl_set hx he]; exact Nat.le_refl _⟩
theorem a_kk_le {β : Type} {n : Int} {k : Int32 → Option β} {r : β} {P : β → Prop} (h : a_kk n k = some r) (hP : ∀ y, k y = some r → P r) : P r := by
  rw [a_kk_eq] at h
  exact hP _ h
theorem a_exec_le {i : Instr} (hh : a_exec mi i len npc ls st h = some c') : a_le h c'.2.2.2 := by
  cases i
  case getfield k =>
    simp only [a_exec] at hh
    split at hh
    · split at hh
      · rename_i ci f n9 f9 t9 cj fs hF hq
        cases hb : Nat.beq ci cj with
        | false => rw [hb] at hh; cases hh
        | true =>
          rw [hb] at hh
          cases hv : a_nth fs f with
          | none => rw [hv] at hh; cases hh
          | some v => rw [hv] at hh; cases hh; exact a_le.rf
      · cases hh
    · split at hh
      · obtain ⟨-, hc⟩ := a_cond_some hh
        cases hc
        exact a_le.rf
      · obtain ⟨-, hc⟩ := a_cond_some hh
        cases hc
        exact a_le.rf
      · cases hh
    · cases hh
  case putfield k =>
    simp only [a_exec] at hh
    split at hh
    · rename_i v q r
      split at hh
      · rename_i ci f nest fin ty cj fs hF hq
        cases hb : Nat.beq ci cj with
        | false => rw [hb] at hh; cases hh
        | true =>
          rw [hb] at hh
          cases hb1 : a_fits ty v with
          | false => rw [hb1] at hh; cases hh
          | true =>
            rw [hb1] at hh
            cases hb2 : a_fin fin nest mi ci with
            | false => rw [hb2] at hh; cases hh
            | true =>
              rw [hb2] at hh
              cases hv : a_nth fs f with
              | none => rw [hv] at hh; cases hh
              | some v => rw [hv] at hh; cases hh; exact a_le.set hq (by simp [a_size])
      · cases hh
    · cases hh
  case arraylength =>
    simp only [a_exec] at hh
    split at hh
    · split at hh
      · obtain ⟨-, hc⟩ := a_cond_some hh
        cases hc
        exact a_le.rf
      · cases hh; exact a_le.rf
      · cases hh
    · rename_i j r
      cases hb : Nat.ble 10 j.toNat with
      | false => rw [hb] at hh; cases hh
      | true =>
        rw [hb] at hh
        cases hv : a_nth a_slen (j.toNat - 10) with
        | none => rw [hv] at hh; cases hh
        | some v => rw [hv] at hh; cases hh; exact a_le.rf
    · cases hh
  case new k =>
    simp only [a_exec] at hh
    split at hh
    · cases hh; exact a_le.app
    · cases hh
  case bipush n =>
    simp only [a_exec] at hh
    split at hh
    · obtain ⟨-, hc⟩ := a_cond_some hh
      cases hc
      exact a_le.rf
    · obtain ⟨-, hc⟩ := a_cond_some hh
      cases hc
      exact a_le.rf
    · cases hh
  case sipush n =>
    simp only [a_exec] at hh
    split at hh
    · obtain ⟨-, hc⟩ := a_cond_some hh
      cases hc
      exact a_le.rf
    · cases hh
  all_goals (simp only [a_exec] at hh; try (cases hh; done))
  all_goals (split at hh)
  all_goals (try (cases hh; done))
  all_goals (try (cases hh; exact a_le.rf))
  all_goals (first
    | (rw [a_kk_eq] at hh; cases hh; exact a_le.rf)
    | (rw [a_kkl_eq] at hh; cases hh; exact a_le.rf)
    | (rw [a_kk_eq] at hh; obtain ⟨-, ls', hk, -, -⟩ := a_st1_some hh; cases hk; exact a_le.rf)
    | (obtain ⟨-, ls', hk, -, -⟩ := a_st1_some hh; cases hk; exact a_le.rf)
    | (obtain ⟨-, ls', hk, -, -⟩ := a_st2_some hh; cases hk; exact a_le.rf))
theorem a_chk_le {i : Instr} (hh : a_chk scr mi i len npc ls st h = some (b, c')) (hb9 : b = true) : a_le h c'.2.2.2 := by
  cases i
  case baload =>
    simp only [a_chk] at hh
    split at hh
    · split at hh
      · cases hh; exact a_le.rf
      · cases hh; exact a_le.rf
      · cases hh
    · rename_i i j r
      cases hc9 : Nat.ble 10 j.toNat with
      | false => rw [hc9] at hh; cases hh
      | true =>
        rw [hc9] at hh
        cases h1 : a_nth a_slen (j.toNat - 10) with
        | none => rw [h1] at hh; cases hh
        | some n =>
          cases h2 : a_nth a_sbyt (j.toNat - 10) with
          | none => rw [h1, h2] at hh; cases hh
          | some l => rw [h1, h2] at hh; cases hh; exact a_le.rf
    · cases hh
  case arraylength =>
    simp only [a_chk] at hh
    split at hh
    · obtain ⟨-, hc⟩ := a_cond_some hh
      cases hc
      exact a_le.rf
    · cases hh
  case iaload =>
    simp only [a_chk] at hh
    split at hh
    · split at hh
      · cases hh; exact a_le.rf
      · cases hh
    · obtain ⟨-, hc⟩ := a_cond_some hh
      cases hc
      exact a_le.rf
    · cases hh
  case iastore =>
    simp only [a_chk] at hh
    split at hh
    · split at hh
      · rename_i l9 hq
        cases hh; exact a_le.set hq (by simp [a_size])
      · cases hh
    · cases hh
  case bastore =>
    simp only [a_chk] at hh
    split at hh
    · split at hh
      · rename_i l9 hq
        cases hh; exact a_le.set hq (by simp [a_size])
      · rename_i l9 hq
        cases hh; exact a_le.set hq (by simp [a_size])
      · cases hh
    · cases hh
  case aastore =>
    simp only [a_chk] at hh
    split at hh
    · split at hh
      · rename_i l9 fs hq ha
        cases hh; exact a_le.set hq (by simp [a_size])
      · cases hh
    · cases hh
  case aaload =>
    simp only [a_chk] at hh
    split at hh
    · split at hh
      · split at hh
        · cases hh; exact a_le.rf
        · cases hh
      · cases hh
    · cases hh
  case newarray t =>
    simp only [a_chk] at hh
    split at hh
    · split at hh
      · cases hh; exact a_le.app
      · cases hh; exact a_le.app
      · cases hh; exact a_le.app
      · cases hh
    · cases hh
  case anewarray k =>
    simp only [a_chk] at hh
    split at hh
    · cases hh; exact a_le.app
    · cases hh
  case invokestatic k =>
    simp only [a_chk] at hh
    split at hh
    · cases hh; exact a_le.rf
    · cases hh; exact a_le.rf
    · cases hh; exact a_le.rf
    · split at hh
      · rename_i l0 l1 hq0 hq1
        cases hh
        rw [Bool.and_eq_true] at hb9
        have h8 := of_decide_eq_true hb9.2
        exact a_le.set hq1 (by simp [a_size, h8.2.2.2.1])
      · cases hh
    · cases hh
  all_goals (simp only [a_chk] at hh; try (cases hh; done))
  all_goals (split at hh)
  all_goals (try (cases hh; done))
  all_goals (try (cases hh; exact a_le.rf))
theorem a_stp_le {f : aF} (hh : a_stp scr mi f = some c') : a_le f.2.2.2 c'.2.2.2 := by
  obtain ⟨pc, ls, st, h⟩ := f
  simp only [a_stp] at hh
  split at hh
  · cases hh
  · split at hh
    · rename_i c2 he
      cases hh
      exact a_exec_le he
    · split at hh
      · rename_i cc x y t r he
        cases hcb : a_cb cc x y with
        | true => rw [hcb] at hh; cases hh; exact a_le.rf
        | false => rw [hcb] at hh; cases hh; exact a_le.rf
      · split at hh
        · cases hh; exact a_le.rf
        · split at hh
          · rename_i b9 c2 he
            obtain ⟨hb9, hc⟩ := a_cond_some hh
            cases hc
            exact a_chk_le he hb9
          · cases hh
end
theorem a_call_heap {mi : Nat} {f : aF} {q : Nat} {as : List Value} {npc : Nat} {ls : aL} {r : List Value} {h : aH} (hh : a_call mi f = some (q, as, npc, ls, r, h)) : f.2.2.2 = h := by
  obtain ⟨pc, ls0, st, h0⟩ := f
  simp only [a_call] at hh
  split at hh
  · cases hh
  · split at hh
    · obtain ⟨-, hc⟩ := a_cond_some hh
      cases hc
      rfl
    · cases hh
theorem a_rtn_heap {mi : Nat} {f : aF} {v : Option Value} {h : aH} (hh : a_rtn mi f = some (v, h)) : f.2.2.2 = h := by
  obtain ⟨pc, ls0, st, h0⟩ := f
  simp only [a_rtn] at hh
  split at hh
  · cases hh
  · split at hh
    · obtain ⟨-, hc⟩ := a_cond_some hh
      cases hc
      rfl
    · cases hh
theorem a_ev_le : ∀ (n : Nat) {scr : List Int32} {mi : Nat} {f : aF} {v : Option Value} {h' : aH}, a_ev scr n mi f = some (v, h') → a_le f.2.2.2 h'
  | 0, _, _, _, _, _, hh => by simp only [a_ev] at hh; cases hh
  | n + 1, scr, mi, f, v, h', hh => by
    simp only [a_ev] at hh
    split at hh
    · rename_i c2 he
      exact (a_stp_le he).tr (a_ev_le n hh)
    · split at hh
      · rename_i q as npc ls r h he
        split at hh
        · rename_i v2 h2 he2
          rw [a_call_heap he]
          exact a_le.tr (a_ev_le n he2) (a_ev_le n hh)
        · cases hh
      · rw [a_rtn_heap hh]
        exact a_le.rf

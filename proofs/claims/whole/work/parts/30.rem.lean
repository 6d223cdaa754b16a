section
variable (S : cS) (T : aH)
/-- where the next one is remembered -/
def nxt (p : Nat) : Nat := if p = 9 then 0 else p + 1
theorem c_rem_tail1 (hu : C_un S ≤ 10) : Ev [] mX8_remember (38, [some (.ref 0)], [], hpC S ++ T) none (hpC (Cs_un S (min (C_un S + 1) 10)) ++ T) := by
  have hmin : (if nI 10 < nI (C_un S) + nI 1 then nI 10 else nI (C_un S) + nI 1) = nI (min (C_un S + 1) 10) := by
    rw [nI_add]
    by_cases h : 10 < C_un S + 1
    · rw [if_pos (nI_lt h (by omega)), Nat.min_eq_right (by omega)]
    · rw [if_neg (nI_nlt (by omega) (by decide)), Nat.min_eq_left (by omega)]
  refine Ev_ck rfl rfl ?_
  rw [hmin]
  exact Ev_rt rfl rfl rfl rfl
theorem Ev_h {scr : List Int32} {mi pc : Nat} {ls : aL} {st : List Value} {h h2 : aH} {v : Option Value} {h' : aH} (e : h = h2) (k : Ev scr mi (pc, ls, st, h2) v h') : Ev scr mi (pc, ls, st, h) v h' := e ▸ k
theorem c_rem_tail2 (hu : C_un S ≤ 10) (hp : C_pp S < 10) : Ev [] mX8_remember (15, [some (.ref 0)], [], hpC S ++ T) none (hpC (Cs_un (Cs_pp S (nxt (C_pp S))) (min (C_un S + 1) 10)) ++ T) := by
  refine Ev_br rfl (fun hc => ?_) (fun hc => ?_)
  · have hc : ¬ nI (C_pp S) = nI 9 := hc
    rw [nI_eq (by omega) (by decide)] at hc
    have e : nxt (C_pp S) = C_pp S + 1 := if_neg hc
    rw [e]
    refine a_run_ev 5 rfl ?_
    refine Ev_h (h2 := hpC (Cs_pp S (C_pp S + 1)) ++ T) (by rw [nI_add]; rfl) ?_
    exact c_rem_tail1 (Cs_pp S (C_pp S + 1)) T hu
  · have hc : ¬ ¬ nI (C_pp S) = nI 9 := hc
    rw [nI_eq (by omega) (by decide), Decidable.not_not] at hc
    have e : nxt (C_pp S) = 0 := if_pos hc
    rw [e]
    refine Ev_jp rfl (a_run_ev 1 rfl ?_)
    refine Ev_h (h2 := hpC (Cs_pp S 0) ++ T) rfl ?_
    exact c_rem_tail1 (Cs_pp S 0) T hu
/-- the state behind remember() -/
def remS (S : cS) : cS := Cs_un (Cs_pp (Cs_pm S (updM (C_pm S) (C_pp S) (C_nw S))) (nxt (C_pp S))) (min (C_un S + 1) 10)
theorem c_remember (hL : MoL (C_nw S)) (hP : ∀ j, MoL (C_pm S j)) (hp : C_pp S < 10) (hu : C_un S ≤ 10) : Cl mX8_remember [.ref 0] (hpC S ++ T) none (hpC (remS S) ++ T) := by
  refine Ev_ca rfl (c_past_store S T hp hL hP) ?_
  exact c_rem_tail2 (Cs_pm S (updM (C_pm S) (C_pp S) (C_nw S))) T hu hp
end

section
variable (S : cS) (T : aH)
/-- where the next one is remembered -/
def nxt (p : Nat) : Nat := if p = 9 then 0 else p + 1
/-- the state behind remember() -/
def remS (S : cS) : cS := Cs_un (Cs_pp (Cs_pm S (updM (C_pm S) (C_pp S) (C_nw S))) (nxt (C_pp S))) (min (C_un S + 1) 10)
theorem c_remember (hL : MoL (C_nw S)) (hP : ∀ j, MoL (C_pm S j)) (hp : C_pp S < 10) (hu : C_un S ≤ 10) : Cl mX8_remember [.ref 0] (hpC S ++ T) none (hpC (remS S) ++ T) := by
  refine Ev_ca rfl (c_past_store S T hp hL hP) ?_
  have hmin : (if nI 10 < nI (C_un S) + nI 1 then nI 10 else nI (C_un S) + nI 1) = nI (min (C_un S + 1) 10) := by
    rw [nI_add]
    by_cases h : 10 < C_un S + 1
    · rw [if_pos (nI_lt h (by omega)), Nat.min_eq_right (by omega)]
    · rw [if_neg (nI_nlt (by omega) (by decide)), Nat.min_eq_left (by omega)]
  refine Ev_br rfl (fun hc => ?_) (fun hc => ?_)
  · have hc : ¬ nI (C_pp S) = nI 9 := hc
    rw [nI_eq (by omega) (by decide)] at hc
    refine Ev_ck rfl rfl ?_
    show Ev [] mX8_remember (_, _, [Value.int (if nI 10 < nI (C_un S) + nI 1 then nI 10 else nI (C_un S) + nI 1), Value.ref 0], _) _ _
    rw [hmin]
    refine Ev_rt rfl rfl rfl ?_
    have e : nxt (C_pp S) = C_pp S + 1 := if_neg hc
    show _ = hpC (Cs_un (Cs_pp (Cs_pm S (updM (C_pm S) (C_pp S) (C_nw S))) (nxt (C_pp S))) (min (C_un S + 1) 10)) ++ T
    rw [e]
    simp only [nI_add]
    rfl
  · have hc : ¬ ¬ nI (C_pp S) = nI 9 := hc
    rw [nI_eq (by omega) (by decide), Decidable.not_not] at hc
    refine Ev_jp rfl (Ev_ck rfl rfl ?_)
    show Ev [] mX8_remember (_, _, [Value.int (if nI 10 < nI (C_un S) + nI 1 then nI 10 else nI (C_un S) + nI 1), Value.ref 0], _) _ _
    rw [hmin]
    refine Ev_rt rfl rfl rfl ?_
    have e : nxt (C_pp S) = 0 := if_pos hc
    show _ = hpC (Cs_un (Cs_pp (Cs_pm S (updM (C_pm S) (C_pp S) (C_nw S))) (nxt (C_pp S))) (min (C_un S + 1) 10)) ++ T
    rw [e]
    rfl
end

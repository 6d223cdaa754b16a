/-! the class's methods: what they answer (1) -/
abbrev kM1 : Int32 := a_k (.negSucc 0)
abbrev kM2 : Int32 := a_k (.negSucc 1)
abbrev kM3 : Int32 := a_k (.negSucc 2)
abbrev kM5 : Int32 := a_k (.negSucc 4)
abbrev kM9 : Int32 := a_k (.negSucc 8)
theorem b1z : ¬ nI 1 = 0 := by decide
theorem sw_out {x : Int32} {n : Nat} (hn : n < 2 ^ 31) (h : x < 0 ∨ nI n ≤ x) : x.toInt < 0 ∨ (n : Int) ≤ x.toInt := by
  rcases h with h | h
  · left
    have := Int32.lt_iff_toInt_lt.mp h
    simpa using this
  · right
    have := Int32.le_iff_toInt_le.mp h
    rw [nI_toInt hn] at this
    exact this
theorem pop_lt (n : Nat) : pop n < 9 := Nat.lt_succ_of_le (pop_le n)
section
variable (S : cS) (T : aH)
theorem cC_clear : Cl mX8_clear [.ref 0] (hpC S ++ T) (some (.int (nI (C_tl S)))) (hpC (Cs_tl S 0) ++ T) := Ev_rt rfl rfl rfl rfl
theorem cC_trace : Cl mX8_trace [.ref 0] (hpC S ++ T) (some (.long (lN (C_tr S)))) (hpC S ++ T) := Ev_rt rfl rfl rfl rfl
theorem cC_forget : Cl mX8_forget [.ref 0] (hpC S ++ T) (some (.int (nI (C_sm S)))) (hpC (Cs_sm S 0) ++ T) := Ev_rt rfl rfl rfl rfl
theorem cC_count_bad {x : Int32} (hx : x < 0 ∨ nI 5 ≤ x) : Cl mX8_count [.ref 0, .int x] (hpC S ++ T) (some (.int kM1)) (hpC S ++ T) := by
  have h := sw_out (by decide) hx
  exact Ev_sw rfl 73 (by rw [if_pos (by omega)]; rfl) (Ev_rt rfl rfl rfl rfl)
theorem cC_count0 : Cl mX8_count [.ref 0, .int (nI 0)] (hpC S ++ T) (some (.int (nI (ho_K (C_to S))))) (hpC S ++ T) := Ev_sw rfl 36 (by decide) (Ev_rt rfl rfl rfl rfl)
theorem cC_count1 : Cl mX8_count [.ref 0, .int (nI 1)] (hpC S ++ T) (some (.int (nI (ho_E (C_to S))))) (hpC S ++ T) := Ev_sw rfl 44 (by decide) (Ev_rt rfl rfl rfl rfl)
theorem cC_count2 : Cl mX8_count [.ref 0, .int (nI 2)] (hpC S ++ T) (some (.int (nI (ho_U (C_to S))))) (hpC S ++ T) := Ev_sw rfl 52 (by decide) (Ev_rt rfl rfl rfl rfl)
theorem cC_count3 : Cl mX8_count [.ref 0, .int (nI 3)] (hpC S ++ T) (some (.int (nI (C_sm S)))) (hpC S ++ T) := Ev_sw rfl 60 (by decide) (Ev_rt rfl rfl rfl rfl)
theorem cC_count4 : Cl mX8_count [.ref 0, .int (nI 4)] (hpC S ++ T) (some (.int (nI (C_tl S)))) (hpC S ++ T) := Ev_sw rfl 65 (by decide) (Ev_rt rfl rfl rfl rfl)
theorem cC_knocker_bad {x w : Int32} (hx : x < 0 ∨ nI (ho_K (C_to S)) ≤ x) : Cl mX8_knocker [.ref 0, .int x, .int w] (hpC S ++ T) (some (.int kM1)) (hpC S ++ T) := by
  refine Ev_ca rfl (c_isKnocker_f S T hx) ?_
  exact Ev_br rfl (fun hc => absurd nI_0 hc) (fun _ => Ev_rt rfl rfl rfl rfl)
theorem cC_knocker_bad2 {k : Nat} {w : Int32} (hk : k < ho_K (C_to S)) (hK : ho_K (C_to S) ≤ 5) (hx : w < 0 ∨ nI 4 ≤ w) : Cl mX8_knocker [.ref 0, .int (nI k), .int w] (hpC S ++ T) (some (.int kM1)) (hpC S ++ T) := by
  have h := sw_out (by decide) hx
  refine Ev_ca rfl (c_isKnocker_t S T hk hK) ?_
  refine Ev_br rfl (fun _ => ?_) (fun hc => absurd b1z hc)
  exact Ev_sw rfl 88 (by rw [if_pos (by omega)]; rfl) (Ev_rt rfl rfl rfl rfl)
theorem cC_knocker0 {k : Nat} (hk : k < ho_K (C_to S)) (hK : ho_K (C_to S) ≤ 5) (hL : HoL (C_to S)) : Cl mX8_knocker [.ref 0, .int (nI k), .int (nI 0)] (hpC S ++ T) (some (.int (nI (riC S k)))) (hpC S ++ T) := by
  have := hL.2.1
  refine Ev_ca rfl (c_isKnocker_t S T hk hK) ?_
  refine Ev_br rfl (fun _ => ?_) (fun hc => absurd b1z hc)
  refine Ev_sw rfl 40 (by decide) ?_
  exact Ev_ca rfl (c_at _ 9 (ho_R (C_to S)) k rfl (by omega) (by omega)) (Ev_rt rfl rfl rfl rfl)
theorem cC_knocker1 {k : Nat} (hk : k < ho_K (C_to S)) (hK : ho_K (C_to S) ≤ 5) (hL : MoL (C_nw S)) : Cl mX8_knocker [.ref 0, .int (nI k), .int (nI 1)] (hpC S ++ T) (some (.int (nI (sgC S k)))) (hpC S ++ T) := by
  refine Ev_ca rfl (c_isKnocker_t S T hk hK) ?_
  refine Ev_br rfl (fun _ => ?_) (fun hc => absurd b1z hc)
  refine Ev_sw rfl 52 (by decide) ?_
  exact Ev_ca rfl (c_signsOf S T hL (by omega)) (Ev_rt rfl rfl rfl rfl)
theorem cC_knocker2 {k : Nat} (hk : k < ho_K (C_to S)) (hK : ho_K (C_to S) ≤ 5) (hL : MoL (C_nw S)) : Cl mX8_knocker [.ref 0, .int (nI k), .int (nI 2)] (hpC S ++ T) (some (.int (nI (hrC S k)))) (hpC S ++ T) := by
  have := hL.2.1
  refine Ev_ca rfl (c_isKnocker_t S T hk hK) ?_
  refine Ev_br rfl (fun _ => ?_) (fun hc => absurd b1z hc)
  refine Ev_sw rfl 58 (by decide) ?_
  exact Ev_ca rfl (c_at _ 30 (C_nw S).2.1 k rfl (by omega) (by omega)) (Ev_rt rfl rfl rfl rfl)
theorem cC_knocker3 {k : Nat} (hk : k < ho_K (C_to S)) (hK : ho_K (C_to S) ≤ 5) (hL : MoL (C_nw S)) (hB : MoB (C_nw S)) (hU : ho_U (C_to S) ≤ 4) : Cl mX8_knocker [.ref 0, .int (nI k), .int (nI 3)] (hpC S ++ T) (some (.int (nI (leC S (sgC S k)).toNat))) (hpC S ++ T) := by
  refine Ev_ca rfl (c_isKnocker_t S T hk hK) ?_
  refine Ev_br rfl (fun _ => ?_) (fun hc => absurd b1z hc)
  refine Ev_sw rfl 70 (by decide) ?_
  refine Ev_ca rfl (c_signsOf S T hL (by omega)) ?_
  refine Ev_ca rfl (c_isLetIn S T hL hB (hB.1 k) hU) ?_
  cases hm : leC S (sgC S k) with
  | true => exact Ev_br rfl (fun hc => absurd hc b1z) (fun _ => Ev_jp rfl (Ev_rt rfl rfl rfl rfl))
  | false => exact Ev_br rfl (fun _ => Ev_rt rfl rfl rfl rfl) (fun hc => absurd nI_0 hc)
theorem cC_errand_bad {x w : Int32} (hx : x < 0 ∨ nI (ho_E (C_to S)) ≤ x) : Cl mX8_errand [.ref 0, .int x, .int w] (hpC S ++ T) (some (.int kM1)) (hpC S ++ T) := by
  refine Ev_ca rfl (c_isErrand_f S T hx) ?_
  exact Ev_br rfl (fun hc => absurd nI_0 hc) (fun _ => Ev_rt rfl rfl rfl rfl)
theorem cC_errand_bad2 {k : Nat} {w : Int32} (hk : k < ho_E (C_to S)) (hK : ho_E (C_to S) ≤ 6) (hx : w < 0 ∨ nI 3 ≤ w) : Cl mX8_errand [.ref 0, .int (nI k), .int w] (hpC S ++ T) (some (.int kM1)) (hpC S ++ T) := by
  have h := sw_out (by decide) hx
  refine Ev_ca rfl (c_isErrand_t S T hk hK) ?_
  refine Ev_br rfl (fun _ => ?_) (fun hc => absurd b1z hc)
  exact Ev_sw rfl 72 (by rw [if_pos (by omega)]; rfl) (Ev_rt rfl rfl rfl rfl)
theorem cC_errand0 {k : Nat} (hk : k < ho_E (C_to S)) (hK : ho_E (C_to S) ≤ 6) (hL : HoL (C_to S)) : Cl mX8_errand [.ref 0, .int (nI k), .int (nI 0)] (hpC S ++ T) (some (.int (nI (gd (ho_G (C_to S)) k)))) (hpC S ++ T) := by
  have := hL.2.2.1
  refine Ev_ca rfl (c_isErrand_t S T hk hK) ?_
  refine Ev_br rfl (fun _ => ?_) (fun hc => absurd b1z hc)
  refine Ev_sw rfl 36 (by decide) ?_
  exact Ev_ca rfl (c_at _ 10 (ho_G (C_to S)) k rfl (by omega) (by omega)) (Ev_rt rfl rfl rfl rfl)
theorem cC_errand1 {k : Nat} (hk : k < ho_E (C_to S)) (hK : ho_E (C_to S) ≤ 6) (hL : HoL (C_to S)) : Cl mX8_errand [.ref 0, .int (nI k), .int (nI 1)] (hpC S ++ T) (some (.int (nI (gd (ho_T (C_to S)) k)))) (hpC S ++ T) := by
  have := hL.2.2.2.1
  refine Ev_ca rfl (c_isErrand_t S T hk hK) ?_
  refine Ev_br rfl (fun _ => ?_) (fun hc => absurd b1z hc)
  refine Ev_sw rfl 48 (by decide) ?_
  exact Ev_ca rfl (c_at _ 11 (ho_T (C_to S)) k rfl (by omega) (by omega)) (Ev_rt rfl rfl rfl rfl)
theorem cC_errand2 {k : Nat} (hk : k < ho_E (C_to S)) (hK : ho_E (C_to S) ≤ 6) (hL : HoL (C_to S)) : Cl mX8_errand [.ref 0, .int (nI k), .int (nI 2)] (hpC S ++ T) (some (.int (nI (gd (ho_N (C_to S)) k)))) (hpC S ++ T) := by
  have := hL.2.2.2.2
  refine Ev_ca rfl (c_isErrand_t S T hk hK) ?_
  refine Ev_br rfl (fun _ => ?_) (fun hc => absurd b1z hc)
  refine Ev_sw rfl 60 (by decide) ?_
  exact Ev_ca rfl (c_at _ 12 (ho_N (C_to S)) k rfl (by omega) (by omega)) (Ev_rt rfl rfl rfl rfl)
theorem cC_rule_bad {x w : Int32} (hx : x < 0 ∨ nI (ho_U (C_to S)) ≤ x) : Cl mX8_rule [.ref 0, .int x, .int w] (hpC S ++ T) (some (.int kM1)) (hpC S ++ T) := by
  refine Ev_ca rfl (c_isRule_f S T hx) ?_
  exact Ev_br rfl (fun _ => Ev_rt rfl rfl rfl rfl) (fun hc => absurd nI_0 hc)
theorem cC_rule_bad2 {k : Nat} {w : Int32} (hk : k < ho_U (C_to S)) (hK : ho_U (C_to S) ≤ 4) (h0 : ¬ w = nI 0) (h1 : ¬ w = nI 1) : Cl mX8_rule [.ref 0, .int (nI k), .int w] (hpC S ++ T) (some (.int kM1)) (hpC S ++ T) := by
  refine Ev_ca rfl (c_isRule_t S T hk hK) ?_
  refine Ev_br rfl (fun hc => absurd hc b1z) (fun _ => ?_)
  refine Ev_ca rfl (c_isBit_f _ h0 h1) ?_
  exact Ev_br rfl (fun hc => absurd nI_0 hc) (fun _ => Ev_rt rfl rfl rfl rfl)
theorem cC_rule0 {k : Nat} (hk : k < ho_U (C_to S)) (hK : ho_U (C_to S) ≤ 4) (hL : MoL (C_nw S)) : Cl mX8_rule [.ref 0, .int (nI k), .int (nI 0)] (hpC S ++ T) (some (.int (nI (seC S k)))) (hpC S ++ T) := by
  have := hL.2.2.1
  refine Ev_ca rfl (c_isRule_t S T hk hK) ?_
  refine Ev_br rfl (fun hc => absurd hc b1z) (fun _ => ?_)
  refine Ev_ca rfl (c_isBit_t _ (k := 0) (by decide)) ?_
  refine Ev_br rfl (fun _ => ?_) (fun hc => absurd b1z hc)
  refine Ev_br rfl (fun hc => absurd nI_0 hc) (fun _ => ?_)
  exact Ev_ca rfl (c_at _ 31 (C_nw S).2.2.1 k rfl (by omega) (by omega)) (Ev_jp rfl (Ev_rt rfl rfl rfl rfl))
theorem cC_rule1 {k : Nat} (hk : k < ho_U (C_to S)) (hK : ho_U (C_to S) ≤ 4) (hL : MoL (C_nw S)) : Cl mX8_rule [.ref 0, .int (nI k), .int (nI 1)] (hpC S ++ T) (some (.int (nI (maC S k)))) (hpC S ++ T) := by
  have := hL.2.2.2
  refine Ev_ca rfl (c_isRule_t S T hk hK) ?_
  refine Ev_br rfl (fun hc => absurd hc b1z) (fun _ => ?_)
  refine Ev_ca rfl (c_isBit_t _ (k := 1) (by decide)) ?_
  refine Ev_br rfl (fun _ => ?_) (fun hc => absurd b1z hc)
  refine Ev_br rfl (fun _ => ?_) (fun hc => absurd b1z hc)
  exact Ev_ca rfl (c_at _ 32 (C_nw S).2.2.2 k rfl (by omega) (by omega)) (Ev_rt rfl rfl rfl rfl)
-- now
theorem andN32 : ∀ a, a < 32 → ∀ r, r < 32 → nI a &&& (nI r ^^^ kM1) = nI (a &&& (31 ^^^ r)) := by decide +kernel
theorem bits32 (f : Nat → Bool) {n : Nat} (hn : n ≤ 5) : bits f n < 32 := Nat.lt_of_lt_of_le (bits_lt f n) (Nat.pow_le_pow_right (by decide) hn)
abbrev liC : Nat := bits (fun k => leC S (sgC S k)) (ho_K (C_to S))
abbrev roC : Nat := bits (fun k => riC S k == 1) (ho_K (C_to S))
theorem cC_now_bad {x : Int32} (hx : x < 0 ∨ nI 5 ≤ x) : Cl mX8_now [.ref 0, .int x] (hpC S ++ T) (some (.int kM1)) (hpC S ++ T) := by
  have h := sw_out (by decide) hx
  exact Ev_sw rfl 78 (by rw [if_pos (by omega)]; rfl) (Ev_rt rfl rfl rfl rfl)
theorem cC_now0 (hL : MoL (C_nw S)) (hB : MoB (C_nw S)) (hK : ho_K (C_to S) ≤ 5) (hU : ho_U (C_to S) ≤ 4) : Cl mX8_now [.ref 0, .int (nI 0)] (hpC S ++ T) (some (.int (nI (liC S)))) (hpC S ++ T) :=
  Ev_sw rfl 36 (by decide) (Ev_ca rfl (c_letIn S T hL hB hK hU) (Ev_rt rfl rfl rfl rfl))
theorem cC_now1 (hL : MoL (C_nw S)) (hB : MoB (C_nw S)) (hK : ho_K (C_to S) ≤ 5) (hU : ho_U (C_to S) ≤ 4) (hL2 : HoL (C_to S)) (hB2 : HoB (C_to S)) : Cl mX8_now [.ref 0, .int (nI 1)] (hpC S ++ T) (some (.int (nI (liC S &&& (31 ^^^ roC S))))) (hpC S ++ T) := by
  refine Ev_sw rfl 41 (by decide) (Ev_ca rfl (c_letIn S T hL hB hK hU) (Ev_ca rfl (c_rightOnes S T hL2 hB2) ?_))
  refine Ev_rt rfl rfl ?_ rfl
  exact congrArg (fun z => some (Value.int z)) (andN32 _ (bits32 _ hK) _ (bits32 _ hK))
theorem cC_now2 (hL : MoL (C_nw S)) (hB : MoB (C_nw S)) (hK : ho_K (C_to S) ≤ 5) (hU : ho_U (C_to S) ≤ 4) (hL2 : HoL (C_to S)) (hB2 : HoB (C_to S)) : Cl mX8_now [.ref 0, .int (nI 2)] (hpC S ++ T) (some (.int (nI (roC S &&& (31 ^^^ liC S))))) (hpC S ++ T) := by
  refine Ev_sw rfl 53 (by decide) (Ev_ca rfl (c_rightOnes S T hL2 hB2) (Ev_ca rfl (c_letIn S T hL hB hK hU) ?_))
  refine Ev_rt rfl rfl ?_ rfl
  exact congrArg (fun z => some (Value.int z)) (andN32 _ (bits32 _ hK) _ (bits32 _ hK))
theorem cC_now3 : Cl mX8_now [.ref 0, .int (nI 3)] (hpC S ++ T) (some (.int (nI (C_un S)))) (hpC S ++ T) := Ev_sw rfl 65 (by decide) (Ev_rt rfl rfl rfl rfl)
theorem cC_now4 : Cl mX8_now [.ref 0, .int (nI 4)] (hpC S ++ T) (some (.int (nI (ho_L (C_to S))))) (hpC S ++ T) := Ev_sw rfl 70 (by decide) (Ev_rt rfl rfl rfl rfl)
end

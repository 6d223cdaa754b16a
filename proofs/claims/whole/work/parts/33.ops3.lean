/-! the class's methods: what they answer (3): knocks, runs, images, what was shown, kinds -/
/-- an ERRAND (its SIGN, what it needs) can be run by one with these SIGNS -/
def canR (g n x : Nat) : Bool := bt x g == 0 && (n == 9 || bt x n == 1)
theorem kM9_ne (k : Nat) (hk : k < 2 ^ 31) : ¬ nI k = kM9 := by
  intro h
  have h1 : kM9 < 0 := by decide
  rw [← h] at h1
  exact nI_pos hk h1
section
variable (S : cS) (T : aH)
theorem c_isOpen {e x : Nat} (he : e < 2 ^ 31) (hx : x < 256) (hL : HoL (C_to S)) (hB : HoB (C_to S)) : Cl mX1_isOpen [.ref 3, .int (nI e), .int (nI x)] (hpC S ++ T) (some (.int (nI (canR (gd (ho_G (C_to S)) e) (gd (ho_N (C_to S)) e) x).toNat))) (hpC S ++ T) := by
  have l1 := hL.2.2.1
  have l2 := hL.2.2.2.2
  have b1 : gd (ho_G (C_to S)) e < 8 := hB.2.2.1 e
  have b2 : gd (ho_N (C_to S)) e < 10 := hB.2.2.2.2.1 e
  generalize hg : gd (ho_G (C_to S)) e = g at b1
  generalize hn : gd (ho_N (C_to S)) e = n at b2
  refine Ev_ca rfl (c_at _ 12 (ho_N (C_to S)) e rfl (by omega) he) ?_
  refine Ev_ca rfl (c_at _ 10 (ho_G (C_to S)) e rfl (by omega) he) ?_
  rw [show (ho_G (C_to S)).getD e 0 = g from hg, show (ho_N (C_to S)).getD e 0 = n from hn]
  refine Ev_ca rfl (c_has _ (by omega) (by omega)) ?_
  have hb1 := bt_lt x g
  have hb2 := bt_lt x n
  by_cases h1 : bt x g = 0
  · rw [h1]
    refine Ev_br rfl (fun hc => absurd nI_0 hc) (fun _ => ?_)
    by_cases h2 : n = 9
    · subst h2
      refine Ev_br rfl (fun _ => ?_) (fun hc => absurd rfl hc)
      refine Ev_jp rfl (Ev_rt rfl rfl ?_ rfl)
      rw [show canR g 9 x = true by simp [canR, h1]]
      rfl
    · refine Ev_br rfl (fun hc => ?_) (fun _ => ?_)
      · have hc : nI n = nI 9 := hc
        rw [nI_eq (by omega) (by decide)] at hc
        exact absurd hc h2
      · refine Ev_ca rfl (c_has _ (by omega) (by omega)) ?_
        by_cases h3 : bt x n = 1
        · rw [h3]
          refine Ev_br rfl (fun hc => absurd hc b1z) (fun _ => ?_)
          refine Ev_jp rfl (Ev_rt rfl rfl ?_ rfl)
          rw [show canR g n x = true by simp [canR, h1, h3]]
          rfl
        · have h4 : bt x n = 0 := by omega
          rw [h4]
          refine Ev_br rfl (fun _ => ?_) (fun hc => absurd nI_0 hc)
          refine Ev_rt rfl rfl ?_ rfl
          rw [show canR g n x = false by simp [canR, h1, h2, h4]]
          rfl
  · have h4 : bt x g = 1 := by omega
    rw [h4]
    refine Ev_br rfl (fun _ => ?_) (fun hc => absurd b1z hc)
    refine Ev_rt rfl rfl ?_ rfl
    rw [show canR g n x = false by simp [canR, h4]]
    rfl
-- runs
theorem cC_runs_bad {x w : Int32} (hx : x < 0 ∨ nI (ho_K (C_to S)) ≤ x) : Cl mX8_runs [.ref 0, .int x, .int w] (hpC S ++ T) (some (.int kM1)) (hpC S ++ T) := by
  refine Ev_ca rfl (c_isKnocker_f S T hx) ?_
  exact Ev_br rfl (fun _ => Ev_rt rfl rfl rfl rfl) (fun hc => absurd nI_0 hc)
theorem cC_runs_bad2 {k : Nat} {w : Int32} (hk : k < ho_K (C_to S)) (hK : ho_K (C_to S) ≤ 5) (hw : w < 0 ∨ nI (ho_E (C_to S)) ≤ w) : Cl mX8_runs [.ref 0, .int (nI k), .int w] (hpC S ++ T) (some (.int kM1)) (hpC S ++ T) := by
  refine Ev_ca rfl (c_isKnocker_t S T hk hK) ?_
  refine Ev_br rfl (fun hc => absurd hc b1z) (fun _ => ?_)
  refine Ev_ca rfl (c_isErrand_f S T hw) ?_
  exact Ev_br rfl (fun hc => absurd nI_0 hc) (fun _ => Ev_rt rfl rfl rfl rfl)
abbrev geC (e : Nat) : Nat := gd (ho_G (C_to S)) e
abbrev taC (e : Nat) : Nat := gd (ho_T (C_to S)) e
abbrev neC (e : Nat) : Nat := gd (ho_N (C_to S)) e
theorem cC_runs_head {k e : Nat} {v : Option Value} {h' : aH} (hk : k < ho_K (C_to S)) (hK : ho_K (C_to S) ≤ 5) (he : e < ho_E (C_to S)) (hE : ho_E (C_to S) ≤ 6) (hL : MoL (C_nw S)) (hL2 : HoL (C_to S)) (kk : Ev [] mX8_runs (42, [some (.ref 0), some (.int (nI k)), some (.int (nI e)), some (.int (nI (hrC S k + taC S e)))], [], hpC S ++ T) v h') : Cl mX8_runs [.ref 0, .int (nI k), .int (nI e)] (hpC S ++ T) v h' := by
  have l1 := hL.2.1
  have l2 := hL2.2.2.2.1
  refine Ev_ca rfl (c_isKnocker_t S T hk hK) ?_
  refine Ev_br rfl (fun hc => absurd hc b1z) (fun _ => ?_)
  refine Ev_ca rfl (c_isErrand_t S T he hE) ?_
  refine Ev_br rfl (fun _ => ?_) (fun hc => absurd b1z hc)
  refine Ev_ca rfl (c_at _ 30 (C_nw S).2.1 k rfl (by omega) (by omega)) ?_
  refine Ev_ca rfl (c_at _ 11 (ho_T (C_to S)) e rfl (by omega) (by omega)) ?_
  refine a_run_ev 2 rfl ?_
  refine Ev_eq ?_ kk
  rw [← nI_add]
  rfl
theorem cC_runs_st1 {k e : Nat} (hk : k < ho_K (C_to S)) (hK : ho_K (C_to S) ≤ 5) (he : e < ho_E (C_to S)) (hE : ho_E (C_to S) ≤ 6) (hL : MoL (C_nw S)) (hL2 : HoL (C_to S)) (hB2 : HoB (C_to S)) (hB : MoB (C_nw S)) (hst : 99 < hrC S k + taC S e) : Cl mX8_runs [.ref 0, .int (nI k), .int (nI e)] (hpC S ++ T) (some (.int kM2)) (hpC S ++ T) := by
  have b1 : hrC S k < 100 := hB.2.1 k
  have b2 : taC S e < 10 := hB2.2.2.2.1 e
  refine cC_runs_head S T hk hK he hE hL hL2 ?_
  exact Ev_br rfl (fun _ => Ev_rt rfl rfl rfl rfl) (fun hc => absurd (nI_lt hst (by omega)) hc)
theorem cC_runs_st2 {k e : Nat} (hk : k < ho_K (C_to S)) (hK : ho_K (C_to S) ≤ 5) (he : e < ho_E (C_to S)) (hE : ho_E (C_to S) ≤ 6) (hL : MoL (C_nw S)) (hL2 : HoL (C_to S)) (hB2 : HoB (C_to S)) (hB : MoB (C_nw S)) (hst : hrC S k + taC S e ≤ 99) (hop : canR (geC S e) (neC S e) (sgC S k) = false) : Cl mX8_runs [.ref 0, .int (nI k), .int (nI e)] (hpC S ++ T) (some (.int kM2)) (hpC S ++ T) := by
  have b3 : sgC S k < 256 := hB.1 k
  refine cC_runs_head S T hk hK he hE hL hL2 ?_
  refine Ev_br rfl (fun hc => absurd hc (nI_nlt hst (by decide))) (fun _ => ?_)
  refine Ev_ca rfl (c_signsOf S T hL (by omega)) ?_
  refine Ev_ca rfl (c_isOpen S T (by omega) b3 hL2 hB2) ?_
  rw [hop]
  exact Ev_br rfl (fun hc => absurd nI_0 hc) (fun _ => Ev_rt rfl rfl rfl rfl)
theorem cC_runs_tail {k e H : Nat} (hk : k < 5) (he : e < 2 ^ 31) (hL : MoL (C_nw S)) (hB : MoB (C_nw S)) (hL2 : HoL (C_to S)) (hB2 : HoB (C_to S)) : Ev [] mX8_runs (71, [some (.ref 0), some (.int (nI k)), some (.int (nI e)), some (.int (nI H))], [], hpC S ++ T) (some (.int (nI H))) (hpC (hrS (sgS S k (sgC S k ||| 2 ^ geC S e)) k H) ++ T) := by
  have b1 : geC S e < 8 := hB2.2.2.1 e
  have b3 : sgC S k < 256 := hB.1 k
  have l1 := hL2.2.2.1
  have hp := pow_lt31 (n := geC S e) (k := 8) b1 (by omega)
  refine Ev_ca rfl (c_signsOf S T hL (by omega)) ?_
  refine Ev_ca rfl (c_at _ 10 (ho_G (C_to S)) e rfl (by omega) he) ?_
  refine Ev_cae rfl (as' := [.ref 29, .int (nI k), .int (nI (sgC S k ||| 2 ^ geC S e))]) ?_ (c_putSg S T hL hk) ?_
  · rw [← nI_or (by omega) (by omega), ← nI_shl1 (by omega)]
    rfl
  refine Ev_ca rfl (c_putHr (sgS S k (sgC S k ||| 2 ^ geC S e)) T (MoL_sg hL _ _) hk) ?_
  exact Ev_rt rfl rfl rfl rfl
theorem cC_runs {k e : Nat} (hk : k < ho_K (C_to S)) (hK : ho_K (C_to S) ≤ 5) (he : e < ho_E (C_to S)) (hE : ho_E (C_to S) ≤ 6) (hL : MoL (C_nw S)) (hL2 : HoL (C_to S)) (hB2 : HoB (C_to S)) (hB : MoB (C_nw S)) (hst : hrC S k + taC S e ≤ 99) (hop : canR (geC S e) (neC S e) (sgC S k) = true) (hP : ∀ j, MoL (C_pm S j)) (hp : C_pp S < 10) (hu : C_un S ≤ 10) : Cl mX8_runs [.ref 0, .int (nI k), .int (nI e)] (hpC S ++ T) (some (.int (nI (hrC S k + taC S e)))) (hpC (hrS (sgS (remS S) k (sgC S k ||| 2 ^ geC S e)) k (hrC S k + taC S e)) ++ T) := by
  have b3 : sgC S k < 256 := hB.1 k
  refine cC_runs_head S T hk hK he hE hL hL2 ?_
  refine Ev_br rfl (fun hc => absurd hc (nI_nlt hst (by decide))) (fun _ => ?_)
  refine Ev_ca rfl (c_signsOf S T hL (by omega)) ?_
  refine Ev_ca rfl (c_isOpen S T (by omega) b3 hL2 hB2) ?_
  rw [hop]
  refine Ev_br rfl (fun _ => ?_) (fun hc => absurd b1z hc)
  refine Ev_ca rfl (c_remember S T hL hP hp hu) ?_
  exact cC_runs_tail (remS S) T (by omega) (by omega) hL hB hL2 hB2
-- knocks
theorem cC_knocks_bad {x w : Int32} (hx : x < 0 ∨ nI (ho_K (C_to S)) ≤ x) : Cl mX8_knocks [.ref 0, .int x, .int w] (hpC S ++ T) (some (.int kM1)) (hpC S ++ T) := by
  refine Ev_br rfl (fun _ => ?_) (fun _ => Ev_jp rfl ?_)
  · refine Ev_ca rfl (c_isKnocker_f S T hx) ?_
    exact Ev_br rfl (fun _ => Ev_rt rfl rfl rfl rfl) (fun hc => absurd nI_0 hc)
  · refine Ev_ca rfl (c_isKnocker_f S T hx) ?_
    exact Ev_br rfl (fun _ => Ev_rt rfl rfl rfl rfl) (fun hc => absurd nI_0 hc)
theorem cC_knocks_same {k : Nat} (hk : k < ho_K (C_to S)) (hK : ho_K (C_to S) ≤ 5) : Cl mX8_knocks [.ref 0, .int (nI k), .int (nI k)] (hpC S ++ T) (some (.int kM1)) (hpC S ++ T) := by
  refine Ev_br rfl (fun _ => ?_) (fun hc => absurd (kM9_ne k (by omega)) hc)
  refine Ev_ca rfl (c_isKnocker_t S T hk hK) ?_
  refine Ev_br rfl (fun hc => absurd hc b1z) (fun _ => ?_)
  exact Ev_br rfl (fun _ => Ev_rt rfl rfl rfl rfl) (fun hc => absurd rfl hc)
theorem cC_knocks_bad2 {k : Nat} {w : Int32} (hk : k < ho_K (C_to S)) (hK : ho_K (C_to S) ≤ 5) (hw : w < 0 ∨ nI (ho_K (C_to S)) ≤ w) (h9 : ¬ w = kM9) : Cl mX8_knocks [.ref 0, .int (nI k), .int w] (hpC S ++ T) (some (.int kM1)) (hpC S ++ T) := by
  refine Ev_br rfl (fun _ => ?_) (fun hc => absurd h9 hc)
  refine Ev_ca rfl (c_isKnocker_t S T hk hK) ?_
  refine Ev_br rfl (fun hc => absurd hc b1z) (fun _ => ?_)
  refine Ev_br rfl (fun _ => Ev_rt rfl rfl rfl rfl) (fun _ => ?_)
  refine Ev_br rfl (fun hc => absurd nI_0 hc) (fun _ => ?_)
  refine Ev_ca rfl (c_isKnocker_f S T hw) ?_
  exact Ev_br rfl (fun hc => absurd nI_0 hc) (fun _ => Ev_rt rfl rfl rfl rfl)
theorem cC_knocks_end {k : Nat} {w a b : Value} (hk : k < 5) (hL : MoL (C_nw S)) (hB : MoB (C_nw S)) (hU : ho_U (C_to S) ≤ 4) : Ev [] mX8_knocks (86, [some (.ref 0), some (.int (nI k)), some w, some a, some b], [], hpC S ++ T) (some (.int (nI (leC S (sgC S k)).toNat))) (hpC S ++ T) := by
  refine Ev_ca rfl (c_signsOf S T hL (by omega)) ?_
  refine Ev_ca rfl (c_isLetIn S T hL hB (hB.1 k) hU) ?_
  cases hm : leC S (sgC S k) with
  | true => exact Ev_br rfl (fun hc => absurd hc b1z) (fun _ => Ev_jp rfl (Ev_rt rfl rfl rfl rfl))
  | false => exact Ev_br rfl (fun _ => Ev_rt rfl rfl rfl rfl) (fun hc => absurd nI_0 hc)
abbrev heC (k : Nat) : Nat := (sgC S k &&& ho_L (C_to S)) &&& ors (seC S) (ho_U (C_to S))
theorem cC_knocks_mid {k z : Nat} {w : Value} {v : Option Value} {h' : aH} (hk : k < 5) (hL : MoL (C_nw S)) (hB : MoB (C_nw S)) (hU : ho_U (C_to S) ≤ 4) (hLd : ho_L (C_to S) < 256) (kk : Ev [] mX8_knocks (63, [some (.ref 0), some (.int (nI k)), some w, some (.int (nI z)), some (.int (nI (heC S k)))], [], hpC S ++ T) v h') : Ev [] mX8_knocks (43, [some (.ref 0), some (.int (nI k)), some w, some (.int (nI z)), none], [], hpC S ++ T) v h' := by
  have b3 : sgC S k < 256 := hB.1 k
  have b4 : ors (seC S) (ho_U (C_to S)) < 256 := ors_lt (fun i => hB.2.2.1 i) _
  have hle : sgC S k &&& ho_L (C_to S) ≤ sgC S k := Nat.and_le_left
  refine Ev_ca rfl (c_signsOf S T hL (by omega)) ?_
  refine Ev_ca rfl (c_signsOfRules S T hL hB hU) ?_
  refine a_run_ev 2 rfl ?_
  refine Ev_eq ?_ kk
  rw [← nI_and (show sgC S k &&& ho_L (C_to S) < 2 ^ 31 by omega) (by omega), ← nI_and (by omega) (by omega)]
  rfl
theorem cC_knocks_none {k : Nat} (hk : k < ho_K (C_to S)) (hK : ho_K (C_to S) ≤ 5) (hL : MoL (C_nw S)) (hB : MoB (C_nw S)) (hU : ho_U (C_to S) ≤ 4) (hLd : ho_L (C_to S) < 256) (hP : ∀ j, MoL (C_pm S j)) (hp : C_pp S < 10) (hu : C_un S ≤ 10) : Cl mX8_knocks [.ref 0, .int (nI k), .int kM9] (hpC S ++ T) (some (.int (nI (leC S (sgC S k)).toNat))) (hpC (remS S) ++ T) := by
  refine Ev_br rfl (fun hc => absurd rfl hc) (fun _ => Ev_jp rfl ?_)
  refine Ev_ca rfl (c_isKnocker_t S T hk hK) ?_
  refine Ev_br rfl (fun hc => absurd hc b1z) (fun _ => ?_)
  refine Ev_br rfl (fun hc => absurd hc (kM9_ne k (by omega))) (fun _ => ?_)
  refine Ev_br rfl (fun _ => ?_) (fun hc => absurd b1z hc)
  refine Ev_ca rfl (c_remember S T hL hP hp hu) ?_
  refine cC_knocks_mid (remS S) T (by omega) hL hB hU hLd ?_
  refine Ev_br rfl (fun _ => ?_) (fun hc => absurd b1z hc)
  exact cC_knocks_end (remS S) T (by omega) hL hB hU
theorem cC_knocks_tail {k j : Nat} (hk : k < 5) (hj : j < 5) (hL : MoL (C_nw S)) (hB : MoB (C_nw S)) (hU : ho_U (C_to S) ≤ 4) (hLd : ho_L (C_to S) < 256) : Ev [] mX8_knocks (43, [some (.ref 0), some (.int (nI k)), some (.int (nI j)), some (.int (nI 0)), none], [], hpC S ++ T) (some (.int (nI (leC S (sgC (sgS S j (sgC S j ||| heC S k)) k)).toNat))) (hpC (sgS S j (sgC S j ||| heC S k)) ++ T) := by
  have b3 : sgC S k < 256 := hB.1 k
  have b5 : sgC S j < 256 := hB.1 j
  have hle : sgC S k &&& ho_L (C_to S) ≤ sgC S k := Nat.and_le_left
  have hle2 : heC S k ≤ sgC S k &&& ho_L (C_to S) := Nat.and_le_left
  have hor : sgC S j ||| heC S k < 256 := Nat.or_lt_two_pow (n := 8) b5 (by omega)
  refine cC_knocks_mid S T hk hL hB hU hLd ?_
  refine Ev_br rfl (fun hc => absurd nI_0 hc) (fun _ => ?_)
  refine Ev_ca rfl (c_signsOf S T hL (by omega)) ?_
  refine Ev_cae rfl (as' := [.ref 29, .int (nI j), .int (nI (sgC S j ||| heC S k))]) ?_ (c_putSg S T hL hj) ?_
  · rw [← nI_or (by omega) (by omega)]
  exact cC_knocks_end (sgS S j (sgC S j ||| heC S k)) T hk (MoL_sg hL _ _) (MoB_sg hB _ _ hor) hU
theorem cC_knocks {k j : Nat} (hk : k < ho_K (C_to S)) (hj : j < ho_K (C_to S)) (hkj : k ≠ j) (hK : ho_K (C_to S) ≤ 5) (hL : MoL (C_nw S)) (hB : MoB (C_nw S)) (hU : ho_U (C_to S) ≤ 4) (hLd : ho_L (C_to S) < 256) (hP : ∀ j, MoL (C_pm S j)) (hp : C_pp S < 10) (hu : C_un S ≤ 10) : Cl mX8_knocks [.ref 0, .int (nI k), .int (nI j)] (hpC S ++ T) (some (.int (nI (leC S (sgC (sgS S j (sgC S j ||| heC S k)) k)).toNat))) (hpC (sgS (remS S) j (sgC S j ||| heC S k)) ++ T) := by
  refine Ev_br rfl (fun _ => ?_) (fun hc => absurd (kM9_ne j (by omega)) hc)
  refine Ev_ca rfl (c_isKnocker_t S T hk hK) ?_
  refine Ev_br rfl (fun hc => absurd hc b1z) (fun _ => ?_)
  refine Ev_br rfl (fun hc => ?_) (fun _ => ?_)
  · have hc : nI k = nI j := hc
    rw [nI_eq (by omega) (by omega)] at hc
    exact absurd hc hkj
  refine Ev_br rfl (fun hc => absurd nI_0 hc) (fun _ => ?_)
  refine Ev_ca rfl (c_isKnocker_t S T hj hK) ?_
  refine Ev_br rfl (fun _ => ?_) (fun hc => absurd b1z hc)
  refine Ev_ca rfl (c_remember S T hL hP hp hu) ?_
  exact cC_knocks_tail (remS S) T (by omega) (by omega) hL hB hU hLd
end

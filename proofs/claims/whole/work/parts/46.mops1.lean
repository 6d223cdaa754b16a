/-! the reference's reading methods, shown, notes -/
section
variable (S : cS) (M : mS)
theorem cM_clear : Cl mX9_clear [.ref 104] (hp S M) (some (.int (nI (M_ty M)))) (hp S (Ms_ty M 0)) := Ev_rt rfl rfl rfl rfl
theorem cM_trace : Cl mX9_trace [.ref 104] (hp S M) (some (.long (lN (M_tr M)))) (hp S M) := Ev_rt rfl rfl rfl rfl
theorem cM_forget : Cl mX9_forget [.ref 104] (hp S M) (some (.int (nI (M_sm M)))) (hp S (Ms_sm M 0)) := Ev_rt rfl rfl rfl rfl
theorem ne0 {n : Nat} (h0 : 0 < n) (h : n < 2 ^ 31) : ¬ nI n = 0 := nI_ne0 h0 h
theorem cM_count0 : Cl mX9_count [.ref 104, .int (nI 0)] (hp S M) (some (.int (nI (M_kn M)))) (hp S M) := Ev_br rfl (fun hc => absurd nI_0 hc) (fun _ => Ev_jp rfl (Ev_rt rfl rfl rfl rfl))
theorem cM_count1 : Cl mX9_count [.ref 104, .int (nI 1)] (hp S M) (some (.int (nI (M_em M)))) (hp S M) := by
  refine Ev_br rfl (fun _ => ?_) (fun hc => absurd b1z hc)
  exact Ev_br rfl (fun hc => absurd rfl hc) (fun _ => Ev_jp rfl (Ev_rt rfl rfl rfl rfl))
theorem cM_count2 : Cl mX9_count [.ref 104, .int (nI 2)] (hp S M) (some (.int (nI (M_ru M)))) (hp S M) := by
  refine Ev_br rfl (fun _ => ?_) (fun hc => absurd (show ¬ nI 2 = 0 by decide) hc)
  refine Ev_br rfl (fun _ => ?_) (fun hc => absurd (show ¬ nI 2 = nI 1 by decide) hc)
  exact Ev_br rfl (fun hc => absurd rfl hc) (fun _ => Ev_jp rfl (Ev_rt rfl rfl rfl rfl))
theorem cM_count3 : Cl mX9_count [.ref 104, .int (nI 3)] (hp S M) (some (.int (nI (M_sm M)))) (hp S M) := by
  refine Ev_br rfl (fun _ => ?_) (fun hc => absurd (show ¬ nI 3 = 0 by decide) hc)
  refine Ev_br rfl (fun _ => ?_) (fun hc => absurd (show ¬ nI 3 = nI 1 by decide) hc)
  refine Ev_br rfl (fun _ => ?_) (fun hc => absurd (show ¬ nI 3 = nI 2 by decide) hc)
  exact Ev_br rfl (fun hc => absurd rfl hc) (fun _ => Ev_jp rfl (Ev_rt rfl rfl rfl rfl))
theorem cM_count4 : Cl mX9_count [.ref 104, .int (nI 4)] (hp S M) (some (.int (nI (M_ty M)))) (hp S M) := by
  refine Ev_br rfl (fun _ => ?_) (fun hc => absurd (show ¬ nI 4 = 0 by decide) hc)
  refine Ev_br rfl (fun _ => ?_) (fun hc => absurd (show ¬ nI 4 = nI 1 by decide) hc)
  refine Ev_br rfl (fun _ => ?_) (fun hc => absurd (show ¬ nI 4 = nI 2 by decide) hc)
  refine Ev_br rfl (fun _ => ?_) (fun hc => absurd (show ¬ nI 4 = nI 3 by decide) hc)
  exact Ev_br rfl (fun hc => absurd rfl hc) (fun _ => Ev_jp rfl (Ev_rt rfl rfl rfl rfl))
/-- a number that is no one below n -/
theorem out_ne {x : Int32} {n k : Nat} (hx : x < 0 ∨ nI n ≤ x) (hk : k < n) (hn : n < 2 ^ 31) : ¬ x = nI k := by
  intro e
  subst e
  rcases hx with hx | hx
  · exact nI_pos (by omega) hx
  · exact nI_ge hk hn hx
theorem out_ne0 {x : Int32} {n : Nat} (hx : x < 0 ∨ nI n ≤ x) (hk : 0 < n) (hn : n < 2 ^ 31) : ¬ x = 0 := by
  rw [← nI_0]
  exact out_ne hx hk hn
theorem cM_count_bad {x : Int32} (hx : x < 0 ∨ nI 5 ≤ x) : Cl mX9_count [.ref 104, .int x] (hp S M) (some (.int kM1)) (hp S M) := by
  refine Ev_br rfl (fun _ => ?_) (fun hc => absurd (out_ne0 hx (by decide) (by decide)) hc)
  refine Ev_br rfl (fun _ => ?_) (fun hc => absurd (out_ne hx (show 1 < 5 by decide) (by decide)) hc)
  refine Ev_br rfl (fun _ => ?_) (fun hc => absurd (out_ne hx (show 2 < 5 by decide) (by decide)) hc)
  refine Ev_br rfl (fun _ => ?_) (fun hc => absurd (out_ne hx (show 3 < 5 by decide) (by decide)) hc)
  exact Ev_br rfl (fun _ => Ev_rt rfl rfl rfl rfl) (fun hc => absurd (out_ne hx (show 4 < 5 by decide) (by decide)) hc)
-- knocker
theorem bad4 {w : Int32} {n m : Nat} (e : n = m + 1) (hm : m < 2 ^ 30) (hx : w < 0 ∨ nI n ≤ w) : w < nI 0 ∨ nI m < w := by
  subst e
  rcases hx with hx | hx
  · exact Or.inl (by rw [nI_0]; exact hx)
  · right
    rw [Int32.lt_iff_toInt_lt, nI_toInt (by omega)]
    have := Int32.le_iff_toInt_le.mp hx
    rw [nI_toInt (by omega)] at this
    omega
theorem cM_knocker_bad {x w : Int32} (hb : M_kn M ≤ 5) (hx : x < 0 ∨ nI (M_kn M) ≤ x) : Cl mX9_knocker [.ref 104, .int x, .int w] (hp S M) (some (.int kM1)) (hp S M) := by
  refine a_run_ev 3 rfl (Ev_h (h2 := hp S M) rfl ?_)
  refine Ev_ca rfl (r_isK_f S M hb hx) ?_
  exact Ev_br rfl (fun _ => Ev_rt rfl rfl rfl rfl) (fun hc => absurd nI_0 hc)
theorem cM_knocker_bad2 {k : Nat} {w : Int32} (hb : M_kn M ≤ 5) (hk : k < M_kn M) (hx : w < 0 ∨ nI 4 ≤ w) : Cl mX9_knocker [.ref 104, .int (nI k), .int w] (hp S M) (some (.int kM1)) (hp S M) := by
  refine a_run_ev 3 rfl (Ev_h (h2 := hp S M) rfl ?_)
  refine Ev_ca rfl (r_isK_t S M hk hb) ?_
  refine Ev_br rfl (fun hc => absurd hc b1z) (fun _ => ?_)
  refine Ev_ca rfl (r_in_f _ (bad4 rfl (by decide) hx)) ?_
  exact Ev_br rfl (fun hc => absurd nI_0 hc) (fun _ => Ev_rt rfl rfl rfl rfl)
theorem cM_knocker_head {k w : Nat} {v : Option Value} {h' : aH} (hb : M_kn M ≤ 5) (hk : k < M_kn M) (hw : w < 4) (kk : Ev [] mX9_knocker (24, [some (.ref 104), some (.int (nI k)), some (.int (nI w))], [], hp S M) v h') : Cl mX9_knocker [.ref 104, .int (nI k), .int (nI w)] (hp S M) v h' := by
  refine a_run_ev 3 rfl (Ev_h (h2 := hp S M) rfl ?_)
  refine Ev_ca rfl (r_isK_t S M hk hb) ?_
  refine Ev_br rfl (fun hc => absurd hc b1z) (fun _ => ?_)
  refine Ev_ca rfl (r_in_t _ (Nat.zero_le _) (show w ≤ 3 by omega) (by decide)) ?_
  exact Ev_br rfl (fun _ => kk) (fun hc => absurd b1z hc)
theorem cM_knocker0 {k : Nat} (hL : ML M) (hB : MB M) (hk : k < M_kn M) : Cl mX9_knocker [.ref 104, .int (nI k), .int (nI 0)] (hp S M) (some (.int (nI (riM M k)))) (hp S M) := by
  have hb := hB.2.2.2.2.1
  have l := hL.2.1
  refine cM_knocker_head S M hb hk (by decide) ?_
  refine Ev_br rfl (fun hc => absurd hc (show ¬ nI 2 ≤ nI 0 by decide)) (fun _ => ?_)
  refine Ev_br rfl (fun hc => absurd nI_0 hc) (fun _ => ?_)
  refine Ev_ial rfl (i := k) rfl (by omega) (by omega) ?_
  exact Ev_jp rfl (Ev_rt rfl rfl rfl rfl)
theorem cM_knocker1 {k : Nat} (hL : ML M) (hB : MB M) (hk : k < M_kn M) : Cl mX9_knocker [.ref 104, .int (nI k), .int (nI 1)] (hp S M) (some (.int (nI (sgM M k)))) (hp S M) := by
  have hb := hB.2.2.2.2.1
  have l := hL.2.2.2.2.2.1
  refine cM_knocker_head S M hb hk (by decide) ?_
  refine Ev_br rfl (fun hc => absurd hc (show ¬ nI 2 ≤ nI 1 by decide)) (fun _ => ?_)
  refine Ev_br rfl (fun _ => ?_) (fun hc => absurd b1z hc)
  exact Ev_ial rfl (i := k) rfl (by omega) (by omega) (Ev_rt rfl rfl rfl rfl)
theorem cM_knocker2 {k : Nat} (hL : ML M) (hB : MB M) (hk : k < M_kn M) : Cl mX9_knocker [.ref 104, .int (nI k), .int (nI 2)] (hp S M) (some (.int (nI (hrM M k)))) (hp S M) := by
  have hb := hB.2.2.2.2.1
  have l := hL.2.2.2.2.2.1
  refine cM_knocker_head S M hb hk (by decide) ?_
  refine Ev_br rfl (fun _ => ?_) (fun hc => absurd (show nI 2 ≤ nI 2 by decide) hc)
  refine Ev_br rfl (fun hc => absurd rfl hc) (fun _ => ?_)
  refine Ev_ial rfl (i := 5 + k) (nI_add _ _) (by omega) (by omega) ?_
  exact Ev_jp rfl (Ev_rt rfl rfl rfl rfl)
theorem cM_knocker3 {k : Nat} (hL : ML M) (hB : MB M) (hk : k < M_kn M) : Cl mX9_knocker [.ref 104, .int (nI k), .int (nI 3)] (hp S M) (some (.int (nI (leM M (sgM M k)).toNat))) (hp S M) := by
  have hb := hB.2.2.2.2.1
  have l := hL.2.2.2.2.2.1
  refine cM_knocker_head S M hb hk (by decide) ?_
  refine Ev_br rfl (fun _ => ?_) (fun hc => absurd (show nI 2 ≤ nI 3 by decide) hc)
  refine Ev_br rfl (fun _ => ?_) (fun hc => absurd (show ¬ nI 3 = nI 2 by decide) hc)
  refine Ev_ial rfl (i := k) rfl (by omega) (by omega) ?_
  refine Ev_ca rfl (r_isLetIn S M hL hB (hB.1 k (by omega)).1) ?_
  cases leM M (sgM M k) with
  | true => exact Ev_br rfl (fun hc => absurd hc b1z) (fun _ => Ev_jp rfl (Ev_rt rfl rfl rfl rfl))
  | false => exact Ev_br rfl (fun _ => Ev_rt rfl rfl rfl rfl) (fun hc => absurd nI_0 hc)
-- errand, rule
theorem cM_errand_bad {x w : Int32} (hb : M_em M ≤ 6) (hx : x < 0 ∨ nI (M_em M) ≤ x) : Cl mX9_errand [.ref 104, .int x, .int w] (hp S M) (some (.int kM1)) (hp S M) := by
  refine a_run_ev 3 rfl (Ev_h (h2 := hp S M) rfl ?_)
  refine Ev_ca rfl (r_isE_f S M hb hx) ?_
  exact Ev_br rfl (fun _ => Ev_rt rfl rfl rfl rfl) (fun hc => absurd nI_0 hc)
theorem cM_errand_bad2 {k : Nat} {w : Int32} (hb : M_em M ≤ 6) (hk : k < M_em M) (hx : w < 0 ∨ nI 3 ≤ w) : Cl mX9_errand [.ref 104, .int (nI k), .int w] (hp S M) (some (.int kM1)) (hp S M) := by
  refine a_run_ev 3 rfl (Ev_h (h2 := hp S M) rfl ?_)
  refine Ev_ca rfl (r_isE_t S M hk hb) ?_
  refine Ev_br rfl (fun hc => absurd hc b1z) (fun _ => ?_)
  refine Ev_ca rfl (r_in_f _ (bad4 rfl (by decide) hx)) ?_
  exact Ev_br rfl (fun _ => Ev_rt rfl rfl rfl rfl) (fun hc => absurd nI_0 hc)
theorem cM_errand {k w : Nat} (hL : ML M) (hB : MB M) (hk : k < M_em M) (hw : w < 3) : Cl mX9_errand [.ref 104, .int (nI k), .int (nI w)] (hp S M) (some (.int (nI (gd (M_er M) (3 * k + w))))) (hp S M) := by
  have hb := hB.2.2.2.2.2.1
  have l := hL.2.2.2.1
  refine a_run_ev 3 rfl (Ev_h (h2 := hp S M) rfl ?_)
  refine Ev_ca rfl (r_isE_t S M hk hb) ?_
  refine Ev_br rfl (fun hc => absurd hc b1z) (fun _ => ?_)
  refine Ev_ca rfl (r_in_t _ (Nat.zero_le _) (show w ≤ 2 by omega) (by decide)) ?_
  refine Ev_br rfl (fun hc => absurd hc b1z) (fun _ => ?_)
  refine Ev_ial rfl (i := 3 * k + w) (by rw [pk_mul, nI_add]) (by omega) (by omega) ?_
  exact Ev_jp rfl (Ev_rt rfl rfl rfl rfl)
theorem cM_rule_bad {x w : Int32} (hb : M_ru M ≤ 4) (hx : x < 0 ∨ nI (M_ru M) ≤ x) : Cl mX9_rule [.ref 104, .int x, .int w] (hp S M) (some (.int kM1)) (hp S M) := by
  refine a_run_ev 3 rfl (Ev_h (h2 := hp S M) rfl ?_)
  refine Ev_ca rfl (r_isU_f S M hb hx) ?_
  exact Ev_br rfl (fun _ => Ev_rt rfl rfl rfl rfl) (fun hc => absurd nI_0 hc)
/-- a number that is neither 0 nor 1 -/
theorem bad01 {w : Int32} (h0 : ¬ w = nI 0) (h1 : ¬ w = nI 1) : w < nI 0 ∨ nI 1 < w := by
  rcases pk_ix w (n := 2) (by decide) with h | h | h
  · exact bad4 (n := 2) rfl (by decide) (Or.inl h)
  · exact bad4 (n := 2) rfl (by decide) (Or.inr h)
  · obtain ⟨j, hj, e⟩ := h
    match j, hj with
    | 0, _ => exact absurd e h0
    | 1, _ => exact absurd e h1
theorem cM_rule_bad2 {k : Nat} {w : Int32} (hb : M_ru M ≤ 4) (hk : k < M_ru M) (h0 : ¬ w = nI 0) (h1 : ¬ w = nI 1) : Cl mX9_rule [.ref 104, .int (nI k), .int w] (hp S M) (some (.int kM1)) (hp S M) := by
  refine a_run_ev 3 rfl (Ev_h (h2 := hp S M) rfl ?_)
  refine Ev_ca rfl (r_isU_t S M hk hb) ?_
  refine Ev_br rfl (fun hc => absurd hc b1z) (fun _ => ?_)
  refine Ev_ca rfl (r_in_f _ (bad01 h0 h1)) ?_
  exact Ev_br rfl (fun _ => Ev_rt rfl rfl rfl rfl) (fun hc => absurd nI_0 hc)
theorem cM_rule0 {k : Nat} (hL : ML M) (hB : MB M) (hk : k < M_ru M) : Cl mX9_rule [.ref 104, .int (nI k), .int (nI 0)] (hp S M) (some (.int (nI (seM M k)))) (hp S M) := by
  have hb := hB.2.2.2.2.2.2.1
  have l := hL.2.2.2.2.2.1
  refine a_run_ev 3 rfl (Ev_h (h2 := hp S M) rfl ?_)
  refine Ev_ca rfl (r_isU_t S M hk hb) ?_
  refine Ev_br rfl (fun hc => absurd hc b1z) (fun _ => ?_)
  refine Ev_ca rfl (r_in_t _ (Nat.zero_le _) (show 0 ≤ 1 by omega) (by decide)) ?_
  refine Ev_br rfl (fun hc => absurd hc b1z) (fun _ => ?_)
  refine Ev_br rfl (fun hc => absurd nI_0 hc) (fun _ => ?_)
  refine Ev_ial rfl (i := 10 + k) (nI_add _ _) (by omega) (by omega) ?_
  exact Ev_jp rfl (Ev_rt rfl rfl rfl rfl)
theorem cM_rule1 {k : Nat} (hL : ML M) (hB : MB M) (hk : k < M_ru M) : Cl mX9_rule [.ref 104, .int (nI k), .int (nI 1)] (hp S M) (some (.int (nI (maM M k)))) (hp S M) := by
  have hb := hB.2.2.2.2.2.2.1
  have l := hL.2.2.2.2.2.1
  refine a_run_ev 3 rfl (Ev_h (h2 := hp S M) rfl ?_)
  refine Ev_ca rfl (r_isU_t S M hk hb) ?_
  refine Ev_br rfl (fun hc => absurd hc b1z) (fun _ => ?_)
  refine Ev_ca rfl (r_in_t _ (Nat.zero_le _) (show 1 ≤ 1 by omega) (by decide)) ?_
  refine Ev_br rfl (fun hc => absurd hc b1z) (fun _ => ?_)
  refine Ev_br rfl (fun _ => ?_) (fun hc => absurd b1z hc)
  refine Ev_ial rfl (i := 14 + k) (nI_add _ _) (by omega) (by omega) ?_
  exact Ev_jp rfl (Ev_rt rfl rfl rfl rfl)
-- now
abbrev liM : Nat := bits (fun k => leM M (sgM M k)) (M_kn M)
abbrev roM : Nat := bits (fun k => riM M k == 1) (M_kn M)
theorem cM_now0 (hL : ML M) (hB : MB M) : Cl mX9_now [.ref 104, .int (nI 0)] (hp S M) (some (.int (nI (liM M)))) (hp S M) := by
  refine Ev_br rfl (fun hc => absurd hc (show ¬ nI 3 ≤ nI 0 by decide)) (fun _ => ?_)
  refine Ev_br rfl (fun hc => absurd nI_0 hc) (fun _ => ?_)
  refine Ev_h (h2 := hp S M) rfl ?_
  exact Ev_ca rfl (r_letIn S M hL hB) (Ev_jp rfl (Ev_rt rfl rfl rfl rfl))
theorem bits256 (f : Nat → Bool) {n : Nat} (h : n ≤ 5) : bits f n < 256 := Nat.lt_of_lt_of_le (bits_lt f n) (Nat.le_trans (Nat.pow_le_pow_right (by decide) h) (by decide))
theorem cM_now1 (hL : ML M) (hB : MB M) : Cl mX9_now [.ref 104, .int (nI 1)] (hp S M) (some (.int (nI (liM M &&& (255 ^^^ roM M))))) (hp S M) := by
  have hK := hB.2.2.2.2.1
  refine Ev_br rfl (fun hc => absurd hc (show ¬ nI 3 ≤ nI 1 by decide)) (fun _ => ?_)
  refine Ev_br rfl (fun _ => ?_) (fun hc => absurd b1z hc)
  refine Ev_br rfl (fun hc => absurd rfl hc) (fun _ => ?_)
  refine Ev_h (h2 := hp S M) rfl ?_
  refine Ev_ca rfl (r_letIn S M hL hB) ?_
  refine Ev_ca rfl (r_rightOnes S M hL hB) ?_
  refine Ev_jp rfl ?_
  refine Ev_rt rfl rfl ?_ rfl
  rw [← andN _ (bits256 _ hK) _ (bits256 _ hK)]
theorem cM_now2 (hL : ML M) (hB : MB M) : Cl mX9_now [.ref 104, .int (nI 2)] (hp S M) (some (.int (nI (roM M &&& (255 ^^^ liM M))))) (hp S M) := by
  have hK := hB.2.2.2.2.1
  refine Ev_br rfl (fun hc => absurd hc (show ¬ nI 3 ≤ nI 2 by decide)) (fun _ => ?_)
  refine Ev_br rfl (fun _ => ?_) (fun hc => absurd (show ¬ nI 2 = 0 by decide) hc)
  refine Ev_br rfl (fun _ => ?_) (fun hc => absurd (show ¬ nI 2 = nI 1 by decide) hc)
  refine Ev_br rfl (fun hc => absurd rfl hc) (fun _ => ?_)
  refine Ev_h (h2 := hp S M) rfl ?_
  refine Ev_ca rfl (r_rightOnes S M hL hB) ?_
  refine Ev_ca rfl (r_letIn S M hL hB) ?_
  refine Ev_jp rfl ?_
  refine Ev_rt rfl rfl ?_ rfl
  rw [← andN _ (bits256 _ hK) _ (bits256 _ hK)]
theorem cM_now3 : Cl mX9_now [.ref 104, .int (nI 3)] (hp S M) (some (.int (nI (M_um M)))) (hp S M) := by
  refine Ev_br rfl (fun _ => ?_) (fun hc => absurd (show nI 3 ≤ nI 3 by decide) hc)
  exact Ev_br rfl (fun hc => absurd rfl hc) (fun _ => Ev_jp rfl (Ev_rt rfl rfl rfl rfl))
theorem cM_now4 : Cl mX9_now [.ref 104, .int (nI 4)] (hp S M) (some (.int (nI (M_ld M)))) (hp S M) := by
  refine Ev_br rfl (fun _ => ?_) (fun hc => absurd (show nI 3 ≤ nI 4 by decide) hc)
  refine Ev_br rfl (fun _ => ?_) (fun hc => absurd (show ¬ nI 4 = nI 3 by decide) hc)
  exact Ev_br rfl (fun hc => absurd rfl hc) (fun _ => Ev_jp rfl (Ev_rt rfl rfl rfl rfl))
theorem cM_now_bad {x : Int32} (hx : x < 0 ∨ nI 5 ≤ x) : Cl mX9_now [.ref 104, .int x] (hp S M) (some (.int kM1)) (hp S M) := by
  refine Ev_br rfl (fun _ => ?_) (fun _ => ?_)
  · refine Ev_br rfl (fun _ => ?_) (fun hc => absurd (out_ne hx (show 3 < 5 by decide) (by decide)) hc)
    exact Ev_br rfl (fun _ => Ev_rt rfl rfl rfl rfl) (fun hc => absurd (out_ne hx (show 4 < 5 by decide) (by decide)) hc)
  · refine Ev_br rfl (fun _ => ?_) (fun hc => absurd (out_ne0 hx (by decide) (by decide)) hc)
    refine Ev_br rfl (fun _ => ?_) (fun hc => absurd (out_ne hx (show 1 < 5 by decide) (by decide)) hc)
    exact Ev_br rfl (fun _ => Ev_rt rfl rfl rfl rfl) (fun hc => absurd (out_ne hx (show 2 < 5 by decide) (by decide)) hc)
-- shown
theorem cM_shown_bad {x w : Int32} (hx : x < 0 ∨ nI 8 ≤ x) : Cl mX9_shown [.ref 104, .int x, .int w] (hp S M) (some (.int kM1)) (hp S M) := by
  refine a_run_ev 3 rfl (Ev_h (h2 := hp S M) rfl ?_)
  refine Ev_ca rfl (r_in_f _ (bad4 rfl (by decide) hx)) ?_
  exact Ev_br rfl (fun _ => Ev_rt rfl rfl rfl rfl) (fun hc => absurd nI_0 hc)
theorem cM_shown_bad2 {k : Nat} {w : Int32} (hk : k < 8) (h0 : ¬ w = nI 0) (h1 : ¬ w = nI 1) : Cl mX9_shown [.ref 104, .int (nI k), .int w] (hp S M) (some (.int kM1)) (hp S M) := by
  refine a_run_ev 3 rfl (Ev_h (h2 := hp S M) rfl ?_)
  refine Ev_ca rfl (r_in_t _ (Nat.zero_le _) (show k ≤ 7 by omega) (by decide)) ?_
  refine Ev_br rfl (fun hc => absurd hc b1z) (fun _ => ?_)
  refine Ev_ca rfl (r_in_f _ (bad01 h0 h1)) ?_
  exact Ev_br rfl (fun hc => absurd nI_0 hc) (fun _ => Ev_rt rfl rfl rfl rfl)
theorem cM_shown_head {k w : Nat} {v : Option Value} {h' : aH} (hk : k < 8) (hw : w < 2) (kk : Ev [] mX9_shown (26, [some (.ref 104), some (.int (nI k)), some (.int (nI w))], [], hp S M) v h') : Cl mX9_shown [.ref 104, .int (nI k), .int (nI w)] (hp S M) v h' := by
  refine a_run_ev 3 rfl (Ev_h (h2 := hp S M) rfl ?_)
  refine Ev_ca rfl (r_in_t _ (Nat.zero_le _) (show k ≤ 7 by omega) (by decide)) ?_
  refine Ev_br rfl (fun hc => absurd hc b1z) (fun _ => ?_)
  refine Ev_ca rfl (r_in_t _ (Nat.zero_le _) (show w ≤ 1 by omega) (by decide)) ?_
  exact Ev_br rfl (fun _ => kk) (fun hc => absurd b1z hc)
theorem cM_shown_full {k w : Nat} (hk : k < 8) (hw : w < 2) (h6 : M_sm M = 6) : Cl mX9_shown [.ref 104, .int (nI k), .int (nI w)] (hp S M) (some (.int kM3)) (hp S M) := by
  refine cM_shown_head S M hk hw ?_
  refine Ev_br rfl (fun hc => ?_) (fun _ => Ev_rt rfl rfl rfl rfl)
  have hc : nI (M_sm M) ≠ nI 6 := hc
  rw [h6] at hc
  exact absurd rfl hc
abbrev shoM (k w : Nat) : mS := Ms_sm (Ms_sh (Ms_ss M ((M_ss M).set (M_sm M) k)) ((M_sh M).set (M_sm M) w)) (M_sm M + 1)
theorem cM_shown {k w : Nat} (hL : ML M) (hk : k < 8) (hw : w < 2) (h6 : M_sm M < 6) : Cl mX9_shown [.ref 104, .int (nI k), .int (nI w)] (hp S M) (some (.int (nI (M_sm M + 1)))) (hp S (shoM M k w)) := by
  have l1 := hL.2.2.2.2.2.2.2.2.2.1
  have l2 := hL.2.2.2.2.2.2.2.2.2.2
  refine cM_shown_head S M hk hw ?_
  refine Ev_br rfl (fun _ => ?_) (fun hc => ?_)
  · refine Ev_isl rfl (i := M_sm M) (y := k) rfl rfl (by omega) (by omega) (h2 := hp S (Ms_ss M ((M_ss M).set (M_sm M) k))) rfl ?_
    refine Ev_isl rfl (i := M_sm M) (y := w) rfl rfl (show M_sm M < (M_sh M).length by omega) (show (M_sh M).length ≤ 1000 by omega) (h2 := hp S (Ms_sh (Ms_ss M ((M_ss M).set (M_sm M) k)) ((M_sh M).set (M_sm M) w))) rfl ?_
    refine a_run_ev 6 rfl ?_
    refine Ev_h (h2 := hp S (shoM M k w)) (by rw [nI_add]; rfl) ?_
    exact Ev_rt rfl rfl rfl rfl
  · have hc : ¬ nI (M_sm M) ≠ nI 6 := hc
    rw [Decidable.not_not, nI_eq (by omega) (by decide)] at hc
    omega
end

/-! the reference's keep, back, rate, who, tell -/
/-- the row s copied into L from o on, n of it -/
def cpK (L s : List Nat) (o : Nat) : Nat → List Nat
  | 0 => L
  | k + 1 => (cpK L s o k).set (o + k) (gd s k)
theorem cpK_len (L s : List Nat) (o : Nat) : ∀ k, (cpK L s o k).length = L.length
  | 0 => rfl
  | k + 1 => by
    show ((cpK L s o k).set _ _).length = _
    rw [List.length_set]
    exact cpK_len L s o k
theorem cpK_gd (L s : List Nat) (o : Nat) : ∀ k, o + k ≤ L.length → ∀ j, gd (cpK L s o k) j = if o ≤ j ∧ j < o + k then gd s (j - o) else gd L j
  | 0, _, j => by rw [if_neg (by omega)]; rfl
  | k + 1, h, j => by
    show gd ((cpK L s o k).set (o + k) (gd s k)) j = _
    rw [gd_set, cpK_len, cpK_gd L s o k (by omega) j]
    by_cases e : o + k = j
    · subst e
      rw [if_pos ⟨rfl, by omega⟩, if_pos (by omega), Nat.add_sub_cancel_left]
    · rw [if_neg (fun q => e q.1)]
      by_cases h2 : o ≤ j ∧ j < o + k
      · rw [if_pos h2, if_pos (by omega)]
      · rw [if_neg h2, if_neg (by omega)]
def cpB (L s : List Nat) (o : Nat) : Nat → List Nat
  | 0 => L
  | k + 1 => (cpB L s o k).set k (gd s (o + k))
theorem cpB_len (L s : List Nat) (o : Nat) : ∀ k, (cpB L s o k).length = L.length
  | 0 => rfl
  | k + 1 => by
    show ((cpB L s o k).set _ _).length = _
    rw [List.length_set]
    exact cpB_len L s o k
theorem cpB_gd (L s : List Nat) (o : Nat) : ∀ k, k ≤ L.length → ∀ j, gd (cpB L s o k) j = if j < k then gd s (o + j) else gd L j
  | 0, _, j => by rw [if_neg (by omega)]; rfl
  | k + 1, h, j => by
    show gd ((cpB L s o k).set k (gd s (o + k))) j = _
    rw [gd_set, cpB_len, cpB_gd L s o k (by omega) j]
    by_cases e : k = j
    · subst e
      rw [if_pos ⟨rfl, by omega⟩, if_pos (by omega)]
    · rw [if_neg (fun q => e q.1)]
      by_cases h2 : j < k
      · rw [if_pos h2, if_pos (by omega)]
      · rw [if_neg h2, if_neg (by omega)]
section
variable (S : cS) (M : mS)
theorem cM_keep_bad {x : Int32} (hx : x < 0 ∨ nI 2 ≤ x) : Cl mX9_keep [.ref 104, .int x] (hp S M) (some (.int kM1)) (hp S M) := by
  refine a_run_ev 3 rfl (Ev_h (h2 := hp S M) rfl ?_)
  refine Ev_ca rfl (r_in_f _ (bad4 rfl (by decide) hx)) ?_
  exact Ev_br rfl (fun hc => absurd nI_0 hc) (fun _ => Ev_rt rfl rfl rfl rfl)
theorem cM_keep_loop {i : Nat} (hi : i < 2) (hL : ML M) (hB : MB M) (X : List Nat) (hX : cpK (M_kp M) (M_s M) (18 * i) 18 = X) : ∀ (d k : Nat), k + d = 18 → Ev [] mX9_keep (18, [some (.ref 104), some (.int (nI i)), some (.int (nI k))], [], hp S (Ms_kp M (cpK (M_kp M) (M_s M) (18 * i) k))) (some (.int (nI (pop (liM M))))) (hp S (Ms_ik (Ms_kp M X) ((M_ik M).set i 1)))
  | 0, k, e => by
    have e : k = 18 := by omega
    subst e
    have hXl : X.length = 36 := by rw [← hX, cpK_len]; exact hL.2.2.2.2.2.2.1
    have hK := hB.2.2.2.2.1
    obtain ⟨l1, l2, l3, l4, l5, l6, l7, l8, l9, l10, l11⟩ := hL
    rw [hX]
    refine Ev_br rfl (fun _ => ?_) (fun hc => absurd (nI_le (Nat.le_refl _) (by decide)) hc)
    refine Ev_ck rfl (a_inN (show i < ((M_ik M).map nI).length by rw [List.length_map]; omega) (show ((M_ik M).map nI).length < 2 ^ 31 by rw [List.length_map]; omega)) ?_
    refine Ev_h (h2 := hp S (Ms_ik (Ms_kp M X) ((M_ik M).set i 1))) ?_ ?_
    · rw [show nI 1 &&& 1 = nI 1 by decide, show (M_ik (Ms_kp M X)).map nI = (M_ik M).map nI from rfl, a_mapset (M_ik M) i 1 (by omega)]
      rfl
    refine Ev_ca rfl (r_letIn S (Ms_ik (Ms_kp M X) ((M_ik M).set i 1)) ⟨l1, l2, l3, l4, l5, l6, hXl, by show ((M_ik M).set i 1).length = 2; rw [List.length_set]; exact l8, l9, l10, l11⟩ hB) ?_
    exact Ev_ca rfl (r_ones _ (bits256 _ hK)) (Ev_rt rfl rfl rfl rfl)
  | d + 1, k, e => by
    have hl2 := cpK_len (M_kp M) (M_s M) (18 * i) k
    have l7 := hL.2.2.2.2.2.2.1
    have l6 := hL.2.2.2.2.2.1
    have ih := cM_keep_loop hi hL hB X hX d (k + 1) (by omega)
    have hs : cpK (M_kp M) (M_s M) (18 * i) (k + 1) = (cpK (M_kp M) (M_s M) (18 * i) k).set (18 * i + k) (gd (M_s M) k) := rfl
    rw [hs] at ih
    generalize cpK (M_kp M) (M_s M) (18 * i) k = Y at hl2 ih ⊢
    refine Ev_br rfl (fun hc => absurd hc (nI_ge (show k < 18 by omega) (by decide))) (fun _ => ?_)
    refine Ev_ial rfl (i := k) rfl (show k < (M_s M).length by omega) (show (M_s M).length ≤ 1000 by omega) ?_
    refine Ev_isl rfl (i := 18 * i + k) (y := gd (M_s M) k) (by rw [pk_mul, nI_add]) rfl (show 18 * i + k < Y.length by omega) (show Y.length ≤ 1000 by omega) (h2 := hp S (Ms_kp M (Y.set (18 * i + k) (gd (M_s M) k)))) rfl ?_
    refine Ev_jpe rfl ?_ ih
    rw [nI_add]
theorem cM_keep {i : Nat} (hi : i < 2) (hL : ML M) (hB : MB M) (X : List Nat) (hX : cpK (M_kp M) (M_s M) (18 * i) 18 = X) : Cl mX9_keep [.ref 104, .int (nI i)] (hp S M) (some (.int (nI (pop (liM M))))) (hp S (Ms_ik (Ms_kp M X) ((M_ik M).set i 1))) := by
  refine a_run_ev 3 rfl (Ev_h (h2 := hp S M) rfl ?_)
  refine Ev_ca rfl (r_in_t _ (Nat.zero_le _) (show i ≤ 1 by omega) (by decide)) ?_
  refine Ev_br rfl (fun _ => ?_) (fun hc => absurd b1z hc)
  exact a_run_ev 2 rfl (cM_keep_loop S M hi hL hB X hX 18 0 (by omega))
theorem cM_back_bad {x : Int32} (hx : x < 0 ∨ nI 2 ≤ x) : Cl mX9_back [.ref 104, .int x] (hp S M) (some (.int kM1)) (hp S M) := by
  refine a_run_ev 3 rfl (Ev_h (h2 := hp S M) rfl ?_)
  refine Ev_ca rfl (r_in_f _ (bad4 rfl (by decide) hx)) ?_
  exact Ev_br rfl (fun hc => absurd nI_0 hc) (fun _ => Ev_rt rfl rfl rfl rfl)
theorem cM_back_head {i : Nat} {v : Option Value} {h' : aH} (hi : i < 2) (hL : ML M) (kk : Ev [] mX9_back (22, [some (.ref 104), some (.int (nI i)), none], [.int (nI (gd (M_ik M) i))], hp S M) v h') : Cl mX9_back [.ref 104, .int (nI i)] (hp S M) v h' := by
  have l8 := hL.2.2.2.2.2.2.2.1
  refine a_run_ev 3 rfl (Ev_h (h2 := hp S M) rfl ?_)
  refine Ev_ca rfl (r_in_t _ (Nat.zero_le _) (show i ≤ 1 by omega) (by decide)) ?_
  refine Ev_br rfl (fun _ => ?_) (fun hc => absurd b1z hc)
  exact Ev_ial rfl (i := i) rfl (by omega) (by omega) kk
theorem cM_back_st {i : Nat} (hi : i < 2) (hL : ML M) (h0 : gd (M_ik M) i = 0) : Cl mX9_back [.ref 104, .int (nI i)] (hp S M) (some (.int kM2)) (hp S M) := by
  refine cM_back_head S M hi hL ?_
  rw [h0]
  exact Ev_br rfl (fun hc => absurd nI_0 hc) (fun _ => Ev_rt rfl rfl rfl rfl)
theorem cM_back_loop {i : Nat} (hi : i < 2) (hL : ML M) (hB : MB M) (X : List Nat) (hX : cpB (M_s M) (M_kp M) (18 * i) 18 = X) (hXB : sB X) : ∀ (d k : Nat), k + d = 18 → Ev [] mX9_back (30, [some (.ref 104), some (.int (nI i)), some (.int (nI k))], [], hp S (Ms_s M (cpB (M_s M) (M_kp M) (18 * i) k))) (some (.int (nI (pop (liM (Ms_s M X)))))) (hp S (Ms_um (Ms_s M X) 0))
  | 0, k, e => by
    have e : k = 18 := by omega
    subst e
    have hXl : X.length = 18 := by rw [← hX, cpB_len]; exact hL.2.2.2.2.2.1
    have hK := hB.2.2.2.2.1
    obtain ⟨l1, l2, l3, l4, l5, l6, l7, l8, l9, l10, l11⟩ := hL
    rw [hX]
    refine Ev_br rfl (fun _ => ?_) (fun hc => absurd (nI_le (Nat.le_refl _) (by decide)) hc)
    refine a_run_ev 3 rfl (Ev_h (h2 := hp S (Ms_um (Ms_s M X) 0)) rfl ?_)
    refine Ev_ca rfl (r_letIn S (Ms_um (Ms_s M X) 0) ⟨l1, l2, l3, l4, l5, hXl, l7, l8, l9, l10, l11⟩ (MB_of hB hXB)) ?_
    exact Ev_ca rfl (r_ones _ (bits256 _ hK)) (Ev_rt rfl rfl rfl rfl)
  | d + 1, k, e => by
    have hl2 := cpB_len (M_s M) (M_kp M) (18 * i) k
    have l7 := hL.2.2.2.2.2.2.1
    have l6 := hL.2.2.2.2.2.1
    have ih := cM_back_loop hi hL hB X hX hXB d (k + 1) (by omega)
    have hs : cpB (M_s M) (M_kp M) (18 * i) (k + 1) = (cpB (M_s M) (M_kp M) (18 * i) k).set k (gd (M_kp M) (18 * i + k)) := rfl
    rw [hs] at ih
    generalize cpB (M_s M) (M_kp M) (18 * i) k = Y at hl2 ih ⊢
    refine Ev_br rfl (fun hc => absurd hc (nI_ge (show k < 18 by omega) (by decide))) (fun _ => ?_)
    refine Ev_ial rfl (i := 18 * i + k) (by rw [pk_mul, nI_add]) (show 18 * i + k < (M_kp M).length by omega) (show (M_kp M).length ≤ 1000 by omega) ?_
    refine Ev_isl rfl (i := k) (y := gd (M_kp M) (18 * i + k)) rfl rfl (show k < Y.length by omega) (show Y.length ≤ 1000 by omega) (h2 := hp S (Ms_s M (Y.set k (gd (M_kp M) (18 * i + k))))) rfl ?_
    refine Ev_jpe rfl ?_ ih
    rw [nI_add]
theorem cM_back {i : Nat} (hi : i < 2) (hL : ML M) (hB : MB M) (h1 : gd (M_ik M) i = 1) (X : List Nat) (hX : cpB (M_s M) (M_kp M) (18 * i) 18 = X) (hXB : sB X) : Cl mX9_back [.ref 104, .int (nI i)] (hp S M) (some (.int (nI (pop (liM (Ms_s M X)))))) (hp S (Ms_um (Ms_s M X) 0)) := by
  refine cM_back_head S M hi hL ?_
  rw [h1]
  refine Ev_br rfl (fun _ => ?_) (fun hc => absurd b1z hc)
  exact a_run_ev 2 rfl (cM_back_loop S M hi hL hB X hX hXB 18 0 (by omega))
-- rate
theorem cM_rate_bad {x k : Int32} (hx : x < 0 ∨ nI 6 ≤ x) : Cl mX9_rate [.ref 104, .int x, .int k] (hp S M) (some (.int (a_k (-1000000)))) (hp S M) := by
  refine a_run_ev 3 rfl (Ev_h (h2 := hp S M) rfl ?_)
  refine Ev_ca rfl (r_in_f _ (bad4 rfl (by decide) hx)) ?_
  exact Ev_br rfl (fun _ => Ev_rt rfl rfl rfl rfl) (fun hc => absurd nI_0 hc)
theorem cM_rate_bad2 {x : Nat} {k : Int32} (hx : x < 6) (hb : M_kn M ≤ 5) (hk : k < 0 ∨ nI (M_kn M) ≤ k) : Cl mX9_rate [.ref 104, .int (nI x), .int k] (hp S M) (some (.int (a_k (-1000000)))) (hp S M) := by
  refine a_run_ev 3 rfl (Ev_h (h2 := hp S M) rfl ?_)
  refine Ev_ca rfl (r_in_t _ (Nat.zero_le _) (show x ≤ 5 by omega) (by decide)) ?_
  refine Ev_br rfl (fun hc => absurd hc b1z) (fun _ => ?_)
  refine Ev_ca rfl (r_isK_f S M hb hk) ?_
  exact Ev_br rfl (fun hc => absurd nI_0 hc) (fun _ => Ev_rt rfl rfl rfl rfl)
abbrev meM (k : Nat) : Nat := met (seM M) (maM M) (sgM M k) (M_ru M)
theorem cM_rate_loop {x k : Nat} {v : Option Value} {h' : aH} (hL : ML M) (hB : MB M) (hk : k < 5) (kk : Ev [] mX9_rate (93, [some (.ref 104), some (.int (nI x)), some (.int (nI k)), some (.int (nI (pop (sgM M k)))), some (.int (nI (pop (sgM M k) + meM M k))), some (.int (nI (pop (sgM M k)) - nI (hrM M k)))], [], hp S M) v h') : ∀ (d i : Nat), i + d = M_ru M → Ev [] mX9_rate (41, [some (.ref 104), some (.int (nI x)), some (.int (nI k)), some (.int (nI (pop (sgM M k)))), some (.int (nI (pop (sgM M k) + met (seM M) (maM M) (sgM M k) i))), some (.int (nI i))], [], hp S M) v h'
  | 0, i, e => by
    have hU := hB.2.2.2.2.2.2.1
    have ls := hL.2.2.2.2.2.1
    have e : i = M_ru M := by omega
    subst e
    refine Ev_br rfl (fun _ => ?_) (fun hc => absurd (nI_le (Nat.le_refl _) (by omega)) hc)
    refine Ev_ial rfl (i := 5 + k) (nI_add _ _) (by omega) (by omega) ?_
    exact a_run_ev 2 rfl kk
  | d + 1, i, e => by
    have hU := hB.2.2.2.2.2.2.1
    have ls := hL.2.2.2.2.2.1
    have ih := cM_rate_loop (x := x) hL hB hk kk d (i + 1) (by omega)
    refine Ev_br rfl (fun hc => absurd hc (nI_ge (show i < M_ru M by omega) (by omega))) (fun _ => ?_)
    refine Ev_ial rfl (i := k) rfl (by omega) (by omega) ?_
    refine Ev_ca rfl (r_hasEnough S M hL hB (hB.1 k hk).1 (show i < 4 by omega)) ?_
    cases hm : decide (maM M i ≤ pop (sgM M k &&& seM M i)) with
    | true =>
      refine Ev_br rfl (fun hc => absurd hc b1z) (fun _ => ?_)
      refine Ev_jp rfl ?_
      refine Ev_jpe rfl ?_ ih
      rw [nI_add, nI_add, met_succ, if_pos (of_decide_eq_true hm)]
      rfl
    | false =>
      refine Ev_br rfl (fun _ => ?_) (fun hc => absurd nI_0 hc)
      refine Ev_jpe rfl ?_ ih
      rw [nI_add, nI_add, met_succ, if_neg (of_decide_eq_false hm)]
      rfl
theorem cM_rate_head {x k : Nat} {v : Option Value} {h' : aH} (hx : x < 6) (hL : ML M) (hB : MB M) (hk : k < M_kn M) (kk : Ev [] mX9_rate (93, [some (.ref 104), some (.int (nI x)), some (.int (nI k)), some (.int (nI (pop (sgM M k)))), some (.int (nI (pop (sgM M k) + meM M k))), some (.int (nI (pop (sgM M k)) - nI (hrM M k)))], [], hp S M) v h') : Cl mX9_rate [.ref 104, .int (nI x), .int (nI k)] (hp S M) v h' := by
  have hb := hB.2.2.2.2.1
  have ls := hL.2.2.2.2.2.1
  refine a_run_ev 3 rfl (Ev_h (h2 := hp S M) rfl ?_)
  refine Ev_ca rfl (r_in_t _ (Nat.zero_le _) (show x ≤ 5 by omega) (by decide)) ?_
  refine Ev_br rfl (fun hc => absurd hc b1z) (fun _ => ?_)
  refine Ev_ca rfl (r_isK_t S M hk hb) ?_
  refine Ev_br rfl (fun _ => ?_) (fun hc => absurd b1z hc)
  refine Ev_ial rfl (i := k) rfl (by omega) (by omega) ?_
  refine Ev_ca rfl (r_ones _ (hB.1 k (by omega)).1) ?_
  exact a_run_ev 5 rfl (cM_rate_loop S M hL hB (by omega) kk (M_ru M) 0 (by omega))
def tM (n : Nat) : mS := Ms_tr M (M_tr M + n)
theorem cM_rate0 {k : Nat} (hL : ML M) (hB : MB M) (hk : k < M_kn M) : Cl mX9_rate [.ref 104, .int (nI 0), .int (nI k)] (hp S M) (some (.int (nI (pop (sgM M k))))) (hp S (tM M 1)) := by
  refine cM_rate_head S M (by decide) hL hB hk ?_
  refine Ev_br rfl (fun hc => absurd nI_0 hc) (fun _ => ?_)
  refine Ev_jp rfl ?_
  refine a_run_ev 2 rfl (Ev_h (h2 := hp S (tM M 1)) (by rw [lN_add]; rfl) ?_)
  exact Ev_br rfl (fun hc => absurd nI_0 hc) (fun _ => Ev_jp rfl (Ev_rt rfl rfl rfl rfl))
theorem cM_rate1 {k : Nat} (hL : ML M) (hB : MB M) (hk : k < M_kn M) : Cl mX9_rate [.ref 104, .int (nI 1), .int (nI k)] (hp S M) (some (.int (nI (pop (sgM M k) + meM M k)))) (hp S (tM M 11)) := by
  refine cM_rate_head S M (by decide) hL hB hk ?_
  refine Ev_br rfl (fun _ => ?_) (fun hc => absurd b1z hc)
  refine Ev_br rfl (fun hc => absurd rfl hc) (fun _ => ?_)
  refine Ev_jp rfl ?_
  refine a_run_ev 2 rfl (Ev_h (h2 := hp S (tM M 11)) (by rw [lN_add]; rfl) ?_)
  refine Ev_br rfl (fun _ => ?_) (fun hc => absurd b1z hc)
  exact Ev_br rfl (fun hc => absurd rfl hc) (fun _ => Ev_jp rfl (Ev_rt rfl rfl rfl rfl))
theorem cM_rate2 {k : Nat} (hL : ML M) (hB : MB M) (hk : k < M_kn M) : Cl mX9_rate [.ref 104, .int (nI 2), .int (nI k)] (hp S M) (some (.int (nI (pop (sgM M k)) - nI (hrM M k)))) (hp S (tM M 101)) := by
  refine cM_rate_head S M (by decide) hL hB hk ?_
  refine Ev_br rfl (fun _ => ?_) (fun hc => absurd (show ¬ nI 2 = 0 by decide) hc)
  refine Ev_br rfl (fun _ => ?_) (fun hc => absurd (show ¬ nI 2 = nI 1 by decide) hc)
  refine Ev_br rfl (fun hc => absurd rfl hc) (fun _ => ?_)
  refine Ev_jp rfl ?_
  refine a_run_ev 2 rfl (Ev_h (h2 := hp S (tM M 101)) (by rw [lN_add]; rfl) ?_)
  refine Ev_br rfl (fun _ => ?_) (fun hc => absurd (show ¬ nI 2 = 0 by decide) hc)
  refine Ev_br rfl (fun _ => ?_) (fun hc => absurd (show ¬ nI 2 = nI 1 by decide) hc)
  exact Ev_br rfl (fun hc => absurd rfl hc) (fun _ => Ev_jp rfl (Ev_rt rfl rfl rfl rfl))
theorem cM_rate3 {k : Nat} (hL : ML M) (hB : MB M) (hk : k < M_kn M) : Cl mX9_rate [.ref 104, .int (nI 3), .int (nI k)] (hp S M) (some (.int (nI 2 * nI (pop (sgM M k) + meM M k)))) (hp S (tM M 1011)) := by
  refine cM_rate_head S M (by decide) hL hB hk ?_
  refine Ev_br rfl (fun _ => ?_) (fun hc => absurd (show ¬ nI 3 = 0 by decide) hc)
  refine Ev_br rfl (fun _ => ?_) (fun hc => absurd (show ¬ nI 3 = nI 1 by decide) hc)
  refine Ev_br rfl (fun _ => ?_) (fun hc => absurd (show ¬ nI 3 = nI 2 by decide) hc)
  refine Ev_br rfl (fun hc => absurd rfl hc) (fun _ => ?_)
  refine Ev_jp rfl ?_
  refine a_run_ev 2 rfl (Ev_h (h2 := hp S (tM M 1011)) (by rw [lN_add]; rfl) ?_)
  refine Ev_br rfl (fun _ => ?_) (fun hc => absurd (show ¬ nI 3 = 0 by decide) hc)
  refine Ev_br rfl (fun _ => ?_) (fun hc => absurd (show ¬ nI 3 = nI 1 by decide) hc)
  refine Ev_br rfl (fun _ => ?_) (fun hc => absurd (show ¬ nI 3 = nI 2 by decide) hc)
  exact Ev_br rfl (fun hc => absurd rfl hc) (fun _ => Ev_jp rfl (Ev_rt rfl rfl rfl rfl))
theorem cM_rate4 {k : Nat} (hL : ML M) (hB : MB M) (hk : k < M_kn M) : Cl mX9_rate [.ref 104, .int (nI 4), .int (nI k)] (hp S M) (some (.int (nI (pop (sgM M k)) - nI (hrM M k) + nI k))) (hp S (tM M 10101)) := by
  refine cM_rate_head S M (by decide) hL hB hk ?_
  refine Ev_br rfl (fun _ => ?_) (fun hc => absurd (show ¬ nI 4 = 0 by decide) hc)
  refine Ev_br rfl (fun _ => ?_) (fun hc => absurd (show ¬ nI 4 = nI 1 by decide) hc)
  refine Ev_br rfl (fun _ => ?_) (fun hc => absurd (show ¬ nI 4 = nI 2 by decide) hc)
  refine Ev_br rfl (fun _ => ?_) (fun hc => absurd (show ¬ nI 4 = nI 3 by decide) hc)
  refine Ev_br rfl (fun hc => absurd rfl hc) (fun _ => ?_)
  refine Ev_jp rfl ?_
  refine a_run_ev 2 rfl (Ev_h (h2 := hp S (tM M 10101)) (by rw [lN_add]; rfl) ?_)
  refine Ev_br rfl (fun _ => ?_) (fun hc => absurd (show ¬ nI 4 = 0 by decide) hc)
  refine Ev_br rfl (fun _ => ?_) (fun hc => absurd (show ¬ nI 4 = nI 1 by decide) hc)
  refine Ev_br rfl (fun _ => ?_) (fun hc => absurd (show ¬ nI 4 = nI 2 by decide) hc)
  refine Ev_br rfl (fun _ => ?_) (fun hc => absurd (show ¬ nI 4 = nI 3 by decide) hc)
  exact Ev_br rfl (fun hc => absurd rfl hc) (fun _ => Ev_jp rfl (Ev_rt rfl rfl rfl rfl))
theorem cM_rate5 {k : Nat} (hL : ML M) (hB : MB M) (hk : k < M_kn M) : Cl mX9_rate [.ref 104, .int (nI 5), .int (nI k)] (hp S M) (some (.int (nI (pop (sgM M k)) + nI (pop (sgM M k &&& M_ld M))))) (hp S (tM M 100001)) := by
  have hb := hB.2.2.2.2.1
  have hld := hB.2.2.2.2.2.2.2
  have ls := hL.2.2.2.2.2.1
  have b1 : gd (M_s M) k < 256 := (hB.1 k (by omega)).1
  have hle : gd (M_s M) k &&& M_ld M ≤ gd (M_s M) k := Nat.and_le_left
  refine cM_rate_head S M (by decide) hL hB hk ?_
  refine Ev_br rfl (fun _ => ?_) (fun hc => absurd (show ¬ nI 5 = 0 by decide) hc)
  refine Ev_br rfl (fun _ => ?_) (fun hc => absurd (show ¬ nI 5 = nI 1 by decide) hc)
  refine Ev_br rfl (fun _ => ?_) (fun hc => absurd (show ¬ nI 5 = nI 2 by decide) hc)
  refine Ev_br rfl (fun _ => ?_) (fun hc => absurd (show ¬ nI 5 = nI 3 by decide) hc)
  refine Ev_br rfl (fun _ => ?_) (fun hc => absurd (show ¬ nI 5 = nI 4 by decide) hc)
  refine a_run_ev 3 rfl (Ev_h (h2 := hp S (tM M 100001)) (by rw [lN_add]; rfl) ?_)
  refine Ev_br rfl (fun _ => ?_) (fun hc => absurd (show ¬ nI 5 = 0 by decide) hc)
  refine Ev_br rfl (fun _ => ?_) (fun hc => absurd (show ¬ nI 5 = nI 1 by decide) hc)
  refine Ev_br rfl (fun _ => ?_) (fun hc => absurd (show ¬ nI 5 = nI 2 by decide) hc)
  refine Ev_br rfl (fun _ => ?_) (fun hc => absurd (show ¬ nI 5 = nI 3 by decide) hc)
  refine Ev_br rfl (fun _ => ?_) (fun hc => absurd (show ¬ nI 5 = nI 4 by decide) hc)
  refine Ev_ial rfl (i := k) rfl (show k < (M_s M).length by omega) (show (M_s M).length ≤ 1000 by omega) ?_
  refine Ev_cae rfl (as' := [.int (nI (gd (M_s M) k &&& M_ld M))]) ?_ (r_ones _ (by omega)) (Ev_rt rfl rfl rfl rfl)
  rw [← nI_and (by omega) (by omega)]
  rfl
end

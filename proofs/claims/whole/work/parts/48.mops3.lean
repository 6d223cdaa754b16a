/-! the reference's knocks, hoarse, change, undo -/
/-- the row of now holds small numbers -/
def sB (L : List Nat) : Prop := (∀ k, k < 5 → gd L k < 256 ∧ gd L (5 + k) < 100) ∧ (∀ i, i < 4 → gd L (10 + i) < 256 ∧ gd L (14 + i) < 9)
theorem sB_sg {L : List Nat} (h : sB L) {k x : Nat} (hk : k < 5) (hx : x < 256) : sB (L.set k x) := by
  refine ⟨fun j hj => ?_, fun i hi => ?_⟩
  · have := h.1 j hj
    rw [gd_set, gd_set, if_neg (show ¬ (k = 5 + j ∧ _) by omega)]
    split <;> omega
  · have := h.2 i hi
    rw [gd_set, gd_set, if_neg (by omega), if_neg (by omega)]
    exact this
theorem sB_hr {L : List Nat} (h : sB L) {k x : Nat} (hk : k < 5) (hx : x < 100) : sB (L.set (5 + k) x) := by
  refine ⟨fun j hj => ?_, fun i hi => ?_⟩
  · have := h.1 j hj
    rw [gd_set, gd_set, if_neg (show ¬ (5 + k = j ∧ _) by omega)]
    split <;> omega
  · have := h.2 i hi
    rw [gd_set, gd_set, if_neg (by omega), if_neg (by omega)]
    exact this
theorem sB_se {L : List Nat} (h : sB L) {k x : Nat} (hk : k < 4) (hx : x < 256) : sB (L.set (10 + k) x) := by
  refine ⟨fun j hj => ?_, fun i hi => ?_⟩
  · have := h.1 j hj
    rw [gd_set, gd_set, if_neg (by omega), if_neg (by omega)]
    exact this
  · have := h.2 i hi
    rw [gd_set, gd_set, if_neg (show ¬ (10 + k = 14 + i ∧ _) by omega)]
    split <;> omega
theorem sB_ma {L : List Nat} (h : sB L) {k x : Nat} (hk : k < 4) (hx : x < 9) : sB (L.set (14 + k) x) := by
  refine ⟨fun j hj => ?_, fun i hi => ?_⟩
  · have := h.1 j hj
    rw [gd_set, gd_set, if_neg (by omega), if_neg (by omega)]
    exact this
  · have := h.2 i hi
    rw [gd_set, gd_set, if_neg (show ¬ (14 + k = 10 + i ∧ _) by omega)]
    split <;> omega
theorem MB_s {M : mS} (hB : MB M) : sB (M_s M) := ⟨hB.1, hB.2.1⟩
theorem MB_of {M : mS} (hB : MB M) {L : List Nat} (h : sB L) : MB (Ms_s M L) := ⟨h.1, h.2, hB.2.2⟩
theorem ML_of {M : mS} (hL : ML M) {L : List Nat} (h : L.length = 18) : ML (Ms_s M L) := by
  obtain ⟨l1, l2, l3, l4, l5, l6, l7, l8, l9, l10, l11⟩ := hL
  exact ⟨l1, l2, l3, l4, l5, h, l7, l8, l9, l10, l11⟩
section
variable (S : cS) (M : mS)
theorem cM_knocks_bad {x w : Int32} (hb : M_kn M ≤ 5) (hx : x < 0 ∨ nI (M_kn M) ≤ x) : Cl mX9_knocks [.ref 104, .int x, .int w] (hp S M) (some (.int kM1)) (hp S M) := by
  refine a_run_ev 3 rfl (Ev_h (h2 := hp S M) rfl ?_)
  refine Ev_ca rfl (r_isK_f S M hb hx) ?_
  exact Ev_br rfl (fun _ => Ev_rt rfl rfl rfl rfl) (fun hc => absurd nI_0 hc)
theorem cM_knocks_bad2 {k : Nat} {w : Int32} (hb : M_kn M ≤ 5) (hk : k < M_kn M) (hw : w < 0 ∨ nI (M_kn M) ≤ w) (h9 : ¬ w = kM9) : Cl mX9_knocks [.ref 104, .int (nI k), .int w] (hp S M) (some (.int kM1)) (hp S M) := by
  refine a_run_ev 3 rfl (Ev_h (h2 := hp S M) rfl ?_)
  refine Ev_ca rfl (r_isK_t S M hk hb) ?_
  refine Ev_br rfl (fun hc => absurd hc b1z) (fun _ => ?_)
  refine Ev_br rfl (fun hc => absurd hc h9) (fun _ => ?_)
  refine Ev_ca rfl (r_isK_f S M hb hw) ?_
  exact Ev_br rfl (fun _ => Ev_rt rfl rfl rfl rfl) (fun hc => absurd nI_0 hc)
theorem cM_knocks_same {k : Nat} (hb : M_kn M ≤ 5) (hk : k < M_kn M) : Cl mX9_knocks [.ref 104, .int (nI k), .int (nI k)] (hp S M) (some (.int kM1)) (hp S M) := by
  refine a_run_ev 3 rfl (Ev_h (h2 := hp S M) rfl ?_)
  refine Ev_ca rfl (r_isK_t S M hk hb) ?_
  refine Ev_br rfl (fun hc => absurd hc b1z) (fun _ => ?_)
  refine Ev_br rfl (fun hc => absurd hc (kM9_ne k (by omega))) (fun _ => ?_)
  refine Ev_ca rfl (r_isK_t S M hk hb) ?_
  refine Ev_br rfl (fun hc => absurd hc b1z) (fun _ => ?_)
  exact Ev_br rfl (fun hc => absurd rfl hc) (fun _ => Ev_rt rfl rfl rfl rfl)
theorem cM_knocks_end {k : Nat} {w : Value} {a b : Option Value} (hL : ML M) (hB : MB M) (hk : k < 5) : Ev [] mX9_knocks (126, [some (.ref 104), some (.int (nI k)), some w, a, b], [], hp S M) (some (.int (nI (leM M (sgM M k)).toNat))) (hp S M) := by
  have ls := hL.2.2.2.2.2.1
  refine Ev_ial rfl (i := k) rfl (by omega) (by omega) ?_
  refine Ev_ca rfl (r_isLetIn S M hL hB (hB.1 k (by omega)).1) ?_
  cases leM M (sgM M k) with
  | true => exact Ev_br rfl (fun hc => absurd hc b1z) (fun _ => Ev_jp rfl (Ev_rt rfl rfl rfl rfl))
  | false => exact Ev_br rfl (fun _ => Ev_rt rfl rfl rfl rfl) (fun hc => absurd nI_0 hc)
theorem cM_knocks_none {k : Nat} (hL : ML M) (hB : MB M) (hu : M_um M ≤ 10) (hk : k < M_kn M) : Cl mX9_knocks [.ref 104, .int (nI k), .int kM9] (hp S M) (some (.int (nI (leM M (sgM M k)).toNat))) (hp S (noS M 2 0 0 0)) := by
  have hb := hB.2.2.2.2.1
  refine a_run_ev 3 rfl (Ev_h (h2 := hp S M) rfl ?_)
  refine Ev_ca rfl (r_isK_t S M hk hb) ?_
  refine Ev_br rfl (fun hc => absurd hc b1z) (fun _ => ?_)
  refine Ev_br rfl (fun _ => ?_) (fun hc => absurd rfl hc)
  refine Ev_br rfl (fun _ => ?_) (fun hc => absurd (kM9_ne k (by omega)) hc)
  refine Ev_br rfl (fun hc => absurd rfl hc) (fun _ => ?_)
  refine Ev_ca rfl (r_notes S M hL.2.2.2.2.2.2.2.2.1 hu) ?_
  refine Ev_jp rfl ?_
  obtain ⟨X, m, hX, -, eX⟩ := noS_ex M 2 0 0 0 hL.2.2.2.2.2.2.2.2.1 hu
  rw [eX]
  exact cM_knocks_end S (Ms_um (Ms_ud M X) m) (udML M hL hX) hB (by omega)
abbrev heM (k : Nat) : Nat := (sgM M k &&& M_ld M) &&& ors (seM M) (M_ru M)
theorem orsM_lt (hB : MB M) : ∀ n, n ≤ 4 → ors (seM M) n < 256
  | 0, _ => by show 0 < 256; decide
  | n + 1, h => Nat.or_lt_two_pow (n := 8) (orsM_lt hB n (by omega)) (hB.2.1 n (by omega)).1
theorem cM_knocks_loop {k j : Nat} (hL : ML M) (hB : MB M) (hk : k < 5) (hj : j < 5) : ∀ (d i : Nat), i + d = M_ru M → Ev [] mX9_knocks (76, [some (.ref 104), some (.int (nI k)), some (.int (nI j)), some (.int (nI (ors (seM M) i))), some (.int (nI i))], [], hp S M) (some (.int (nI (leM (Ms_s M ((M_s M).set j (sgM M j ||| heM M k))) (gd ((M_s M).set j (sgM M j ||| heM M k)) k)).toNat))) (hp S (Ms_s M ((M_s M).set j (sgM M j ||| heM M k))))
  | 0, i, e => by
    have hU := hB.2.2.2.2.2.2.1
    have ls := hL.2.2.2.2.2.1
    have e : i = M_ru M := by omega
    subst e
    have b1 : gd (M_s M) k < 256 := (hB.1 k hk).1
    have b2 : gd (M_s M) j < 256 := (hB.1 j hj).1
    have b3 := hB.2.2.2.2.2.2.2
    have b4 := orsM_lt M hB (M_ru M) hU
    have hle : gd (M_s M) k &&& M_ld M ≤ gd (M_s M) k := Nat.and_le_left
    have hle2 : heM M k ≤ gd (M_s M) k &&& M_ld M := Nat.and_le_left
    have hor : sgM M j ||| heM M k < 256 := Nat.or_lt_two_pow (n := 8) b2 (by omega)
    refine Ev_br rfl (fun _ => ?_) (fun hc => absurd (nI_le (Nat.le_refl _) (by omega)) hc)
    refine Ev_ial rfl (i := j) rfl (by omega) (by omega) ?_
    refine Ev_ial rfl (i := k) rfl (by omega) (by omega) ?_
    refine Ev_isl rfl (i := j) (y := sgM M j ||| heM M k) rfl (by rw [nI_and (by omega) (by omega), nI_and (by omega) (by omega), nI_or (by omega) (show heM M k < 2 ^ 31 by omega)]) (by omega) (by omega) (h2 := hp S (Ms_s M ((M_s M).set j (sgM M j ||| heM M k)))) rfl ?_
    exact cM_knocks_end S (Ms_s M ((M_s M).set j (sgM M j ||| heM M k))) (ML_of hL (by rw [List.length_set]; exact ls)) (MB_of hB (sB_sg (MB_s hB) hj hor)) hk
  | d + 1, i, e => by
    have hU := hB.2.2.2.2.2.2.1
    have ls := hL.2.2.2.2.2.1
    have b4 := orsM_lt M hB i (by omega)
    have b5 : gd (M_s M) (10 + i) < 256 := (hB.2.1 i (by omega)).1
    have hs : ors (seM M) (i + 1) = ors (seM M) i ||| gd (M_s M) (10 + i) := rfl
    refine Ev_br rfl (fun hc => absurd hc (nI_ge (show i < M_ru M by omega) (by omega))) (fun _ => ?_)
    refine Ev_ial rfl (i := 10 + i) (nI_add _ _) (by omega) (by omega) ?_
    refine Ev_jpe rfl ?_ (cM_knocks_loop hL hB hk hj d (i + 1) (by omega))
    rw [nI_or (by omega) (by omega), nI_add, hs]
theorem cM_knocks {k j : Nat} (hL : ML M) (hB : MB M) (hu : M_um M ≤ 10) (hk : k < M_kn M) (hj : j < M_kn M) (hkj : k ≠ j) : Cl mX9_knocks [.ref 104, .int (nI k), .int (nI j)] (hp S M) (some (.int (nI (leM (Ms_s M ((M_s M).set j (sgM M j ||| heM M k))) (gd ((M_s M).set j (sgM M j ||| heM M k)) k)).toNat))) (hp S (Ms_s (noS M 0 j (sgM M j) (hrM M j)) ((M_s M).set j (sgM M j ||| heM M k)))) := by
  have hb := hB.2.2.2.2.1
  have ls := hL.2.2.2.2.2.1
  refine a_run_ev 3 rfl (Ev_h (h2 := hp S M) rfl ?_)
  refine Ev_ca rfl (r_isK_t S M hk hb) ?_
  refine Ev_br rfl (fun hc => absurd hc b1z) (fun _ => ?_)
  refine Ev_br rfl (fun hc => absurd hc (kM9_ne j (by omega))) (fun _ => ?_)
  refine Ev_ca rfl (r_isK_t S M hj hb) ?_
  refine Ev_br rfl (fun hc => absurd hc b1z) (fun _ => ?_)
  refine Ev_br rfl (fun _ => ?_) (fun hc => ?_)
  · refine Ev_br rfl (fun _ => ?_) (fun hc => absurd (kM9_ne j (by omega)) hc)
    refine Ev_ial rfl (i := j) rfl (by omega) (by omega) ?_
    refine Ev_ial rfl (i := 5 + j) (nI_add _ _) (by omega) (by omega) ?_
    refine Ev_ca rfl (r_notes S M hL.2.2.2.2.2.2.2.2.1 hu) ?_
    obtain ⟨X, m, hX, -, eX⟩ := noS_ex M 0 j (sgM M j) (hrM M j) hL.2.2.2.2.2.2.2.2.1 hu
    rw [eX]
    refine a_run_ev 4 rfl ?_
    exact cM_knocks_loop S (Ms_um (Ms_ud M X) m) (udML M hL hX) hB (by omega) (by omega) (M_ru M) 0 (by show 0 + M_ru M = M_ru M; omega)
  · have hc : ¬ nI k ≠ nI j := hc
    rw [Decidable.not_not, nI_eq (by omega) (by omega)] at hc
    exact absurd hc hkj
-- hoarse
theorem cM_hoarse_bad {x w : Int32} (hb : M_kn M ≤ 5) (hx : x < 0 ∨ nI (M_kn M) ≤ x) : Cl mX9_hoarse [.ref 104, .int x, .int w] (hp S M) (some (.int kM1)) (hp S M) := by
  refine a_run_ev 3 rfl (Ev_h (h2 := hp S M) rfl ?_)
  refine Ev_ca rfl (r_isK_f S M hb hx) ?_
  exact Ev_br rfl (fun _ => Ev_rt rfl rfl rfl rfl) (fun hc => absurd nI_0 hc)
theorem cM_hoarse_bad2 {k : Nat} {w : Int32} (hb : M_kn M ≤ 5) (hk : k < M_kn M) (hw : w < 0 ∨ nI 8 ≤ w) : Cl mX9_hoarse [.ref 104, .int (nI k), .int w] (hp S M) (some (.int kM1)) (hp S M) := by
  refine a_run_ev 3 rfl (Ev_h (h2 := hp S M) rfl ?_)
  refine Ev_ca rfl (r_isK_t S M hk hb) ?_
  refine Ev_br rfl (fun hc => absurd hc b1z) (fun _ => ?_)
  refine Ev_ca rfl (r_in_f _ (bad4 rfl (by decide) hw)) ?_
  exact Ev_br rfl (fun hc => absurd nI_0 hc) (fun _ => Ev_rt rfl rfl rfl rfl)
theorem hoar : ∀ x, x < 256 → ∀ s, s < 8 → bt x s = 1 → 2 ^ s ≤ x ∧ x - 2 ^ s = x &&& (255 ^^^ 2 ^ s) := by decide +kernel
theorem cM_hoarse_head {k s : Nat} {v : Option Value} {h' : aH} (hL : ML M) (hB : MB M) (hk : k < M_kn M) (hs : s < 8) (kk : Ev [] mX9_hoarse (35, [some (.ref 104), some (.int (nI k)), some (.int (nI s))], [.int (nI (bt (sgM M k) s))], hp S M) v h') : Cl mX9_hoarse [.ref 104, .int (nI k), .int (nI s)] (hp S M) v h' := by
  have hb := hB.2.2.2.2.1
  have ls := hL.2.2.2.2.2.1
  have b1 : gd (M_s M) k < 256 := (hB.1 k (by omega)).1
  refine a_run_ev 3 rfl (Ev_h (h2 := hp S M) rfl ?_)
  refine Ev_ca rfl (r_isK_t S M hk hb) ?_
  refine Ev_br rfl (fun hc => absurd hc b1z) (fun _ => ?_)
  refine Ev_ca rfl (r_in_t _ (Nat.zero_le _) (show s ≤ 7 by omega) (by decide)) ?_
  refine Ev_br rfl (fun _ => ?_) (fun hc => absurd b1z hc)
  refine Ev_ial rfl (i := k) rfl (by omega) (by omega) ?_
  refine a_run_ev 4 rfl ?_
  refine Ev_eq ?_ kk
  rw [← nI_bt (show sgM M k < 2 ^ 31 from Nat.lt_trans b1 (by decide)) (by omega)]
  rfl
theorem cM_hoarse_st {k s : Nat} (hL : ML M) (hB : MB M) (hk : k < M_kn M) (hs : s < 8) (h0 : bt (sgM M k) s = 0) : Cl mX9_hoarse [.ref 104, .int (nI k), .int (nI s)] (hp S M) (some (.int kM2)) (hp S M) := by
  refine cM_hoarse_head S M hL hB hk hs ?_
  rw [h0]
  exact Ev_br rfl (fun hc => absurd nI_0 hc) (fun _ => Ev_rt rfl rfl rfl rfl)
theorem cM_hoarse_tail {k s : Nat} (hL : ML M) (hB : MB M) (hk : k < 5) (hs : s < 8) (h1 : bt (sgM M k) s = 1) : Ev [] mX9_hoarse (61, [some (.ref 104), some (.int (nI k)), some (.int (nI s))], [], hp S M) (some (.int (nI (pop (sgM M k &&& (255 ^^^ 2 ^ s)))))) (hp S (Ms_s M ((M_s M).set k (sgM M k &&& (255 ^^^ 2 ^ s))))) := by
  have ls := hL.2.2.2.2.2.1
  have b1 : gd (M_s M) k < 256 := (hB.1 k (by omega)).1
  obtain ⟨q1, q2⟩ := hoar _ b1 s hs h1
  have hle : sgM M k &&& (255 ^^^ 2 ^ s) ≤ gd (M_s M) k := Nat.and_le_left
  refine Ev_ial rfl (i := k) rfl (by omega) (by omega) ?_
  refine Ev_isl rfl (i := k) (y := sgM M k &&& (255 ^^^ 2 ^ s)) rfl (by rw [nI_shl1 (by omega), pk_sub q1, q2]) (by omega) (by omega) (h2 := hp S (Ms_s M ((M_s M).set k (sgM M k &&& (255 ^^^ 2 ^ s))))) rfl ?_
  have l2 : ((M_s M).set k (sgM M k &&& (255 ^^^ 2 ^ s))).length = 18 := by rw [List.length_set]; exact ls
  have hg : gd ((M_s M).set k (sgM M k &&& (255 ^^^ 2 ^ s))) k = sgM M k &&& (255 ^^^ 2 ^ s) := by rw [gd_set, if_pos ⟨rfl, by omega⟩]
  refine Ev_ial rfl (i := k) rfl (show k < ((M_s M).set k (sgM M k &&& (255 ^^^ 2 ^ s))).length by omega) (show ((M_s M).set k (sgM M k &&& (255 ^^^ 2 ^ s))).length ≤ 1000 by omega) ?_
  refine Ev_cae rfl (as' := [.int (nI (sgM M k &&& (255 ^^^ 2 ^ s)))]) ?_ (r_ones _ (by omega)) (Ev_rt rfl rfl rfl rfl)
  exact congrArg (fun x => [Value.int (nI x)]) hg
theorem cM_hoarse {k s : Nat} (hL : ML M) (hB : MB M) (hu : M_um M ≤ 10) (hk : k < M_kn M) (hs : s < 8) (h1 : bt (sgM M k) s = 1) : Cl mX9_hoarse [.ref 104, .int (nI k), .int (nI s)] (hp S M) (some (.int (nI (pop (sgM M k &&& (255 ^^^ 2 ^ s)))))) (hp S (Ms_s (noS M 0 k (sgM M k) (hrM M k)) ((M_s M).set k (sgM M k &&& (255 ^^^ 2 ^ s))))) := by
  have hb := hB.2.2.2.2.1
  have ls := hL.2.2.2.2.2.1
  refine cM_hoarse_head S M hL hB hk hs ?_
  rw [h1]
  refine Ev_br rfl (fun _ => ?_) (fun hc => absurd b1z hc)
  refine Ev_ial rfl (i := k) rfl (by omega) (by omega) ?_
  refine Ev_ial rfl (i := 5 + k) (nI_add _ _) (by omega) (by omega) ?_
  refine Ev_ca rfl (r_notes S M hL.2.2.2.2.2.2.2.2.1 hu) ?_
  obtain ⟨X, m, hX, -, eX⟩ := noS_ex M 0 k (sgM M k) (hrM M k) hL.2.2.2.2.2.2.2.2.1 hu
  rw [eX]
  exact cM_hoarse_tail S (Ms_um (Ms_ud M X) m) (udML M hL hX) hB (by omega) hs h1
-- change
theorem cM_change_bad {x y z : Int32} (hb : M_ru M ≤ 4) (hx : x < 0 ∨ nI (M_ru M) ≤ x) : Cl mX9_change [.ref 104, .int x, .int y, .int z] (hp S M) (some (.int kM1)) (hp S M) := by
  refine a_run_ev 3 rfl (Ev_h (h2 := hp S M) rfl ?_)
  refine Ev_ca rfl (r_isU_f S M hb hx) ?_
  exact Ev_br rfl (fun _ => Ev_rt rfl rfl rfl rfl) (fun hc => absurd nI_0 hc)
theorem cM_change_bad2 {k : Nat} {y z : Int32} (hb : M_ru M ≤ 4) (hk : k < M_ru M) (hy : y < nI 1 ∨ nI 255 < y) : Cl mX9_change [.ref 104, .int (nI k), .int y, .int z] (hp S M) (some (.int kM1)) (hp S M) := by
  refine a_run_ev 3 rfl (Ev_h (h2 := hp S M) rfl ?_)
  refine Ev_ca rfl (r_isU_t S M hk hb) ?_
  refine Ev_br rfl (fun hc => absurd hc b1z) (fun _ => ?_)
  refine Ev_ca rfl (r_in_f _ hy) ?_
  exact Ev_br rfl (fun _ => Ev_rt rfl rfl rfl rfl) (fun hc => absurd nI_0 hc)
theorem and255 : ∀ y, y < 256 → y &&& 255 = y := by decide +kernel
theorem cM_change_bad3 {k y : Nat} {z : Int32} (hb : M_ru M ≤ 4) (hk : k < M_ru M) (hy : 1 ≤ y) (hy2 : y < 256) (hz : z < nI 1 ∨ nI (pop y) < z) : Cl mX9_change [.ref 104, .int (nI k), .int (nI y), .int z] (hp S M) (some (.int kM1)) (hp S M) := by
  refine a_run_ev 3 rfl (Ev_h (h2 := hp S M) rfl ?_)
  refine Ev_ca rfl (r_isU_t S M hk hb) ?_
  refine Ev_br rfl (fun hc => absurd hc b1z) (fun _ => ?_)
  refine Ev_ca rfl (r_in_t _ hy (show y ≤ 255 by omega) (by decide)) ?_
  refine Ev_br rfl (fun hc => absurd hc b1z) (fun _ => ?_)
  refine Ev_cae rfl (as' := [.int (nI y)]) ?_ (r_ones _ hy2) ?_
  · show [Value.int (nI y &&& nI 255)] = _
    rw [nI_and (by omega) (by omega), and255 y hy2]
  refine Ev_ca rfl (r_in_f _ hz) ?_
  exact Ev_br rfl (fun hc => absurd nI_0 hc) (fun _ => Ev_rt rfl rfl rfl rfl)
theorem cM_change_tail {k y z : Nat} (hL : ML M) (hB : MB M) (hk : k < 4) (hy2 : y < 256) (hz2 : z < 9) : Ev [] mX9_change (66, [some (.ref 104), some (.int (nI k)), some (.int (nI y)), some (.int (nI z))], [], hp S M) (some (.int (nI (pop (liM (Ms_s M (((M_s M).set (10 + k) y).set (14 + k) z))))))) (hp S (Ms_s M (((M_s M).set (10 + k) y).set (14 + k) z))) := by
  have ls := hL.2.2.2.2.2.1
  have hK := hB.2.2.2.2.1
  have l2 : ((M_s M).set (10 + k) y).length = 18 := by rw [List.length_set]; exact ls
  have l3 : (((M_s M).set (10 + k) y).set (14 + k) z).length = 18 := by rw [List.length_set]; exact l2
  refine Ev_isl rfl (i := 10 + k) (y := y) (nI_add _ _) rfl (by omega) (by omega) (h2 := hp S (Ms_s M ((M_s M).set (10 + k) y))) rfl ?_
  refine Ev_isl rfl (i := 14 + k) (y := z) (nI_add _ _) rfl (show 14 + k < ((M_s M).set (10 + k) y).length by omega) (show ((M_s M).set (10 + k) y).length ≤ 1000 by omega) (h2 := hp S (Ms_s M (((M_s M).set (10 + k) y).set (14 + k) z))) rfl ?_
  refine Ev_ca rfl (r_letIn S (Ms_s M (((M_s M).set (10 + k) y).set (14 + k) z)) (ML_of hL l3) (MB_of hB (sB_ma (sB_se (MB_s hB) hk hy2) hk hz2))) ?_
  exact Ev_ca rfl (r_ones _ (bits256 _ hK)) (Ev_rt rfl rfl rfl rfl)
theorem cM_change {k y z : Nat} (hL : ML M) (hB : MB M) (hu : M_um M ≤ 10) (hk : k < M_ru M) (hy : 1 ≤ y) (hy2 : y < 256) (hz : 1 ≤ z) (hz2 : z ≤ pop y) : Cl mX9_change [.ref 104, .int (nI k), .int (nI y), .int (nI z)] (hp S M) (some (.int (nI (pop (liM (Ms_s M (((M_s M).set (10 + k) y).set (14 + k) z))))))) (hp S (Ms_s (noS M 1 k (seM M k) (maM M k)) (((M_s M).set (10 + k) y).set (14 + k) z))) := by
  have hb := hB.2.2.2.2.2.2.1
  have ls := hL.2.2.2.2.2.1
  have hp8 := pop_le y
  refine a_run_ev 3 rfl (Ev_h (h2 := hp S M) rfl ?_)
  refine Ev_ca rfl (r_isU_t S M hk hb) ?_
  refine Ev_br rfl (fun hc => absurd hc b1z) (fun _ => ?_)
  refine Ev_ca rfl (r_in_t _ hy (show y ≤ 255 by omega) (by decide)) ?_
  refine Ev_br rfl (fun hc => absurd hc b1z) (fun _ => ?_)
  refine Ev_cae rfl (as' := [.int (nI y)]) ?_ (r_ones _ hy2) ?_
  · show [Value.int (nI y &&& nI 255)] = _
    rw [nI_and (by omega) (by omega), and255 y hy2]
  refine Ev_ca rfl (r_in_t _ hz hz2 (by omega)) ?_
  refine Ev_br rfl (fun _ => ?_) (fun hc => absurd b1z hc)
  refine Ev_ial rfl (i := 10 + k) (nI_add _ _) (by omega) (by omega) ?_
  refine Ev_ial rfl (i := 14 + k) (nI_add _ _) (by omega) (by omega) ?_
  refine Ev_ca rfl (r_notes S M hL.2.2.2.2.2.2.2.2.1 hu) ?_
  obtain ⟨X, m, hX, -, eX⟩ := noS_ex M 1 k (seM M k) (maM M k) hL.2.2.2.2.2.2.2.2.1 hu
  rw [eX]
  exact cM_change_tail S (Ms_um (Ms_ud M X) m) (udML M hL hX) hB (by omega) hy2 (by omega)
-- undo
theorem cM_undo_st (h0 : M_um M = 0) : Cl mX9_undo [.ref 104] (hp S M) (some (.int kM2)) (hp S M) := by
  refine Ev_br rfl (fun hc => ?_) (fun _ => Ev_rt rfl rfl rfl rfl)
  have hc : nI (M_um M) ≠ 0 := hc
  rw [h0] at hc
  exact absurd nI_0 hc
/-- the row of now behind the undoing of one note -/
def unL (L : List Nat) (kd w a b : Nat) : List Nat := if kd = 0 then (L.set w a).set (5 + w) b else if kd = 1 then (L.set (10 + w) a).set (14 + w) b else L
/-- the m-th note -/
abbrev udM (m j : Nat) : Nat := gd (M_ud M) (4 * m + j)
theorem cM_undo_tail (hL : ML M) (hu : M_um M < 10) (hk : udM M (M_um M) 0 < 3) (hw : udM M (M_um M) 0 = 0 → udM M (M_um M) 1 < 5) (hw1 : udM M (M_um M) 0 = 1 → udM M (M_um M) 1 < 4) : Ev [] mX9_undo (25, [some (.ref 104), none, none], [], hp S M) (some (.int (nI (M_um M)))) (hp S (Ms_s M (unL (M_s M) (udM M (M_um M) 0) (udM M (M_um M) 1) (udM M (M_um M) 2) (udM M (M_um M) 3)))) := by
  have ls := hL.2.2.2.2.2.1
  have lu := hL.2.2.2.2.2.2.2.2.1
  refine a_run_ev 5 rfl ?_
  refine Ev_eq (c' := (32, [some (.ref 104), some (.int (nI (4 * M_um M))), none], [], hp S M)) (by rw [← pk_mul]) ?_
  refine Ev_ial rfl (i := 4 * M_um M + 1) (nI_add _ _) (by omega) (by omega) ?_
  refine Ev_ial rfl (i := 4 * M_um M + 0) rfl (by omega) (by omega) ?_
  show Ev _ _ _ _ (hp S (Ms_s M (unL (M_s M) (gd (M_ud M) (4 * M_um M + 0)) (gd (M_ud M) (4 * M_um M + 1)) (gd (M_ud M) (4 * M_um M + 2)) (gd (M_ud M) (4 * M_um M + 3)))))
  have hk : gd (M_ud M) (4 * M_um M + 0) < 3 := hk
  have hw : gd (M_ud M) (4 * M_um M + 0) = 0 → gd (M_ud M) (4 * M_um M + 1) < 5 := hw
  have hw1 : gd (M_ud M) (4 * M_um M + 0) = 1 → gd (M_ud M) (4 * M_um M + 1) < 4 := hw1
  generalize hw9 : gd (M_ud M) (4 * M_um M + 1) = w at hw hw1 ⊢
  generalize hk9 : gd (M_ud M) (4 * M_um M + 0) = kd at hk hw hw1 ⊢
  unfold unL
  refine Ev_br rfl (fun hc => ?_) (fun hc => ?_)
  · have hc : nI kd ≠ 0 := hc
    have h0 : ¬ kd = 0 := fun q => hc (by rw [q]; exact nI_0)
    rw [if_neg h0]
    refine Ev_ial rfl (i := 4 * M_um M + 0) rfl (by omega) (by omega) ?_
    rw [hk9]
    refine Ev_br rfl (fun h1 => ?_) (fun h1 => ?_)
    · have h1 : nI kd ≠ nI 1 := h1
      rw [if_neg (fun q => h1 (by rw [q]))]
      exact Ev_rt rfl rfl rfl rfl
    · have h1 : ¬ nI kd ≠ nI 1 := h1
      rw [Decidable.not_not, nI_eq (by omega) (by decide)] at h1
      rw [if_pos h1]
      have hw1 := hw1 h1
      have l2 : ((M_s M).set (10 + w) (gd (M_ud M) (4 * M_um M + 2))).length = 18 := by rw [List.length_set]; exact ls
      refine Ev_ial rfl (i := 4 * M_um M + 2) (nI_add _ _) (by omega) (by omega) ?_
      refine Ev_isl rfl (i := 10 + w) (y := gd (M_ud M) (4 * M_um M + 2)) (nI_add _ _) rfl (by omega) (by omega) (h2 := hp S (Ms_s M ((M_s M).set (10 + w) (gd (M_ud M) (4 * M_um M + 2))))) rfl ?_
      refine Ev_ial rfl (i := 4 * M_um M + 3) (nI_add _ _) (show 4 * M_um M + 3 < (M_ud M).length by omega) (show (M_ud M).length ≤ 1000 by omega) ?_
      refine Ev_isl rfl (i := 14 + w) (y := gd (M_ud M) (4 * M_um M + 3)) (nI_add _ _) rfl (show 14 + w < ((M_s M).set (10 + w) (gd (M_ud M) (4 * M_um M + 2))).length by omega) (show ((M_s M).set (10 + w) (gd (M_ud M) (4 * M_um M + 2))).length ≤ 1000 by omega) (h2 := hp S (Ms_s M (((M_s M).set (10 + w) (gd (M_ud M) (4 * M_um M + 2))).set (14 + w) (gd (M_ud M) (4 * M_um M + 3))))) rfl ?_
      exact Ev_rt rfl rfl rfl rfl
  · have hc : ¬ nI kd ≠ 0 := hc
    rw [← nI_0, Decidable.not_not, nI_eq (by omega) (by decide)] at hc
    rw [if_pos hc]
    have hw := hw hc
    have l2 : ((M_s M).set w (gd (M_ud M) (4 * M_um M + 2))).length = 18 := by rw [List.length_set]; exact ls
    refine Ev_ial rfl (i := 4 * M_um M + 2) (nI_add _ _) (by omega) (by omega) ?_
    refine Ev_isl rfl (i := w) (y := gd (M_ud M) (4 * M_um M + 2)) rfl rfl (by omega) (by omega) (h2 := hp S (Ms_s M ((M_s M).set w (gd (M_ud M) (4 * M_um M + 2))))) rfl ?_
    refine Ev_ial rfl (i := 4 * M_um M + 3) (nI_add _ _) (show 4 * M_um M + 3 < (M_ud M).length by omega) (show (M_ud M).length ≤ 1000 by omega) ?_
    refine Ev_isl rfl (i := 5 + w) (y := gd (M_ud M) (4 * M_um M + 3)) (nI_add _ _) rfl (show 5 + w < ((M_s M).set w (gd (M_ud M) (4 * M_um M + 2))).length by omega) (show ((M_s M).set w (gd (M_ud M) (4 * M_um M + 2))).length ≤ 1000 by omega) (h2 := hp S (Ms_s M (((M_s M).set w (gd (M_ud M) (4 * M_um M + 2))).set (5 + w) (gd (M_ud M) (4 * M_um M + 3))))) rfl ?_
    exact Ev_jp rfl (Ev_rt rfl rfl rfl rfl)
theorem cM_undo {m : Nat} (hL : ML M) (hm : M_um M = m + 1) (hu : M_um M ≤ 10) (hk : udM M m 0 < 3) (hw : udM M m 0 = 0 → udM M m 1 < 5) (hw1 : udM M m 0 = 1 → udM M m 1 < 4) : Cl mX9_undo [.ref 104] (hp S M) (some (.int (nI m))) (hp S (Ms_s (Ms_um M m) (unL (M_s M) (udM M m 0) (udM M m 1) (udM M m 2) (udM M m 3)))) := by
  refine Ev_br rfl (fun _ => ?_) (fun hc => ?_)
  · refine a_run_ev 6 rfl ?_
    refine Ev_h (h2 := hp S (Ms_um M m)) (by rw [hm, show nI (m + 1) - nI 1 = nI m from pk_sub (a := m + 1) (b := 1) (by omega)]; rfl) ?_
    exact cM_undo_tail S (Ms_um M m) hL (show m < 10 by omega) hk hw hw1
  · have hc : ¬ nI (M_um M) ≠ 0 := hc
    rw [← nI_0, Decidable.not_not, nI_eq (by omega) (by decide)] at hc
    omega
end

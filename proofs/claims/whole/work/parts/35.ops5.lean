/-! the class's methods: what they answer (5): shown, images, kinds -/
section
variable (S : cS) (T : aH)
theorem cC_shown_bad {x w : Int32} (hx : x < 0 ∨ nI 8 ≤ x) : Cl mX8_shown [.ref 0, .int x, .int w] (hpC S ++ T) (some (.int kM1)) (hpC S ++ T) := by
  refine Ev_ca rfl (c_isSign_f _ hx) ?_
  exact Ev_br rfl (fun _ => Ev_rt rfl rfl rfl rfl) (fun hc => absurd nI_0 hc)
theorem cC_shown_bad2 {s : Nat} {w : Int32} (hs : s < 8) (h0 : ¬ w = nI 0) (h1 : ¬ w = nI 1) : Cl mX8_shown [.ref 0, .int (nI s), .int w] (hpC S ++ T) (some (.int kM1)) (hpC S ++ T) := by
  refine Ev_ca rfl (c_isSign_t _ hs) ?_
  refine Ev_br rfl (fun hc => absurd hc b1z) (fun _ => ?_)
  refine Ev_ca rfl (c_isBit_f _ h0 h1) ?_
  exact Ev_br rfl (fun hc => absurd nI_0 hc) (fun _ => Ev_rt rfl rfl rfl rfl)
theorem cC_shown_full {s w : Nat} (hs : s < 8) (hw : w < 2) (hm : C_sm S = 6) : Cl mX8_shown [.ref 0, .int (nI s), .int (nI w)] (hpC S ++ T) (some (.int kM3)) (hpC S ++ T) := by
  refine Ev_ca rfl (c_isSign_t _ hs) ?_
  refine Ev_br rfl (fun hc => absurd hc b1z) (fun _ => ?_)
  refine Ev_ca rfl (c_isBit_t _ hw) ?_
  refine Ev_br rfl (fun _ => ?_) (fun hc => absurd b1z hc)
  refine Ev_br rfl (fun hc => ?_) (fun _ => Ev_rt rfl rfl rfl rfl)
  exact absurd hc (nI_nlt (show 6 ≤ C_sm S by omega) (by omega))
theorem cC_shown_tail (hm : C_sm S < 6) : Ev [] mX8_shown (52, [some (.ref 0), some (.int (nI 0)), some (.int (nI 0))], [], hpC S ++ T) (some (.int (nI (C_sm S + 1)))) (hpC (Cs_sm S (C_sm S + 1)) ++ T) := by
  refine a_run_ev 6 rfl ?_
  refine Ev_h (h2 := hpC (Cs_sm S (C_sm S + 1)) ++ T) (by rw [nI_add]; rfl) ?_
  exact Ev_rt rfl rfl rfl rfl
theorem cC_shown_tail' {a b : Value} (hm : C_sm S < 6) : Ev [] mX8_shown (52, [some (.ref 0), some a, some b], [], hpC S ++ T) (some (.int (nI (C_sm S + 1)))) (hpC (Cs_sm S (C_sm S + 1)) ++ T) := by
  refine a_run_ev 6 rfl ?_
  refine Ev_h (h2 := hpC (Cs_sm S (C_sm S + 1)) ++ T) (by rw [nI_add]; rfl) ?_
  exact Ev_rt rfl rfl rfl rfl
theorem cC_shown {s w : Nat} (hs : s < 8) (hw : w < 2) (hm : C_sm S < 6) (ls : (C_ss S).length = 6) (lh : (C_sh S).length = 6) : Cl mX8_shown [.ref 0, .int (nI s), .int (nI w)] (hpC S ++ T) (some (.int (nI (C_sm S + 1)))) (hpC (Cs_sm (Cs_sh (Cs_ss S ((C_ss S).set (C_sm S) s)) ((C_sh S).set (C_sm S) w)) (C_sm S + 1)) ++ T) := by
  refine Ev_ca rfl (c_isSign_t _ hs) ?_
  refine Ev_br rfl (fun hc => absurd hc b1z) (fun _ => ?_)
  refine Ev_ca rfl (c_isBit_t _ hw) ?_
  refine Ev_br rfl (fun _ => ?_) (fun hc => absurd b1z hc)
  refine Ev_br rfl (fun _ => ?_) (fun hc => absurd (nI_lt hm (by decide)) hc)
  refine Ev_ca rfl (c_put (hpC S ++ T) 102 (C_ss S) (C_sm S) s rfl (by omega) (by omega)) ?_
  refine Ev_h (h2 := hpC (Cs_ss S ((C_ss S).set (C_sm S) s)) ++ T) rfl ?_
  refine Ev_ca rfl (c_put (hpC (Cs_ss S ((C_ss S).set (C_sm S) s)) ++ T) 103 (C_sh S) (C_sm S) w rfl (by omega) (by omega)) ?_
  refine Ev_h (h2 := hpC (Cs_sh (Cs_ss S ((C_ss S).set (C_sm S) s)) ((C_sh S).set (C_sm S) w)) ++ T) rfl ?_
  exact cC_shown_tail' (Cs_sh (Cs_ss S ((C_ss S).set (C_sm S) s)) ((C_sh S).set (C_sm S) w)) T hm
-- images
theorem cC_keep_bad {x : Int32} (hx : x < 0 ∨ nI 2 ≤ x) : Cl mX8_keep [.ref 0, .int x] (hpC S ++ T) (some (.int kM1)) (hpC S ++ T) := by
  refine Ev_ca rfl (c_isImage_f _ hx) ?_
  exact Ev_br rfl (fun hc => absurd nI_0 hc) (fun _ => Ev_rt rfl rfl rfl rfl)
theorem cC_keep_tail {i : Nat} (hi : i < 2) (hL : MoL (C_nw S)) (hB : MoB (C_nw S)) (hK : ho_K (C_to S) ≤ 5) (hU : ho_U (C_to S) ≤ 4) (hk : C_ki S < 4) : Ev [] mX8_keep (21, [some (.ref 0), some (.int (nI i))], [], hpC S ++ T) (some (.int (nI (pop (liC S))))) (hpC (Cs_ki S (C_ki S ||| 2 ^ i)) ++ T) := by
  have hp := pow_lt31 (n := i) (k := 2) hi (by omega)
  have hb : liC S < 32 := bits32 _ hK
  refine a_run_ev 8 rfl ?_
  refine Ev_h (h2 := hpC (Cs_ki S (C_ki S ||| 2 ^ i)) ++ T) (by rw [nI_shl1 (by omega), nI_or (show C_ki S < 2 ^ 31 by omega) (by omega)]; rfl) ?_
  refine Ev_ca rfl (c_letIn (Cs_ki S (C_ki S ||| 2 ^ i)) T hL hB hK hU) ?_
  exact Ev_ca rfl (c_bitCount _ (Nat.lt_trans hb (by decide))) (Ev_rt rfl rfl rfl rfl)
theorem cC_keep {i : Nat} (hi : i < 2) (hL : MoL (C_nw S)) (hB : MoB (C_nw S)) (hK : ho_K (C_to S) ≤ 5) (hU : ho_U (C_to S) ≤ 4) (hk : C_ki S < 4) (hI : ∀ j, MoL (C_im S j)) : Cl mX8_keep [.ref 0, .int (nI i)] (hpC S ++ T) (some (.int (nI (pop (liC S))))) (hpC (Cs_ki (Cs_im S (updM (C_im S) i (C_nw S))) (C_ki S ||| 2 ^ i)) ++ T) := by
  refine Ev_ca rfl (c_isImage_t _ hi) ?_
  refine Ev_br rfl (fun _ => ?_) (fun hc => absurd b1z hc)
  refine Ev_ca rfl (c_images_store S T hi hL hI) ?_
  exact cC_keep_tail (Cs_im S (updM (C_im S) i (C_nw S))) T hi hL hB hK hU hk
theorem cC_back_bad {x : Int32} (hx : x < 0 ∨ nI 2 ≤ x) : Cl mX8_back [.ref 0, .int x] (hpC S ++ T) (some (.int kM1)) (hpC S ++ T) := by
  refine Ev_ca rfl (c_isImage_f _ hx) ?_
  exact Ev_br rfl (fun hc => absurd nI_0 hc) (fun _ => Ev_rt rfl rfl rfl rfl)
theorem cC_back_st {i : Nat} (hi : i < 2) (hk : C_ki S < 4) (h0 : bt (C_ki S) i = 0) : Cl mX8_back [.ref 0, .int (nI i)] (hpC S ++ T) (some (.int kM2)) (hpC S ++ T) := by
  refine Ev_ca rfl (c_isImage_t _ hi) ?_
  refine Ev_br rfl (fun _ => ?_) (fun hc => absurd b1z hc)
  refine Ev_ca rfl (c_has _ (show C_ki S < 2 ^ 31 by omega) (by omega)) ?_
  rw [h0]
  exact Ev_br rfl (fun hc => absurd nI_0 hc) (fun _ => Ev_rt rfl rfl rfl rfl)
theorem cC_back_tail {a : Value} (hL : MoL (C_nw S)) (hB : MoB (C_nw S)) (hK : ho_K (C_to S) ≤ 5) (hU : ho_U (C_to S) ≤ 4) : Ev [] mX8_back (35, [some (.ref 0), some a], [], hpC S ++ T) (some (.int (nI (pop (liC S))))) (hpC (Cs_un S 0) ++ T) := by
  have hb : liC S < 32 := bits32 _ hK
  refine a_run_ev 3 rfl ?_
  refine Ev_h (h2 := hpC (Cs_un S 0) ++ T) rfl ?_
  refine Ev_ca rfl (c_letIn (Cs_un S 0) T hL hB hK hU) ?_
  exact Ev_ca rfl (c_bitCount _ (Nat.lt_trans hb (by decide))) (Ev_rt rfl rfl rfl rfl)
theorem cC_back {i : Nat} (hi : i < 2) (hL : MoL (C_nw S)) (hK : ho_K (C_to S) ≤ 5) (hU : ho_U (C_to S) ≤ 4) (hk : C_ki S < 4) (h1 : bt (C_ki S) i = 1) (hI : ∀ j, MoL (C_im S j)) (hIB : ∀ j, MoB (C_im S j)) : Cl mX8_back [.ref 0, .int (nI i)] (hpC S ++ T) (some (.int (nI (pop (liC (Cs_nw S (C_im S i))))))) (hpC (Cs_un (Cs_nw S (C_im S i)) 0) ++ T) := by
  refine Ev_ca rfl (c_isImage_t _ hi) ?_
  refine Ev_br rfl (fun _ => ?_) (fun hc => absurd b1z hc)
  refine Ev_ca rfl (c_has _ (show C_ki S < 2 ^ 31 by omega) (by omega)) ?_
  rw [h1]
  refine Ev_br rfl (fun _ => ?_) (fun hc => absurd b1z hc)
  refine Ev_ca rfl (c_images_fetch S T hi hL hI) ?_
  exact cC_back_tail (Cs_nw S (C_im S i)) T (hI i) (hIB i) hK hU
-- kinds
def trS (n : Nat) : cS := Cs_tr S (C_tr S + n)
theorem c_asK {k : Nat} (hk : k < 5) (hL : MoL (C_nw S)) (hB : MoB (C_nw S)) : Cl mX8_asKnocker [.ref 0, .int (nI k)] (hpC S ++ T) (some (.int (nI (pop (sgC S k))))) (hpC (trS S 1) ++ T) := by
  refine a_run_ev 6 rfl ?_
  refine Ev_h (h2 := hpC (trS S 1) ++ T) (by rw [lN_add]; rfl) ?_
  refine Ev_ca rfl (c_signsOf (trS S 1) T hL (by omega)) ?_
  exact Ev_ca rfl (c_bitCount _ (hB.1 k)) (Ev_rt rfl rfl rfl rfl)
abbrev meC (k : Nat) : Nat := met (seC S) (maC S) (sgC S k) (ho_U (C_to S))
theorem c_asMo {k : Nat} (hk : k < 5) (hL : MoL (C_nw S)) (hB : MoB (C_nw S)) (hU : ho_U (C_to S) ≤ 4) : Cl mX8_asMother [.ref 0, .int (nI k)] (hpC S ++ T) (some (.int (nI (pop (sgC S k)) + nI (meC S k)))) (hpC (trS (trS S 10) 1) ++ T) := by
  refine a_run_ev 6 rfl ?_
  refine Ev_h (h2 := hpC (trS S 10) ++ T) (by rw [lN_add]; rfl) ?_
  refine Ev_ca rfl (c_asK (trS S 10) T hk hL hB) ?_
  refine Ev_ca rfl (c_signsOf (trS (trS S 10) 1) T hL (by omega)) ?_
  exact Ev_ca rfl (c_rulesMet (trS (trS S 10) 1) T hL hB (hB.1 k) hU) (Ev_rt rfl rfl rfl rfl)
theorem c_asWo {k : Nat} (hk : k < 5) (hL : MoL (C_nw S)) (hB : MoB (C_nw S)) : Cl mX8_asWolf [.ref 0, .int (nI k)] (hpC S ++ T) (some (.int (nI (pop (sgC S k)) - nI (hrC S k)))) (hpC (trS (trS S 100) 1) ++ T) := by
  have l1 := hL.2.1
  refine a_run_ev 6 rfl ?_
  refine Ev_h (h2 := hpC (trS S 100) ++ T) (by rw [lN_add]; rfl) ?_
  refine Ev_ca rfl (c_asK (trS S 100) T hk hL hB) ?_
  exact Ev_ca rfl (c_at (hpC (trS (trS S 100) 1) ++ T) 30 (C_nw S).2.1 k rfl (by omega) (by omega)) (Ev_rt rfl rfl rfl rfl)
theorem c_asAu {k : Nat} (hk : k < 5) (hL : MoL (C_nw S)) (hB : MoB (C_nw S)) (hU : ho_U (C_to S) ≤ 4) : Cl mX8_asAunt [.ref 0, .int (nI k)] (hpC S ++ T) (some (.int (nI 2 * (nI (pop (sgC S k)) + nI (meC S k))))) (hpC (trS (trS (trS S 1000) 10) 1) ++ T) := by
  refine a_run_ev 6 rfl ?_
  refine Ev_h (h2 := hpC (trS S 1000) ++ T) (by rw [lN_add]; rfl) ?_
  exact Ev_ca rfl (c_asMo (trS S 1000) T hk hL hB hU) (Ev_rt rfl rfl rfl rfl)
theorem c_asMi {k : Nat} (hk : k < 5) (hL : MoL (C_nw S)) (hB : MoB (C_nw S)) : Cl mX8_asMiller [.ref 0, .int (nI k)] (hpC S ++ T) (some (.int (nI (pop (sgC S k)) - nI (hrC S k) + nI k))) (hpC (trS (trS (trS S 10000) 100) 1) ++ T) := by
  refine a_run_ev 6 rfl ?_
  refine Ev_h (h2 := hpC (trS S 10000) ++ T) (by rw [lN_add]; rfl) ?_
  exact Ev_ca rfl (c_asWo (trS S 10000) T hk hL hB) (Ev_rt rfl rfl rfl rfl)
theorem c_asFo {k : Nat} (hk : k < 5) (hL : MoL (C_nw S)) (hB : MoB (C_nw S)) (hLd : ho_L (C_to S) < 256) : Cl mX8_asFox [.ref 0, .int (nI k)] (hpC S ++ T) (some (.int (nI (pop (sgC S k)) + nI (pop (sgC S k &&& ho_L (C_to S)))))) (hpC (trS (trS S 100000) 1) ++ T) := by
  have hx : sgC S k < 256 := hB.1 k
  have hle : sgC S k &&& ho_L (C_to S) ≤ sgC S k := Nat.and_le_left
  refine a_run_ev 6 rfl ?_
  refine Ev_h (h2 := hpC (trS S 100000) ++ T) (by rw [lN_add]; rfl) ?_
  refine Ev_ca rfl (c_asK (trS S 100000) T hk hL hB) ?_
  refine Ev_ca rfl (c_signsOf (trS (trS S 100000) 1) T hL (by omega)) ?_
  refine Ev_cae rfl (as' := [.int (nI (sgC S k &&& ho_L (C_to S)))]) ?_ (c_bitCount _ (by omega)) (Ev_rt rfl rfl rfl rfl)
  rw [← nI_and (show sgC S k < 2 ^ 31 by omega) (by omega)]
  rfl
theorem cC_rate_bad {x k : Int32} (hx : k < 0 ∨ nI (ho_K (C_to S)) ≤ k) : Cl mX8_rate [.ref 0, .int x, .int k] (hpC S ++ T) (some (.int (a_k (-1000000)))) (hpC S ++ T) := by
  refine Ev_ca rfl (c_isKnocker_f S T hx) ?_
  exact Ev_br rfl (fun hc => absurd nI_0 hc) (fun _ => Ev_rt rfl rfl rfl rfl)
theorem cC_rate_bad2 {x : Int32} {k : Nat} (hk : k < ho_K (C_to S)) (hK : ho_K (C_to S) ≤ 5) (hx : x < 0 ∨ nI 6 ≤ x) : Cl mX8_rate [.ref 0, .int x, .int (nI k)] (hpC S ++ T) (some (.int (a_k (-1000000)))) (hpC S ++ T) := by
  have h := sw_out (by decide) hx
  refine Ev_ca rfl (c_isKnocker_t S T hk hK) ?_
  refine Ev_br rfl (fun _ => ?_) (fun hc => absurd b1z hc)
  exact Ev_sw rfl 88 (by rw [if_pos (by omega)]; rfl) (Ev_rt rfl rfl rfl rfl)
theorem cC_rate_go {x k t : Nat} {v : Option Value} {h' : aH} (hk : k < ho_K (C_to S)) (hK : ho_K (C_to S) ≤ 5) (ht : (if (nI x).toInt < 0 ∨ 5 < (nI x).toInt then some 76 else (#[40, 46, 52, 58, 64, 70] : Array Int)[((nI x).toInt - 0).toNat]?) = some ((t : Int) - (12 : Nat))) (kk : Ev [] mX8_rate (t, [some (.ref 0), some (.int (nI x)), some (.int (nI k))], [], hpC S ++ T) v h') : Cl mX8_rate [.ref 0, .int (nI x), .int (nI k)] (hpC S ++ T) v h' := by
  refine Ev_ca rfl (c_isKnocker_t S T hk hK) ?_
  refine Ev_br rfl (fun _ => ?_) (fun hc => absurd b1z hc)
  exact Ev_sw rfl t ht kk
theorem cC_rate0 {k : Nat} (hk : k < ho_K (C_to S)) (hK : ho_K (C_to S) ≤ 5) (hL : MoL (C_nw S)) (hB : MoB (C_nw S)) : Cl mX8_rate [.ref 0, .int (nI 0), .int (nI k)] (hpC S ++ T) (some (.int (nI (pop (sgC S k))))) (hpC (trS S 1) ++ T) :=
  cC_rate_go S T (t := 52) hk hK (by decide) (Ev_ca rfl (c_asK S T (by omega) hL hB) (Ev_rt rfl rfl rfl rfl))
theorem cC_rate1 {k : Nat} (hk : k < ho_K (C_to S)) (hK : ho_K (C_to S) ≤ 5) (hL : MoL (C_nw S)) (hB : MoB (C_nw S)) (hU : ho_U (C_to S) ≤ 4) : Cl mX8_rate [.ref 0, .int (nI 1), .int (nI k)] (hpC S ++ T) (some (.int (nI (pop (sgC S k)) + nI (meC S k)))) (hpC (trS (trS S 10) 1) ++ T) :=
  cC_rate_go S T (t := 58) hk hK (by decide) (Ev_ca rfl (c_asMo S T (by omega) hL hB hU) (Ev_rt rfl rfl rfl rfl))
theorem cC_rate2 {k : Nat} (hk : k < ho_K (C_to S)) (hK : ho_K (C_to S) ≤ 5) (hL : MoL (C_nw S)) (hB : MoB (C_nw S)) : Cl mX8_rate [.ref 0, .int (nI 2), .int (nI k)] (hpC S ++ T) (some (.int (nI (pop (sgC S k)) - nI (hrC S k)))) (hpC (trS (trS S 100) 1) ++ T) :=
  cC_rate_go S T (t := 64) hk hK (by decide) (Ev_ca rfl (c_asWo S T (by omega) hL hB) (Ev_rt rfl rfl rfl rfl))
theorem cC_rate3 {k : Nat} (hk : k < ho_K (C_to S)) (hK : ho_K (C_to S) ≤ 5) (hL : MoL (C_nw S)) (hB : MoB (C_nw S)) (hU : ho_U (C_to S) ≤ 4) : Cl mX8_rate [.ref 0, .int (nI 3), .int (nI k)] (hpC S ++ T) (some (.int (nI 2 * (nI (pop (sgC S k)) + nI (meC S k))))) (hpC (trS (trS (trS S 1000) 10) 1) ++ T) :=
  cC_rate_go S T (t := 70) hk hK (by decide) (Ev_ca rfl (c_asAu S T (by omega) hL hB hU) (Ev_rt rfl rfl rfl rfl))
theorem cC_rate4 {k : Nat} (hk : k < ho_K (C_to S)) (hK : ho_K (C_to S) ≤ 5) (hL : MoL (C_nw S)) (hB : MoB (C_nw S)) : Cl mX8_rate [.ref 0, .int (nI 4), .int (nI k)] (hpC S ++ T) (some (.int (nI (pop (sgC S k)) - nI (hrC S k) + nI k))) (hpC (trS (trS (trS S 10000) 100) 1) ++ T) :=
  cC_rate_go S T (t := 76) hk hK (by decide) (Ev_ca rfl (c_asMi S T (by omega) hL hB) (Ev_rt rfl rfl rfl rfl))
theorem cC_rate5 {k : Nat} (hk : k < ho_K (C_to S)) (hK : ho_K (C_to S) ≤ 5) (hL : MoL (C_nw S)) (hB : MoB (C_nw S)) (hLd : ho_L (C_to S) < 256) : Cl mX8_rate [.ref 0, .int (nI 5), .int (nI k)] (hpC S ++ T) (some (.int (nI (pop (sgC S k)) + nI (pop (sgC S k &&& ho_L (C_to S)))))) (hpC (trS (trS S 100000) 1) ++ T) :=
  cC_rate_go S T (t := 82) hk hK (by decide) (Ev_ca rfl (c_asFo S T (by omega) hL hB hLd) (Ev_rt rfl rfl rfl rfl))
end

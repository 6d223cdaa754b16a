/-! undo, images, kinds, who, tell, odds of both -/
theorem j_undo {S : cS} {M : mS} (h : Inv S M) : J2 mX8_undo mX9_undo [] S M := by
  obtain ⟨hL, hB, hum, n1, n2, t1, t2, hK5, hE6, hU4, hLd, hP, hpp, hun, ls, hsB⟩ := ev_facts h
  have h0 := h
  obtain ⟨⟨c1, c2, ⟨c7, c8, c9, c10⟩, ⟨c11, c12, c13⟩, c14, c15⟩, ⟨w1, w2, w3, w4, w5, w6, w7, w8⟩, hH, hN, hT, ⟨u1, u2⟩, hI, hS, hTr⟩ := h
  by_cases hu0 : C_un S = 0
  · exact J2_same h0 (fun T => cC_undo_st S T hu0) (fun S0 => cM_undo_st S0 M (u1.trans hu0))
  obtain ⟨m, hm⟩ : ∃ m, M_um M = m + 1 := ⟨M_um M - 1, by omega⟩
  obtain ⟨k1, k2, k3⟩ := w7 m (by omega)
  have hR := fun S0 => cM_undo S0 M hL hm hum k1 (fun q => (k2 q).1) (fun q => (k3 q).1)
  have hsU := sUf_undo hm ls (fun q => (k2 q).1) (fun q => (k3 q).1)
  have hprv : prv (C_pp S) = (C_pp S + 9 - 0) % 10 ∧ prv (C_pp S) < 10 := by
    unfold prv
    split <;> omega
  have hlu : (unL (M_s M) (udM M m 0) (udM M m 1) (udM M m 2) (udM M m 3)).length = 18 := unL_len.trans ls
  have hsb : sB (unL (M_s M) (udM M m 0) (udM M m 1) (udM M m 2) (udM M m 3)) := by
    unfold unL
    by_cases q0 : udM M m 0 = 0
    · obtain ⟨x1, x2, x3⟩ := k2 q0
      rw [if_pos q0]
      exact sB_hr (sB_sg hsB x1 x2) x1 x3
    · rw [if_neg q0]
      by_cases q1 : udM M m 0 = 1
      · obtain ⟨x1, x2, x3⟩ := k3 q1
        rw [if_pos q1]
        exact sB_ma (sB_se hsB x1 x2) x1 x3
      · rw [if_neg q1]
        exact hsB
  have hN1 := u2 0 (by omega)
  rw [← hsU 0, ← hprv.1] at hN1
  have hem : nI (C_un S - 1) = nI m := congrArg nI (by omega)
  have hC := fun T => cC_undo S T n1 hP hpp (by omega) hun
  rw [hem] at hC
  refine J2_mk (.int (nI m)) (Cs_nw (Cs_pp (Cs_un S (C_un S - 1)) (prv (C_pp S))) (C_pm S (prv (C_pp S)))) (Ms_s (Ms_um M m) (unL (M_s M) (udM M m 0) (udM M m 1) (udM M m 2) (udM M m 3))) ⟨⟨c1, c2, ⟨(c9 _).1, (c9 _).2, c9, c10⟩, ⟨hprv.2, by show C_un S - 1 ≤ 10; omega, c13⟩, c14, c15⟩, ⟨⟨w1.1, w1.2.1, w1.2.2.1, w1.2.2.2.1, w1.2.2.2.2.1, hlu, w1.2.2.2.2.2.2⟩, ⟨hsb.1, hsb.2, w2.2.2⟩, w3, w4, w5, by show m ≤ 10; omega, fun q hq => w7 q (Nat.lt_trans (show q < m from hq) (show m < M_um M by omega)), w8⟩, hH, hN1, hT, ⟨by show m = C_un S - 1; omega, fun j hj => ?_⟩, hI, hS, hTr⟩ hC hR
  have hj : j < C_un S - 1 := hj
  rw [hsU (j + 1)]
  have q := u2 (j + 1) (by omega)
  have e : (prv (C_pp S) + 9 - j) % 10 = (C_pp S + 9 - (j + 1)) % 10 := by rw [hprv.1]; omega
  show nowR _ _ (C_pm S ((prv (C_pp S) + 9 - j) % 10)) _
  rw [e]
  exact q
-- images
theorem ki_or : ∀ k, k < 4 → ∀ i, i < 2 → (k ||| 2 ^ i) < 4 ∧ bt (k ||| 2 ^ i) i = 1 ∧ ∀ j, j < 2 → j ≠ i → bt (k ||| 2 ^ i) j = bt k j := by decide +kernel
theorem j_keep {S : cS} {M : mS} (h : Inv S M) (x : Int32) : J2 mX8_keep mX9_keep [.int x] S M := by
  obtain ⟨hL, hB, hum, n1, n2, t1, t2, hK5, hE6, hU4, hLd, hP, hpp, hun, ls, hsB⟩ := ev_facts h
  rcases pk_ix x (n := 2) (by decide) with q | q | ⟨i, hi, rfl⟩
  · exact J2_same h (fun T => cC_keep_bad S T (Or.inl q)) (fun S0 => cM_keep_bad S0 M (Or.inl q))
  · exact J2_same h (fun T => cC_keep_bad S T (Or.inr q)) (fun S0 => cM_keep_bad S0 M (Or.inr q))
  have hR := fun S0 => cM_keep S0 M hi hL hB (cpK (M_kp M) (M_s M) (18 * i) 18) rfl
  rw [j_li h] at hR
  obtain ⟨⟨c1, c2, ⟨c7, c8, c9, c10⟩, ⟨c11, c12, c13⟩, c14, c15⟩, ⟨w1, w2, w3, w4, w5, w6, w7, w8⟩, hH, hN, hT, hU, hI, hS, hTr⟩ := h
  obtain ⟨o1, o2, o3⟩ := ki_or (C_ki S) c13 i hi
  have lk := hL.2.2.2.2.2.2.1
  have lik := hL.2.2.2.2.2.2.2.1
  have hgd := cpK_gd (M_kp M) (M_s M) (18 * i) 18 (by omega)
  have hlen : (cpK (M_kp M) (M_s M) (18 * i) 18).length = 36 := by
    have := cpK_len (M_kp M) (M_s M) (18 * i) 18
    omega
  generalize cpK (M_kp M) (M_s M) (18 * i) 18 = X at hR hgd hlen
  have him : ∀ j, MoL (updM (C_im S) i (C_nw S) j) ∧ MoB (updM (C_im S) i (C_nw S) j) := by
    intro j
    unfold updM
    split
    · exact ⟨c7, c8⟩
    · exact c10 j
  have hX1 : ∀ j, j < 18 → gd X (18 * i + j) = gd (M_s M) j := fun j hj => by
    rw [hgd, if_pos ⟨by omega, by omega⟩, show 18 * i + j - 18 * i = j by omega]
  have hX2 : ∀ i2, i2 < 2 → i2 ≠ i → ∀ j, j < 18 → gd X (18 * i2 + j) = gd (M_kp M) (18 * i2 + j) := fun i2 h2 hne j hj => by
    rw [hgd, if_neg (by omega)]
  refine J2_mk _ (Cs_ki (Cs_im S (updM (C_im S) i (C_nw S))) (C_ki S ||| 2 ^ i)) (Ms_ik (Ms_kp M X) ((M_ik M).set i 1)) ⟨⟨c1, c2, ⟨c7, c8, c9, him⟩, ⟨c11, c12, o1⟩, c14, c15⟩, ⟨⟨w1.1, w1.2.1, w1.2.2.1, w1.2.2.2.1, w1.2.2.2.2.1, ls, hlen, len_s lik, w1.2.2.2.2.2.2.2.2⟩, w2, w3, w4, w5, w6, w7, fun i2 h2 => ?_⟩, hH, hN, hT, JU_congr hU rfl rfl rfl rfl rfl rfl rfl, fun i2 h2 => ?_, hS, hTr⟩ (fun T => cC_keep S T hi n1 n2 hK5 hU4 c13 (fun j => (c10 j).1)) hR
  · show (∀ k, k < 5 → gd X (18 * i2 + k) < 256 ∧ gd X (18 * i2 + (5 + k)) < 100) ∧ (∀ k, k < 4 → gd X (18 * i2 + (10 + k)) < 256 ∧ gd X (18 * i2 + (14 + k)) < 9)
    by_cases e : i2 = i
    · subst e
      refine ⟨fun k hk => ?_, fun k hk => ?_⟩
      · rw [hX1 k (by omega), hX1 (5 + k) (by omega)]
        exact hsB.1 k hk
      · rw [hX1 (10 + k) (by omega), hX1 (14 + k) (by omega)]
        exact hsB.2 k hk
    · obtain ⟨y1, y2⟩ := w8 i2 h2
      refine ⟨fun k hk => ?_, fun k hk => ?_⟩
      · rw [hX2 i2 h2 e k (by omega), hX2 i2 h2 e (5 + k) (by omega)]
        exact y1 k hk
      · rw [hX2 i2 h2 e (10 + k) (by omega), hX2 i2 h2 e (14 + k) (by omega)]
        exact y2 k hk
  · show gd ((M_ik M).set i 1) i2 = bt (C_ki S ||| 2 ^ i) i2 ∧ (bt (C_ki S ||| 2 ^ i) i2 = 1 → nowR (ho_K (C_to S)) (ho_U (C_to S)) (if i2 = i then C_nw S else C_im S i2) (fun j => gd X (18 * i2 + j)))
    by_cases e : i2 = i
    · subst e
      rw [gd_set_eq (by omega), o2, if_pos rfl]
      refine ⟨rfl, fun _ => ⟨fun k hk => ?_, fun k hk => ?_⟩⟩
      · show gd X (18 * i2 + k) = _ ∧ gd X (18 * i2 + (5 + k)) = _
        rw [hX1 k (by omega), hX1 (5 + k) (by omega)]
        exact hN.1 k hk
      · show gd X (18 * i2 + (10 + k)) = _ ∧ gd X (18 * i2 + (14 + k)) = _
        rw [hX1 (10 + k) (by omega), hX1 (14 + k) (by omega)]
        exact hN.2 k hk
    · obtain ⟨y1, y2⟩ := hI i2 h2
      rw [gd_set_ne (fun q => e q.symm), o3 i2 h2 e, if_neg e]
      refine ⟨y1, fun q => ?_⟩
      obtain ⟨y3, y4⟩ := y2 q
      refine ⟨fun k hk => ?_, fun k hk => ?_⟩
      · show gd X (18 * i2 + k) = _ ∧ gd X (18 * i2 + (5 + k)) = _
        rw [hX2 i2 h2 e k (by omega), hX2 i2 h2 e (5 + k) (by omega)]
        exact y3 k hk
      · show gd X (18 * i2 + (10 + k)) = _ ∧ gd X (18 * i2 + (14 + k)) = _
        rw [hX2 i2 h2 e (10 + k) (by omega), hX2 i2 h2 e (14 + k) (by omega)]
        exact y4 k hk
theorem j_back {S : cS} {M : mS} (h : Inv S M) (x : Int32) : J2 mX8_back mX9_back [.int x] S M := by
  obtain ⟨hL, hB, hum, n1, n2, t1, t2, hK5, hE6, hU4, hLd, hP, hpp, hun, ls, hsB⟩ := ev_facts h
  have h0 := h
  obtain ⟨⟨c1, c2, ⟨c7, c8, c9, c10⟩, ⟨c11, c12, c13⟩, c14, c15⟩, ⟨w1, w2, w3, w4, w5, w6, w7, w8⟩, hH, hN, hT, hU, hI, hS, hTr⟩ := h
  rcases pk_ix x (n := 2) (by decide) with q | q | ⟨i, hi, rfl⟩
  · exact J2_same h0 (fun T => cC_back_bad S T (Or.inl q)) (fun S0 => cM_back_bad S0 M (Or.inl q))
  · exact J2_same h0 (fun T => cC_back_bad S T (Or.inr q)) (fun S0 => cM_back_bad S0 M (Or.inr q))
  obtain ⟨i1, i2⟩ := hI i hi
  have hb := bt_lt (C_ki S) i
  by_cases hb0 : bt (C_ki S) i = 0
  · exact J2_same h0 (fun T => cC_back_st S T hi c13 hb0) (fun S0 => cM_back_st S0 M hi hL (i1.trans hb0))
  have hb1 : bt (C_ki S) i = 1 := by omega
  obtain ⟨y1, y2⟩ := i2 hb1
  obtain ⟨z1, z2⟩ := w8 i hi
  have hgd := cpB_gd (M_s M) (M_kp M) (18 * i) 18 (by omega)
  have hlen : (cpB (M_s M) (M_kp M) (18 * i) 18).length = 18 := by
    have := cpB_len (M_s M) (M_kp M) (18 * i) 18
    omega
  have hR := fun (hXB : sB (cpB (M_s M) (M_kp M) (18 * i) 18)) S0 => cM_back S0 M hi hL hB (i1.trans hb1) (cpB (M_s M) (M_kp M) (18 * i) 18) rfl hXB
  generalize cpB (M_s M) (M_kp M) (18 * i) 18 = X at hR hgd hlen
  have hX : ∀ j, j < 18 → gd X j = gd (M_kp M) (18 * i + j) := fun j hj => by rw [hgd, if_pos hj]
  have hXB : sB X := by
    refine ⟨fun k hk => ?_, fun k hk => ?_⟩
    · rw [hX k (by omega), hX (5 + k) (by omega)]
      exact z1 k hk
    · rw [hX (10 + k) (by omega), hX (14 + k) (by omega)]
      exact z2 k hk
  have hR := hR hXB
  have hI2 : Inv (Cs_un (Cs_nw S (C_im S i)) 0) (Ms_um (Ms_s M X) 0) := by
    refine ⟨⟨c1, c2, ⟨(c10 i).1, (c10 i).2, c9, c10⟩, ⟨c11, Nat.zero_le _, c13⟩, c14, c15⟩, ⟨⟨w1.1, w1.2.1, w1.2.2.1, w1.2.2.2.1, w1.2.2.2.2.1, hlen, w1.2.2.2.2.2.2⟩, ⟨hXB.1, hXB.2, w2.2.2⟩, w3, w4, w5, Nat.zero_le _, fun q hq => absurd hq (Nat.not_lt_zero q), w8⟩, hH, ⟨fun k hk => ?_, fun k hk => ?_⟩, hT, ⟨rfl, fun j hj => absurd hj (Nat.not_lt_zero j)⟩, hI, hS, hTr⟩
    · have hk : k < ho_K (C_to S) := hk
      show gd X k = _ ∧ gd X (5 + k) = _
      rw [hX k (by omega), hX (5 + k) (by omega)]
      exact y1 k hk
    · have hk : k < ho_U (C_to S) := hk
      show gd X (10 + k) = _ ∧ gd X (14 + k) = _
      rw [hX (10 + k) (by omega), hX (14 + k) (by omega)]
      exact y2 k hk
  have ea0 := j_li hI2
  have ea : liM (Ms_s M X) = liC (Cs_nw S (C_im S i)) := ea0
  rw [ea] at hR
  exact J2_mk _ _ _ hI2 (fun T => cC_back S T hi n1 hK5 hU4 c13 hb1 (fun j => (c10 j).1) (fun j => (c10 j).2)) hR
-- kinds
theorem Inv_tr {S : cS} {M : mS} (h : Inv S M) {x y : Nat} (e : y = x) : Inv (Cs_tr S x) (Ms_tr M y) := by
  obtain ⟨hC, hM, hH, hN, hT, hU, hI, hS, hTr⟩ := h
  exact ⟨hC, hM, hH, hN, hT, JU_congr hU rfl rfl rfl rfl rfl rfl rfl, hI, hS, e⟩
theorem j_rate {S : cS} {M : mS} (h : Inv S M) (x w : Int32) : J2 mX8_rate mX9_rate [.int x, .int w] S M := by
  obtain ⟨hL, hB, hum, n1, n2, t1, t2, hK5, hE6, hU4, hLd, hP, hpp, hun, ls, hsB⟩ := ev_facts h
  have e1 : M_kn M = ho_K (C_to S) := h.2.2.1.1
  have e3 : M_ru M = ho_U (C_to S) := h.2.2.1.2.2.1
  have e4 : M_ld M = ho_L (C_to S) := h.2.2.1.2.2.2.1
  have et : M_tr M = C_tr S := h.2.2.2.2.2.2.2.2
  have bad : w < 0 ∨ nI (ho_K (C_to S)) ≤ w → J2 mX8_rate mX9_rate [.int x, .int w] S M := by
    intro q
    rcases pk_ix x (n := 6) (by decide) with q2 | q2 | ⟨i, hi, rfl⟩
    · exact J2_same h (fun T => cC_rate_bad S T q) (fun S0 => cM_rate_bad S0 M (Or.inl q2))
    · exact J2_same h (fun T => cC_rate_bad S T q) (fun S0 => cM_rate_bad S0 M (Or.inr q2))
    · exact J2_same h (fun T => cC_rate_bad S T q) (fun S0 => cM_rate_bad2 S0 M hi (by omega) (by rw [e1]; exact q))
  rcases pk_ix w (n := ho_K (C_to S)) (by omega) with q | q | ⟨k, hk, rfl⟩
  · exact bad (Or.inl q)
  · exact bad (Or.inr q)
  have hk2 : k < M_kn M := by omega
  obtain ⟨b1, b2⟩ := j_sg h hk
  have bm : meM M k = meC S k := by
    show met (seM M) (maM M) (sgM M k) (M_ru M) = met (seC S) (maC S) (sgC S k) (ho_U (C_to S))
    rw [b1, e3]
    exact met_congr _ (fun i hi => h.2.2.2.1.2 i hi)
  rcases pk_ix x (n := 6) (by decide) with q2 | q2 | ⟨i, hi, rfl⟩
  · exact J2_same h (fun T => cC_rate_bad2 S T hk hK5 (Or.inl q2)) (fun S0 => cM_rate_bad S0 M (Or.inl q2))
  · exact J2_same h (fun T => cC_rate_bad2 S T hk hK5 (Or.inr q2)) (fun S0 => cM_rate_bad S0 M (Or.inr q2))
  match i, hi with
  | 0, _ =>
    have hR := fun S0 => cM_rate0 S0 M hL hB hk2
    rw [b1] at hR
    exact J2_mk _ _ _ (Inv_tr h (by rw [et])) (fun T => cC_rate0 S T hk hK5 n1 n2) hR
  | 1, _ =>
    have hR := fun S0 => cM_rate1 S0 M hL hB hk2
    rw [b1, bm, ← nI_add] at hR
    exact J2_mk _ _ _ (Inv_tr h (x := C_tr S + 10 + 1) (by rw [et])) (fun T => cC_rate1 S T hk hK5 n1 n2 hU4) hR
  | 2, _ =>
    have hR := fun S0 => cM_rate2 S0 M hL hB hk2
    rw [b1, b2] at hR
    exact J2_mk _ _ _ (Inv_tr h (x := C_tr S + 100 + 1) (by rw [et])) (fun T => cC_rate2 S T hk hK5 n1 n2) hR
  | 3, _ =>
    have hR := fun S0 => cM_rate3 S0 M hL hB hk2
    rw [b1, bm, ← nI_add] at hR
    exact J2_mk _ _ _ (Inv_tr h (x := C_tr S + 1000 + 10 + 1) (by rw [et])) (fun T => cC_rate3 S T hk hK5 n1 n2 hU4) hR
  | 4, _ =>
    have hR := fun S0 => cM_rate4 S0 M hL hB hk2
    rw [b1, b2] at hR
    exact J2_mk _ _ _ (Inv_tr h (x := C_tr S + 10000 + 100 + 1) (by rw [et])) (fun T => cC_rate4 S T hk hK5 n1 n2) hR
  | 5, _ =>
    have hR := fun S0 => cM_rate5 S0 M hL hB hk2
    rw [b1, e4] at hR
    exact J2_mk _ _ _ (Inv_tr h (x := C_tr S + 100000 + 1) (by rw [et])) (fun T => cC_rate5 S T hk hK5 n1 n2 hLd) hR
-- who it was
theorem j_wh {S : cS} {M : mS} (h : Inv S M) : whM M = whC S := by
  show bits (fiM M) (M_kn M) = bits (fiC S) (ho_K (C_to S))
  rw [h.2.2.1.1]
  refine bits_congr _ (fun k hk => ?_)
  show fit (sgM M k) (gd (M_ss M)) (gd (M_sh M)) (M_sm M) = fit (sgC S k) (ssC S) (shC S) (C_sm S)
  rw [h.2.2.2.2.2.2.2.1.1]
  exact fit_congr (j_sg h hk).1 _ (fun i hi => h.2.2.2.2.2.2.2.1.2 i hi)
theorem wi_congr {l : Nat} {f g : Nat → Nat} {s : Nat} : ∀ n, (∀ i, i < n → f i = g i) → wi l f s n = wi l g s n
  | 0, _ => rfl
  | n + 1, h => by
    show wi l f s n + bt l n * bt (f n) s = wi l g s n + bt l n * bt (g n) s
    rw [wi_congr n (fun i hi => h i (by omega)), h n (by omega)]
theorem j_wo {S : cS} {M : mS} (h : Inv S M) : woM M = woC S := by
  funext s
  show wo (wi (whM M) (sgM M) s (M_kn M)) (pop (whM M)) = wo (wi (whC S) (sgC S) s (ho_K (C_to S))) (pop (whC S))
  rw [j_wh h, h.2.2.1.1, wi_congr _ (fun i hi => (j_sg h hi).1)]
theorem j_who {S : cS} {M : mS} (h : Inv S M) : J2 mX8_who mX9_who [] S M := by
  obtain ⟨hL, hB, hum, n1, n2, t1, t2, hK5, hE6, hU4, hLd, hP, hpp, hun, ls, hsB⟩ := ev_facts h
  obtain ⟨c6, c7, c8, c9, c10⟩ := h.1.2.2.2.2.2
  exact J2_eq h (by rw [j_wh h]) (fun T => cC_who S T hK5 n1 n2 c6 c7 c9 c10 c8) (fun S0 => cM_who S0 M hL hB h.2.1.2.2.2.2.1)
theorem j_tell {S : cS} {M : mS} (h : Inv S M) (x : Int32) : J2 mX8_tell mX9_tell [.int x] S M := by
  obtain ⟨hL, hB, hum, n1, n2, t1, t2, hK5, hE6, hU4, hLd, hP, hpp, hun, ls, hsB⟩ := ev_facts h
  obtain ⟨c6, c7, c8, c9, c10⟩ := h.1.2.2.2.2.2
  have hS := h.2.1.2.2.2.2.1
  have go : ∀ w, w < 2 → J2 mX8_tell mX9_tell [.int (nI w)] S M := by
    intro w hw
    by_cases h0 : whC S = 0
    · exact J2_same h (fun T => cC_tell_none S T hw hK5 n1 n2 c6 c7 c9 c10 c8 h0) (fun S0 => cM_tell_none S0 M hw hL hB hS (by rw [j_wh h]; exact h0))
    · exact J2_eq h (by rw [j_wo h]) (fun T => cC_tell S T hw hK5 n1 n2 c6 c7 c9 c10 c8 h0) (fun S0 => cM_tell S0 M hw hL hB hS (by rw [j_wh h]; exact h0))
  rcases bit_ix x with ⟨q1, q2⟩ | rfl | rfl
  · exact J2_same h (fun T => cC_tell_bad S T q1 q2) (fun S0 => cM_tell_bad S0 M q1 q2)
  · exact go 0 (by decide)
  · exact go 1 (by decide)
-- odds
theorem j_odds {S : cS} {M : mS} (h : Inv S M) (x y z : Int32) : J2 mX8_odds mX9_odds [.int x, .int y, .int z] S M := by
  obtain ⟨hL, hB, hum, n1, n2, t1, t2, hK5, hE6, hU4, hLd, hP, hpp, hun, ls, hsB⟩ := ev_facts h
  have e1 : M_kn M = ho_K (C_to S) := h.2.2.1.1
  rcases pk_ix x (n := ho_K (C_to S)) (by omega) with q | q | ⟨k, hk, rfl⟩
  · exact J2_same h (fun T => cC_odds_bad S T (Or.inl q)) (fun S0 => cM_odds_bad S0 M hB (Or.inl q))
  · exact J2_same h (fun T => cC_odds_bad S T (Or.inr q)) (fun S0 => cM_odds_bad S0 M hB (Or.inr (by rw [e1]; exact q)))
  have hk2 : k < M_kn M := by omega
  rcases hr_ix y (n := 10) (by decide) with q | ⟨p, hp10, rfl⟩
  · exact J2_same h (fun T => cC_odds_bad2 S T hk hK5 q) (fun S0 => cM_odds_bad2 S0 M hB hk2 q)
  have el : leM M = leC S := funext (fun v => j_le h v)
  have go : ∀ w, w < 2 → J2 mX8_odds mX9_odds [.int (nI k), .int (nI p), .int (nI w)] S M := by
    intro w hw
    exact J2_eq h (by rw [el, (j_sg h hk).1]) (fun T => cC_odds S T hk hK5 hp10 hw n1 n2 hU4) (fun S0 => cM_odds S0 M hL hB hk2 hp10 hw)
  rcases bit_ix z with ⟨q1, q2⟩ | rfl | rfl
  · exact J2_same h (fun T => cC_odds_bad3 S T hk hK5 hp10 q1 q2) (fun S0 => cM_odds_bad3 S0 M hB hk2 hp10 q1 q2)
  · exact go 0 (by decide)
  · exact go 1 (by decide)

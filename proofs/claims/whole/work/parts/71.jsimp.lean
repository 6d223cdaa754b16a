/-! the simple calls of both -/
theorem rg_ix (x : Int32) {n : Nat} (h : n < 2 ^ 30) : (x < nI 1 ∨ nI n < x) ∨ ∃ j, 1 ≤ j ∧ j ≤ n ∧ x = nI j := by
  rcases pk_ix x (n := n + 1) (by omega) with q | q | ⟨j, q1, q2⟩
  · exact Or.inl (Or.inl (Int32.lt_of_lt_of_le q (show (0 : Int32) ≤ nI 1 by decide)))
  · exact Or.inl (Or.inr (Int32.lt_of_lt_of_le (nI_lt (show n < n + 1 by omega) (by omega)) q))
  · by_cases h0 : j = 0
    · subst h0
      exact Or.inl (Or.inl (by rw [q2]; decide))
    · exact Or.inr ⟨j, by omega, by omega, q2⟩
theorem bit_ix (x : Int32) : (¬ x = nI 0 ∧ ¬ x = nI 1) ∨ x = nI 0 ∨ x = nI 1 := by
  by_cases h0 : x = nI 0
  · exact Or.inr (Or.inl h0)
  · by_cases h1 : x = nI 1
    · exact Or.inr (Or.inr h1)
    · exact Or.inl ⟨h0, h1⟩
theorem hr_ix (x : Int32) {n : Nat} (h : n < 2 ^ 30) : (x < 0 ∨ nI n < x) ∨ ∃ j, j ≤ n ∧ x = nI j := by
  rcases pk_ix x (n := n + 1) (by omega) with q | q | ⟨j, q1, q2⟩
  · exact Or.inl (Or.inl q)
  · exact Or.inl (Or.inr (Int32.lt_of_lt_of_le (nI_lt (show n < n + 1 by omega) (by omega)) q))
  · exact Or.inr ⟨j, by omega, q2⟩
theorem JU_congr {S S' : cS} {M M' : mS} (h : JU S M) (e1 : M_um M' = M_um M) (e2 : M_ud M' = M_ud M) (e3 : M_s M' = M_s M) (f1 : C_un S' = C_un S) (f2 : C_pm S' = C_pm S) (f3 : C_pp S' = C_pp S) (f4 : C_to S' = C_to S) : JU S' M' := by
  obtain ⟨u1, u2⟩ := h
  refine ⟨e1.trans (u1.trans f1.symm), fun j hj => ?_⟩
  rw [f1] at hj
  unfold JN
  rw [sUf_congr e1 e2 e3, f2, f3, f4]
  exact u2 j hj
-- type
theorem Inv_add {S : cS} {M : mS} (h : Inv S M) (v : Int64) (i : Nat) (hl : C_tl S < 300) : Inv (addS S (byI v i)) (addM M (byN v i)) := by
  obtain ⟨⟨⟨c1, c2, c3⟩, cc⟩, ⟨⟨l1, l2⟩, w2, w3, w4, w5, w6, w7, w8⟩, hH, hN, ⟨t1, t2⟩, hU, hI, hS, hTr⟩ := h
  refine ⟨⟨⟨by show ((C_tb S).set _ _).length = 300; rw [List.length_set]; exact c1, hl, c3⟩, cc⟩, ⟨⟨len_s l1, l2⟩, w2, w3, ⟨len_s w4.1, by show M_ty M + 1 ≤ 300; omega, fun p => gd_set_lt w4.2.2 (bN_lt _) p⟩, w5, w6, w7, w8⟩, hH, hN, ⟨congrArg (· + 1) t1, fun p hp9 => ?_⟩, JU_congr hU rfl rfl rfl rfl rfl rfl rfl, hI, hS, hTr⟩
  have hp9 : p < C_tl S + 1 := hp9
  show gd ((M_tx M).set (M_ty M) (byN v i)) p = bN (gI ((C_tb S).set (C_tl S) (byI v i).toInt8.toInt32) p)
  rw [t1, gI_set, gd_set, c1, w4.1]
  by_cases e : C_tl S = p
  · rw [if_pos ⟨e, by omega⟩, if_pos ⟨e, by omega⟩]
    rfl
  · rw [if_neg (fun q => e q.1), if_neg (fun q => e q.1)]
    exact t2 p (by omega)
theorem Inv_ty (v : Int64) : ∀ (n : Nat) {S : cS} {M : mS}, Inv S M → C_tl S + n ≤ 300 → Inv (tyS v n S) (tyM v n M)
  | 0, _, _, h, _ => h
  | n + 1, S, M, h, hl => Inv_ty v n (Inv_add h v n (by omega)) (by show C_tl S + 1 + n ≤ 300; omega)
theorem j_type {S : cS} {M : mS} (h : Inv S M) (v : Int64) (n : Int32) : J2 mX8_type mX9_type [.long v, .int n] S M := by
  have t1 : M_ty M = C_tl S := h.2.2.2.2.1.1
  have c1 := h.1.1.1
  have c2 := h.1.1.2.1
  have hL : ML M := h.2.1.1
  rcases rg_ix n (n := 8) (by decide) with q | ⟨j, q1, q2, rfl⟩
  · exact J2_same h (fun T => cC_type_bad T S q) (fun S0 => cM_type_bad S0 M q)
  · by_cases hf : C_tl S + j ≤ 300
    · refine J2_mk (.int (nI (C_tl S + j))) (tyS v j S) (tyM v j M) (Inv_ty v j h hf) (fun T => cC_type T S q1 q2 c1 hf) (fun S0 => ?_)
      rw [← t1]
      exact cM_type S0 M q1 q2 hL (by omega)
    · exact J2_same h (fun T => cC_type_full T S q1 q2 c2 (by omega)) (fun S0 => cM_type_full S0 M q1 q2 (by omega) (by omega))
theorem j_clear {S : cS} {M : mS} (h : Inv S M) : J2 mX8_clear mX9_clear [] S M := by
  have h0 := h
  obtain ⟨⟨⟨c1, c2, c3⟩, cc⟩, ⟨w1, w2, w3, w4, w5, w6, w7, w8⟩, hH, hN, ⟨t1, t2⟩, hU, hI, hS, hTr⟩ := h
  refine J2_mk (.int (nI (C_tl S))) (Cs_tl S 0) (Ms_ty M 0) ⟨⟨⟨c1, Nat.zero_le _, c3⟩, cc⟩, ⟨w1, w2, w3, ⟨w4.1, Nat.zero_le _, w4.2.2⟩, w5, w6, w7, w8⟩, hH, hN, ⟨rfl, fun p q => absurd q (Nat.not_lt_zero p)⟩, JU_congr hU rfl rfl rfl rfl rfl rfl rfl, hI, hS, hTr⟩ (fun T => cC_clear S T) (fun S0 => ?_)
  rw [← t1]
  exact cM_clear S0 M
theorem j_trace {S : cS} {M : mS} (h : Inv S M) : J2 mX8_trace mX9_trace [] S M := by
  have e : M_tr M = C_tr S := h.2.2.2.2.2.2.2.2
  exact J2_eq h (by rw [e]) (fun T => cC_trace S T) (fun S0 => cM_trace S0 M)
theorem j_forget {S : cS} {M : mS} (h : Inv S M) : J2 mX8_forget mX9_forget [] S M := by
  obtain ⟨⟨c1, c2, c3, c4, c5, ⟨c6, c7, c8, c9, c10⟩⟩, ⟨w1, w2, w3, w4, w5, w6, w7, w8⟩, hH, hN, hT, hU, hI, ⟨s1, s2⟩, hTr⟩ := h
  refine J2_mk (.int (nI (C_sm S))) (Cs_sm S 0) (Ms_sm M 0) ⟨⟨c1, c2, c3, c4, c5, ⟨c6, c7, Nat.zero_le _, c9, c10⟩⟩, ⟨w1, w2, w3, w4, ⟨Nat.zero_le _, w5.2⟩, w6, w7, w8⟩, hH, hN, hT, JU_congr hU rfl rfl rfl rfl rfl rfl rfl, hI, ⟨rfl, fun p q => absurd q (Nat.not_lt_zero p)⟩, hTr⟩ (fun T => cC_forget S T) (fun S0 => ?_)
  rw [← s1]
  exact cM_forget S0 M
theorem j_count {S : cS} {M : mS} (h : Inv S M) (x : Int32) : J2 mX8_count mX9_count [.int x] S M := by
  have hH := h.2.2.1
  rcases pk_ix x (n := 5) (by decide) with q | q | ⟨j, q1, rfl⟩
  · exact J2_same h (fun T => cC_count_bad S T (Or.inl q)) (fun S0 => cM_count_bad S0 M (Or.inl q))
  · exact J2_same h (fun T => cC_count_bad S T (Or.inr q)) (fun S0 => cM_count_bad S0 M (Or.inr q))
  · match j, q1 with
    | 0, _ => exact J2_eq h (by rw [hH.1]) (fun T => cC_count0 S T) (fun S0 => cM_count0 S0 M)
    | 1, _ => exact J2_eq h (by rw [hH.2.1]) (fun T => cC_count1 S T) (fun S0 => cM_count1 S0 M)
    | 2, _ => exact J2_eq h (by rw [hH.2.2.1]) (fun T => cC_count2 S T) (fun S0 => cM_count2 S0 M)
    | 3, _ => exact J2_eq h (by rw [h.2.2.2.2.2.2.2.1.1]) (fun T => cC_count3 S T) (fun S0 => cM_count3 S0 M)
    | 4, _ => exact J2_eq h (by rw [h.2.2.2.2.1.1]) (fun T => cC_count4 S T) (fun S0 => cM_count4 S0 M)
-- the door in both
theorem le_eq {S : cS} {M : mS} {m : Mo} {f : Nat → Nat} {U : Nat} (hU : U = ho_U (C_to S)) (hN : JN S f m) (x : Nat) : lets U (fun i => f (10 + i)) (fun i => f (14 + i)) x = lets (ho_U (C_to S)) (gd m.2.2.1) (gd m.2.2.2) x := by
  subst hU
  unfold lets
  rw [met_congr _ (fun i hi => hN.2 i hi)]
theorem j_le {S : cS} {M : mS} (h : Inv S M) (x : Nat) : leM M x = leC S x := le_eq (S := S) (M := M) h.2.2.1.2.2.1 h.2.2.2.1 x
theorem j_sg {S : cS} {M : mS} (h : Inv S M) {k : Nat} (hk : k < ho_K (C_to S)) : sgM M k = sgC S k ∧ hrM M k = hrC S k := h.2.2.2.1.1 k hk
theorem j_li {S : cS} {M : mS} (h : Inv S M) : liM M = liC S := by
  show bits (fun k => leM M (sgM M k)) (M_kn M) = bits (fun k => leC S (sgC S k)) (ho_K (C_to S))
  rw [h.2.2.1.1]
  refine bits_congr _ (fun k hk => ?_)
  show leM M (sgM M k) = leC S (sgC S k)
  rw [j_le h, (j_sg h hk).1]
theorem j_ro {S : cS} {M : mS} (h : Inv S M) : roM M = roC S := by
  show bits (fun k => riM M k == 1) (M_kn M) = bits (fun k => riC S k == 1) (ho_K (C_to S))
  rw [h.2.2.1.1]
  refine bits_congr _ (fun k hk => ?_)
  show (riM M k == 1) = (riC S k == 1)
  rw [h.2.2.1.2.2.2.2.1 k hk]
theorem j_knocker {S : cS} {M : mS} (h : Inv S M) (x w : Int32) : J2 mX8_knocker mX9_knocker [.int x, .int w] S M := by
  have hL : ML M := h.2.1.1
  have hB : MB M := h.2.1.2.1
  have e1 : M_kn M = ho_K (C_to S) := h.2.2.1.1
  have c4 := h.1.2.1.1
  have c5 := h.1.2.1.2.1
  have hK5 := c5.2.2.2.2.2.2.1
  have hU4 := c5.2.2.2.2.2.2.2.2
  have c7 := h.1.2.2.1.1
  have c8 := h.1.2.2.1.2.1
  rcases pk_ix x (n := ho_K (C_to S)) (by omega) with q | q | ⟨k, hk, rfl⟩
  · exact J2_same h (fun T => cC_knocker_bad S T (Or.inl q)) (fun S0 => cM_knocker_bad S0 M (by omega) (Or.inl q))
  · exact J2_same h (fun T => cC_knocker_bad S T (Or.inr q)) (fun S0 => cM_knocker_bad S0 M (by omega) (Or.inr (by rw [e1]; exact q)))
  have hk2 : k < M_kn M := by omega
  rcases pk_ix w (n := 4) (by decide) with q | q | ⟨j, q1, rfl⟩
  · exact J2_same h (fun T => cC_knocker_bad2 S T hk hK5 (Or.inl q)) (fun S0 => cM_knocker_bad2 S0 M (by omega) hk2 (Or.inl q))
  · exact J2_same h (fun T => cC_knocker_bad2 S T hk hK5 (Or.inr q)) (fun S0 => cM_knocker_bad2 S0 M (by omega) hk2 (Or.inr q))
  · match j, q1 with
    | 0, _ => exact J2_eq h (by rw [h.2.2.1.2.2.2.2.1 k hk]) (fun T => cC_knocker0 S T hk hK5 c4) (fun S0 => cM_knocker0 S0 M hL hB hk2)
    | 1, _ => exact J2_eq h (by rw [(j_sg h hk).1]) (fun T => cC_knocker1 S T hk hK5 c7) (fun S0 => cM_knocker1 S0 M hL hB hk2)
    | 2, _ => exact J2_eq h (by rw [(j_sg h hk).2]) (fun T => cC_knocker2 S T hk hK5 c7) (fun S0 => cM_knocker2 S0 M hL hB hk2)
    | 3, _ => exact J2_eq h (by rw [j_le h, (j_sg h hk).1]) (fun T => cC_knocker3 S T hk hK5 c7 c8 hU4) (fun S0 => cM_knocker3 S0 M hL hB hk2)
theorem j_errand {S : cS} {M : mS} (h : Inv S M) (x w : Int32) : J2 mX8_errand mX9_errand [.int x, .int w] S M := by
  have hL : ML M := h.2.1.1
  have hB : MB M := h.2.1.2.1
  have e1 : M_em M = ho_E (C_to S) := h.2.2.1.2.1
  have c4 := h.1.2.1.1
  have hE6 := h.1.2.1.2.1.2.2.2.2.2.2.2.1
  rcases pk_ix x (n := ho_E (C_to S)) (by omega) with q | q | ⟨k, hk, rfl⟩
  · exact J2_same h (fun T => cC_errand_bad S T (Or.inl q)) (fun S0 => cM_errand_bad S0 M (by omega) (Or.inl q))
  · exact J2_same h (fun T => cC_errand_bad S T (Or.inr q)) (fun S0 => cM_errand_bad S0 M (by omega) (Or.inr (by rw [e1]; exact q)))
  have hk2 : k < M_em M := by omega
  obtain ⟨a1, a2, a3, a4⟩ := h.2.2.1.2.2.2.2.2 k hk
  rcases pk_ix w (n := 3) (by decide) with q | q | ⟨j, q1, rfl⟩
  · exact J2_same h (fun T => cC_errand_bad2 S T hk hE6 (Or.inl q)) (fun S0 => cM_errand_bad2 S0 M (by omega) hk2 (Or.inl q))
  · exact J2_same h (fun T => cC_errand_bad2 S T hk hE6 (Or.inr q)) (fun S0 => cM_errand_bad2 S0 M (by omega) hk2 (Or.inr q))
  · match j, q1 with
    | 0, _ => exact J2_eq h (congrArg (fun n => Value.int (nI n)) a1) (fun T => cC_errand0 S T hk hE6 c4) (fun S0 => cM_errand S0 M hL hB hk2 (by decide))
    | 1, _ => exact J2_eq h (congrArg (fun n => Value.int (nI n)) a2) (fun T => cC_errand1 S T hk hE6 c4) (fun S0 => cM_errand S0 M hL hB hk2 (by decide))
    | 2, _ => exact J2_eq h (congrArg (fun n => Value.int (nI n)) a3) (fun T => cC_errand2 S T hk hE6 c4) (fun S0 => cM_errand S0 M hL hB hk2 (by decide))
theorem j_rule {S : cS} {M : mS} (h : Inv S M) (x w : Int32) : J2 mX8_rule mX9_rule [.int x, .int w] S M := by
  have hL : ML M := h.2.1.1
  have hB : MB M := h.2.1.2.1
  have e1 : M_ru M = ho_U (C_to S) := h.2.2.1.2.2.1
  have hU4 := h.1.2.1.2.1.2.2.2.2.2.2.2.2
  have c7 := h.1.2.2.1.1
  rcases pk_ix x (n := ho_U (C_to S)) (by omega) with q | q | ⟨k, hk, rfl⟩
  · exact J2_same h (fun T => cC_rule_bad S T (Or.inl q)) (fun S0 => cM_rule_bad S0 M (by omega) (Or.inl q))
  · exact J2_same h (fun T => cC_rule_bad S T (Or.inr q)) (fun S0 => cM_rule_bad S0 M (by omega) (Or.inr (by rw [e1]; exact q)))
  have hk2 : k < M_ru M := by omega
  obtain ⟨a1, a2⟩ := h.2.2.2.1.2 k hk
  rcases bit_ix w with ⟨q1, q2⟩ | rfl | rfl
  · exact J2_same h (fun T => cC_rule_bad2 S T hk hU4 q1 q2) (fun S0 => cM_rule_bad2 S0 M (by omega) hk2 q1 q2)
  · exact J2_eq h (congrArg (fun n => Value.int (nI n)) a1) (fun T => cC_rule0 S T hk hU4 c7) (fun S0 => cM_rule0 S0 M hL hB hk2)
  · exact J2_eq h (congrArg (fun n => Value.int (nI n)) a2) (fun T => cC_rule1 S T hk hU4 c7) (fun S0 => cM_rule1 S0 M hL hB hk2)
theorem and31 : ∀ a, a < 32 → ∀ b, b < 32 → a &&& (255 ^^^ b) = a &&& (31 ^^^ b) := by decide +kernel
theorem j_now {S : cS} {M : mS} (h : Inv S M) (x : Int32) : J2 mX8_now mX9_now [.int x] S M := by
  have hL : ML M := h.2.1.1
  have hB : MB M := h.2.1.2.1
  have c4 := h.1.2.1.1
  have c5 := h.1.2.1.2.1
  have hK5 := c5.2.2.2.2.2.2.1
  have hU4 := c5.2.2.2.2.2.2.2.2
  have c7 := h.1.2.2.1.1
  have c8 := h.1.2.2.1.2.1
  have b1 := bits32 (fun k => leC S (sgC S k)) hK5
  have b2 := bits32 (fun k => riC S k == 1) hK5
  rcases pk_ix x (n := 5) (by decide) with q | q | ⟨j, q1, rfl⟩
  · exact J2_same h (fun T => cC_now_bad S T (Or.inl q)) (fun S0 => cM_now_bad S0 M (Or.inl q))
  · exact J2_same h (fun T => cC_now_bad S T (Or.inr q)) (fun S0 => cM_now_bad S0 M (Or.inr q))
  · match j, q1 with
    | 0, _ => exact J2_eq h (by rw [j_li h]) (fun T => cC_now0 S T c7 c8 hK5 hU4) (fun S0 => cM_now0 S0 M hL hB)
    | 1, _ => exact J2_eq h (by rw [j_li h, j_ro h, and31 _ b1 _ b2]) (fun T => cC_now1 S T c7 c8 hK5 hU4 c4 c5) (fun S0 => cM_now1 S0 M hL hB)
    | 2, _ => exact J2_eq h (by rw [j_li h, j_ro h, and31 _ b2 _ b1]) (fun T => cC_now2 S T c7 c8 hK5 hU4 c4 c5) (fun S0 => cM_now2 S0 M hL hB)
    | 3, _ => exact J2_eq h (by rw [h.2.2.2.2.2.1.1]) (fun T => cC_now3 S T) (fun S0 => cM_now3 S0 M)
    | 4, _ => exact J2_eq h (by rw [h.2.2.1.2.2.2.1]) (fun T => cC_now4 S T) (fun S0 => cM_now4 S0 M)
theorem j_shown {S : cS} {M : mS} (h : Inv S M) (x w : Int32) : J2 mX8_shown mX9_shown [.int x, .int w] S M := by
  have h0 := h
  obtain ⟨⟨c1, c2, c3, c4, c5, ⟨c6, c7, c8, c9, c10⟩⟩, ⟨w1, w2, w3, w4, w5, w6, w7, w8⟩, hH, hN, hT, hU, hI, ⟨s1, s2⟩, hTr⟩ := h
  rcases pk_ix x (n := 8) (by decide) with q | q | ⟨k, hk, rfl⟩
  · exact J2_same h0 (fun T => cC_shown_bad S T (Or.inl q)) (fun S0 => cM_shown_bad S0 M (Or.inl q))
  · exact J2_same h0 (fun T => cC_shown_bad S T (Or.inr q)) (fun S0 => cM_shown_bad S0 M (Or.inr q))
  have go : ∀ y, y < 2 → J2 mX8_shown mX9_shown [.int (nI k), .int (nI y)] S M := by
    intro y hy
    by_cases h6 : C_sm S = 6
    · exact J2_same h0 (fun T => cC_shown_full S T hk hy h6) (fun S0 => cM_shown_full S0 M hk hy (s1.trans h6))
    · have l1 := w1.2.2.2.2.2.2.2.2.2.1
      have l2 := w1.2.2.2.2.2.2.2.2.2.2
      refine J2_mk (.int (nI (C_sm S + 1))) (Cs_sm (Cs_sh (Cs_ss S ((C_ss S).set (C_sm S) k)) ((C_sh S).set (C_sm S) y)) (C_sm S + 1)) (shoM M k y) ⟨⟨c1, c2, c3, c4, c5, ⟨len_s c6, len_s c7, by show C_sm S + 1 ≤ 6; omega, fun i => gd_set_lt c9 hk i, fun i => gd_set_lt c10 hy i⟩⟩, ⟨⟨w1.1, w1.2.1, w1.2.2.1, w1.2.2.2.1, w1.2.2.2.2.1, w1.2.2.2.2.2.1, w1.2.2.2.2.2.2.1, w1.2.2.2.2.2.2.2.1, w1.2.2.2.2.2.2.2.2.1, len_s l1, len_s l2⟩, w2, w3, w4, ⟨by show M_sm M + 1 ≤ 6; omega, fun i hi => ?_⟩, w6, w7, w8⟩, hH, hN, hT, JU_congr hU rfl rfl rfl rfl rfl rfl rfl, hI, ⟨congrArg (· + 1) s1, fun i hi => ?_⟩, hTr⟩ (fun T => cC_shown S T hk hy (by omega) c6 c7) (fun S0 => ?_)
      · show gd ((M_ss M).set (M_sm M) k) i < 8 ∧ gd ((M_sh M).set (M_sm M) y) i < 2
        have := w5.2 i hi
        rw [gd_set, gd_set]
        refine ⟨?_, ?_⟩
        · split
          · exact hk
          · exact this.1
        · split
          · exact hy
          · exact this.2
      · have hi : i < C_sm S + 1 := hi
        show gd ((M_ss M).set (M_sm M) k) i = gd ((C_ss S).set (C_sm S) k) i ∧ gd ((M_sh M).set (M_sm M) y) i = gd ((C_sh S).set (C_sm S) y) i
        rw [s1]
        by_cases e : C_sm S = i
        · subst e
          rw [gd_set_eq (by omega), gd_set_eq (by omega), gd_set_eq (by omega), gd_set_eq (by omega)]
          exact ⟨rfl, rfl⟩
        · rw [gd_set_ne e, gd_set_ne e, gd_set_ne e, gd_set_ne e]
          exact s2 i (by omega)
      · rw [← s1]
        exact cM_shown S0 M w1 hk hy (by omega)
  rcases bit_ix w with ⟨q1, q2⟩ | rfl | rfl
  · exact J2_same h0 (fun T => cC_shown_bad2 S T hk q1 q2) (fun S0 => cM_shown_bad2 S0 M hk q1 q2)
  · exact go 0 (by decide)
  · exact go 1 (by decide)

/-! the evening's calls of both -/
theorem ap0_id {f g : Nat → Nat} {k : Nat} (h : ∀ j, j ≠ k → j ≠ 5 + k → g j = f j) : apF 0 k (f k) (f (5 + k)) g = f := by
  unfold apF
  rw [if_pos rfl]
  funext j
  unfold updF
  by_cases e1 : j = 5 + k
  · rw [if_pos e1, e1]
  · rw [if_neg e1]
    by_cases e2 : j = k
    · rw [if_pos e2, e2]
    · rw [if_neg e2]
      exact h j e2 e1
theorem ap1_id {f g : Nat → Nat} {k : Nat} (h : ∀ j, j ≠ 10 + k → j ≠ 14 + k → g j = f j) : apF 1 k (f (10 + k)) (f (14 + k)) g = f := by
  unfold apF
  rw [if_neg (by decide), if_pos rfl]
  funext j
  unfold updF
  by_cases e1 : j = 14 + k
  · rw [if_pos e1, e1]
  · rw [if_neg e1]
    by_cases e2 : j = 10 + k
    · rw [if_pos e2, e2]
    · rw [if_neg e2]
      exact h j e2 e1
theorem Inv_note {S : cS} {M : mS} (h : Inv S M) {kd w a b : Nat} {L' : List Nat} {m' : Mo} (hap : apF kd w a b (gd L') = gd (M_s M)) (he : enOK kd w a b) (hl : L'.length = 18) (hs : sB L') (hm : MoL m') (hmB : MoB m') (hJ : JN S (gd L') m') : Inv (Cs_nw (remS S) m') (Ms_s (noS M kd w a b) L') := by
  obtain ⟨⟨c1, c2, ⟨c7, c8, c9, c10⟩, ⟨c11, c12, c13⟩, c14, c15⟩, ⟨w1, w2, w3, w4, w5, w6, w7, w8⟩, hH, hN, hT, hU, hI, hS, hTr⟩ := h
  have hud := w1.2.2.2.2.2.2.2.2.1
  have r1 := udOK_note (L' := L') hud w6 w7 he
  have r2 := ring_note (S := S) (M := M) (L' := L') (S' := Cs_nw (remS S) m') hud c11 c12 hU hN hap rfl rfl rfl rfl
  obtain ⟨X, m, x1, x2, x3⟩ := noS_ex (M := M) kd w a b hud w6
  rw [x3] at r1 r2 ⊢
  have hnx : nxt (C_pp S) < 10 := by
    unfold nxt
    split <;> omega
  have hpm : ∀ j, MoL (updM (C_pm S) (C_pp S) (C_nw S) j) ∧ MoB (updM (C_pm S) (C_pp S) (C_nw S) j) := by
    intro j
    unfold updM
    split
    · exact ⟨c7, c8⟩
    · exact c9 j
  obtain ⟨l1, l2, l3, l4, l5, l6, l7, l8, l9, l10, l11⟩ := w1
  exact ⟨⟨c1, c2, ⟨hm, hmB, hpm, c10⟩, ⟨hnx, Nat.min_le_right _ _, c13⟩, c14, c15⟩, ⟨⟨l1, l2, l3, l4, l5, hl, l7, l8, x1, l10, l11⟩, ⟨hs.1, hs.2, w2.2.2⟩, w3, w4, w5, x2, r1, w8⟩, hH, hJ, hT, r2, hI, hS, hTr⟩
theorem MoB_sg2 {m : Mo} (h : MoB m) {k x : Nat} (hx : x < 256) : MoB (m.1.set k x, m.2) := ⟨fun i => gd_set_lt h.1 hx i, h.2⟩
theorem MoL_sg2 {m : Mo} (h : MoL m) {k x : Nat} : MoL (m.1.set k x, m.2) := ⟨len_s h.1, h.2⟩
theorem JN_sg {S : cS} {m : Mo} {L : List Nat} (hl : L.length = 18) (hm : MoL m) (hK : ho_K (C_to S) ≤ 5) (h : JN S (gd L) m) {k x : Nat} (hk : k < 5) : JN S (gd (L.set k x)) (m.1.set k x, m.2) := by
  obtain ⟨h1, h2⟩ := h
  have l1 := hm.1
  refine ⟨fun j hj => ?_, fun i hi => ?_⟩
  · obtain ⟨q1, q2⟩ := h1 j hj
    refine ⟨?_, ?_⟩
    · by_cases e : k = j
      · subst e
        rw [gd_set_eq (by omega), gd_set_eq (by omega)]
      · rw [gd_set_ne e, gd_set_ne e]
        exact q1
    · rw [gd_set_ne (by omega)]
      exact q2
  · rw [gd_set_ne (by omega), gd_set_ne (by omega)]
    exact h2 i hi
theorem ors_lt2 {f : Nat → Nat} (h : ∀ i, f i < 256) (n : Nat) : ors f n < 256 := ors_lt h n
/-- all that the calls of an evening need -/
theorem ev_facts {S : cS} {M : mS} (h : Inv S M) : ML M ∧ MB M ∧ M_um M ≤ 10 ∧ MoL (C_nw S) ∧ MoB (C_nw S) ∧ HoL (C_to S) ∧ HoB (C_to S) ∧ ho_K (C_to S) ≤ 5 ∧ ho_E (C_to S) ≤ 6 ∧ ho_U (C_to S) ≤ 4 ∧ ho_L (C_to S) < 256 ∧ (∀ j, MoL (C_pm S j)) ∧ C_pp S < 10 ∧ C_un S ≤ 10 ∧ (M_s M).length = 18 ∧ sB (M_s M) := by
  obtain ⟨⟨c1, ⟨d1, d2, d3⟩, ⟨c7, c8, c9, c10⟩, ⟨c11, c12, c13⟩, c14, c15⟩, ⟨w1, w2, w3, w4, w5, w6, w7, w8⟩, hr⟩ := h
  exact ⟨w1, w2, w6, c7, c8, d1, d2, d2.2.2.2.2.2.2.1, d2.2.2.2.2.2.2.2.1, d2.2.2.2.2.2.2.2.2, d2.2.2.2.2.2.1, fun j => (c9 j).1, c11, c12, w1.2.2.2.2.2.1, MB_s w2⟩
theorem j_runs {S : cS} {M : mS} (h : Inv S M) (x w : Int32) : J2 mX8_runs mX9_runs [.int x, .int w] S M := by
  obtain ⟨hL, hB, hum, n1, n2, t1, t2, hK5, hE6, hU4, hLd, hP, hpp, hun, ls, hsB⟩ := ev_facts h
  have e1 : M_kn M = ho_K (C_to S) := h.2.2.1.1
  have e2 : M_em M = ho_E (C_to S) := h.2.2.1.2.1
  rcases pk_ix x (n := ho_K (C_to S)) (by omega) with q | q | ⟨k, hk, rfl⟩
  · exact J2_same h (fun T => cC_runs_bad S T (Or.inl q)) (fun S0 => cM_runs_bad S0 M (by omega) (Or.inl q))
  · exact J2_same h (fun T => cC_runs_bad S T (Or.inr q)) (fun S0 => cM_runs_bad S0 M (by omega) (Or.inr (by rw [e1]; exact q)))
  have hk2 : k < M_kn M := by omega
  rcases pk_ix w (n := ho_E (C_to S)) (by omega) with q | q | ⟨e, he, rfl⟩
  · exact J2_same h (fun T => cC_runs_bad2 S T hk hK5 (Or.inl q)) (fun S0 => cM_runs_bad2 S0 M (by omega) (by omega) hk2 (Or.inl q))
  · exact J2_same h (fun T => cC_runs_bad2 S T hk hK5 (Or.inr q)) (fun S0 => cM_runs_bad2 S0 M (by omega) (by omega) hk2 (Or.inr (by rw [e2]; exact q)))
  have he2 : e < M_em M := by omega
  obtain ⟨a1, a2, a3, a4⟩ := h.2.2.1.2.2.2.2.2 e he
  obtain ⟨b1, b2⟩ := j_sg h hk
  have ec : canR (geM M e) (neM M e) (sgM M k) = canR (geC S e) (neC S e) (sgC S k) := by rw [a1, a3, b1]
  have eh : hrM M k + taM M e = hrC S k + taC S e := by rw [b2, a2]
  by_cases h9 : hrC S k + taC S e ≤ 99
  · cases hop : canR (geC S e) (neC S e) (sgC S k) with
    | false => exact J2_same h (fun T => cC_runs_st2 S T hk hK5 he hE6 n1 t1 t2 n2 h9 hop) (fun S0 => cM_runs_st S0 M hL hB hk2 he2 (Or.inl (ec.trans hop)))
    | true =>
      have hg8 : geC S e < 8 := t2.2.2.1 e
      have hs256 : sgC S k < 256 := n2.1 k
      have hx : sgC S k ||| 2 ^ geC S e < 256 := or256 hs256 hg8
      have hbB := (hB.1 k (by omega)).1
      have hbH := (hB.1 k (by omega)).2
      have hR := fun S0 => cM_runs S0 M hL hB hum hk2 he2 (ec.trans hop) (by omega)
      rw [a1, b1, eh] at hR
      have l1 := n1.1
      have l2 := n1.2.1
      refine J2_mk (.int (nI (hrC S k + taC S e))) (hrS (sgS (remS S) k (sgC S k ||| 2 ^ geC S e)) k (hrC S k + taC S e)) (Ms_s (noS M 0 k (sgC S k) (hrM M k)) (ruL (M_s M) k (sgC S k ||| 2 ^ geC S e) (hrC S k + taC S e))) ?_ (fun T => cC_runs S T hk hK5 he hE6 n1 t1 t2 n2 h9 hop hP hpp hun) hR
      refine Inv_note (m' := ((C_nw S).1.set k (sgC S k ||| 2 ^ geC S e), (C_nw S).2.1.set k (hrC S k + taC S e), (C_nw S).2.2)) h ?_ ⟨by decide, fun _ => ⟨by omega, hs256, hbH⟩, fun q => by cases q⟩ (len_s (len_s ls)) (sB_hr (sB_sg hsB (by omega) hx) (by omega) (by omega)) ⟨len_s l1, len_s l2, n1.2.2⟩ ⟨fun i => gd_set_lt n2.1 hx i, fun i => gd_set_lt n2.2.1 (by omega) i, n2.2.2⟩ ⟨fun j hj => ?_, fun i hi => ?_⟩
      · rw [← b1]
        refine ap0_id (f := gd (M_s M)) (fun j j1 j2 => ?_)
        show gd (((M_s M).set k _).set (5 + k) _) j = gd (M_s M) j
        rw [gd_set_ne (by omega), gd_set_ne (by omega)]
      · obtain ⟨q1, q2⟩ := h.2.2.2.1.1 j hj
        show gd (((M_s M).set k (sgC S k ||| 2 ^ geC S e)).set (5 + k) (hrC S k + taC S e)) j = gd ((C_nw S).1.set k (sgC S k ||| 2 ^ geC S e)) j ∧ gd (((M_s M).set k (sgC S k ||| 2 ^ geC S e)).set (5 + k) (hrC S k + taC S e)) (5 + j) = gd ((C_nw S).2.1.set k (hrC S k + taC S e)) j
        by_cases ek : k = j
        · subst ek
          rw [gd_set_ne (by omega), gd_set_eq (by omega), gd_set_eq (by omega), gd_set_eq (by rw [List.length_set]; omega), gd_set_eq (by omega)]
          exact ⟨rfl, rfl⟩
        · rw [gd_set_ne (by omega), gd_set_ne ek, gd_set_ne ek, gd_set_ne (by omega), gd_set_ne (by omega), gd_set_ne ek]
          exact ⟨q1, q2⟩
      · show gd (((M_s M).set k (sgC S k ||| 2 ^ geC S e)).set (5 + k) (hrC S k + taC S e)) (10 + i) = _ ∧ gd (((M_s M).set k (sgC S k ||| 2 ^ geC S e)).set (5 + k) (hrC S k + taC S e)) (14 + i) = _
        rw [gd_set_ne (by omega), gd_set_ne (by omega), gd_set_ne (by omega), gd_set_ne (by omega)]
        exact h.2.2.2.1.2 i hi
  · exact J2_same h (fun T => cC_runs_st1 S T hk hK5 he hE6 n1 t1 t2 n2 (by omega)) (fun S0 => cM_runs_st S0 M hL hB hk2 he2 (Or.inr (by omega)))
theorem j_knocks {S : cS} {M : mS} (h : Inv S M) (x w : Int32) : J2 mX8_knocks mX9_knocks [.int x, .int w] S M := by
  obtain ⟨hL, hB, hum, n1, n2, t1, t2, hK5, hE6, hU4, hLd, hP, hpp, hun, ls, hsB⟩ := ev_facts h
  have e1 : M_kn M = ho_K (C_to S) := h.2.2.1.1
  have e3 : M_ru M = ho_U (C_to S) := h.2.2.1.2.2.1
  have e4 : M_ld M = ho_L (C_to S) := h.2.2.1.2.2.2.1
  rcases pk_ix x (n := ho_K (C_to S)) (by omega) with q | q | ⟨k, hk, rfl⟩
  · exact J2_same h (fun T => cC_knocks_bad S T (Or.inl q)) (fun S0 => cM_knocks_bad S0 M (by omega) (Or.inl q))
  · exact J2_same h (fun T => cC_knocks_bad S T (Or.inr q)) (fun S0 => cM_knocks_bad S0 M (by omega) (Or.inr (by rw [e1]; exact q)))
  have hk2 : k < M_kn M := by omega
  by_cases h9 : w = kM9
  · subst h9
    have hR := fun S0 => cM_knocks_none S0 M hL hB hum hk2
    rw [j_le h, (j_sg h hk).1] at hR
    refine J2_mk _ (Cs_nw (remS S) (C_nw S)) (Ms_s (noS M 2 0 0 0) (M_s M)) (Inv_note h rfl ⟨by decide, (fun q => by cases q), fun q => by cases q⟩ ls hsB n1 n2 h.2.2.2.1) (fun T => cC_knocks_none S T hk hK5 n1 n2 hU4 hLd hP hpp hun) (fun S0 => ?_)
    have e : Ms_s (noS M 2 0 0 0) (M_s M) = noS M 2 0 0 0 := by
      obtain ⟨X, m, x1, x2, x3⟩ := noS_ex (M := M) 2 0 0 0 hL.2.2.2.2.2.2.2.2.1 hum
      rw [x3]
      rfl
    rw [e]
    exact hR S0
  rcases pk_ix w (n := ho_K (C_to S)) (by omega) with q | q | ⟨j, hj, rfl⟩
  · exact J2_same h (fun T => cC_knocks_bad2 S T hk hK5 (Or.inl q) h9) (fun S0 => cM_knocks_bad2 S0 M (by omega) hk2 (Or.inl q) h9)
  · exact J2_same h (fun T => cC_knocks_bad2 S T hk hK5 (Or.inr q) h9) (fun S0 => cM_knocks_bad2 S0 M (by omega) hk2 (Or.inr (by rw [e1]; exact q)) h9)
  by_cases hkj : k = j
  · subst hkj
    exact J2_same h (fun T => cC_knocks_same S T hk hK5) (fun S0 => cM_knocks_same S0 M (by omega) hk2)
  have hj2 : j < M_kn M := by omega
  obtain ⟨b1, b2⟩ := j_sg h hj
  have ehe : heM M k = heC S k := by
    show (sgM M k &&& M_ld M) &&& ors (seM M) (M_ru M) = (sgC S k &&& ho_L (C_to S)) &&& ors (seC S) (ho_U (C_to S))
    rw [(j_sg h hk).1, e4, e3, ors_congr _ (fun i hi => (h.2.2.2.1.2 i hi).1)]
  have hhe : heC S k < 256 := Nat.lt_of_le_of_lt Nat.and_le_left (Nat.lt_of_le_of_lt Nat.and_le_left (n2.1 k))
  have hx : sgC S j ||| heC S k < 256 := Nat.or_lt_two_pow (n := 8) (n2.1 j) hhe
  have hR := fun S0 => cM_knocks S0 M hL hB hum hk2 hj2 hkj
  have hJ := JN_sg (x := sgC S j ||| heC S k) ls n1 hK5 h.2.2.2.1 (show j < 5 by omega)
  have ea : leM (Ms_s M ((M_s M).set j (sgM M j ||| heM M k))) (gd ((M_s M).set j (sgM M j ||| heM M k)) k) = leC S (sgC (sgS S j (sgC S j ||| heC S k)) k) := by
    rw [b1, ehe, gd_set_ne (fun q => hkj q.symm)]
    show lets (M_ru M) (fun i => gd ((M_s M).set j (sgC S j ||| heC S k)) (10 + i)) (fun i => gd ((M_s M).set j (sgC S j ||| heC S k)) (14 + i)) (sgM M k) = leC S (gd ((C_nw S).1.set j (sgC S j ||| heC S k)) k)
    rw [le_eq (S := S) (M := M) e3 hJ, gd_set_ne (fun q => hkj q.symm), (j_sg h hk).1]
  rw [ea, b1, ehe] at hR
  refine J2_mk _ (sgS (remS S) j (sgC S j ||| heC S k)) _ ?_ (fun T => cC_knocks S T hk hj hkj hK5 n1 n2 hU4 hLd hP hpp hun) hR
  refine Inv_note (m' := ((C_nw S).1.set j (sgC S j ||| heC S k), (C_nw S).2)) h ?_ ⟨by decide, fun _ => ⟨by omega, n2.1 j, (hB.1 j (by omega)).2⟩, fun q => by cases q⟩ (len_s ls) (sB_sg hsB (by omega) hx) (MoL_sg2 n1) (MoB_sg2 n2 hx) hJ
  rw [← b1]
  refine ap0_id (f := gd (M_s M)) (fun i j1 j2 => ?_)
  rw [gd_set_ne (by omega)]
theorem j_hoarse {S : cS} {M : mS} (h : Inv S M) (x w : Int32) : J2 mX8_hoarse mX9_hoarse [.int x, .int w] S M := by
  obtain ⟨hL, hB, hum, n1, n2, t1, t2, hK5, hE6, hU4, hLd, hP, hpp, hun, ls, hsB⟩ := ev_facts h
  have e1 : M_kn M = ho_K (C_to S) := h.2.2.1.1
  rcases pk_ix x (n := ho_K (C_to S)) (by omega) with q | q | ⟨k, hk, rfl⟩
  · exact J2_same h (fun T => cC_hoarse_bad S T (Or.inl q)) (fun S0 => cM_hoarse_bad S0 M (by omega) (Or.inl q))
  · exact J2_same h (fun T => cC_hoarse_bad S T (Or.inr q)) (fun S0 => cM_hoarse_bad S0 M (by omega) (Or.inr (by rw [e1]; exact q)))
  have hk2 : k < M_kn M := by omega
  rcases pk_ix w (n := 8) (by decide) with q | q | ⟨s, hs, rfl⟩
  · exact J2_same h (fun T => cC_hoarse_bad2 S T hk hK5 (Or.inl q)) (fun S0 => cM_hoarse_bad2 S0 M (by omega) hk2 (Or.inl q))
  · exact J2_same h (fun T => cC_hoarse_bad2 S T hk hK5 (Or.inr q)) (fun S0 => cM_hoarse_bad2 S0 M (by omega) hk2 (Or.inr q))
  obtain ⟨b1, b2⟩ := j_sg h hk
  have hb := bt_lt (sgC S k) s
  by_cases h0 : bt (sgC S k) s = 0
  · exact J2_same h (fun T => cC_hoarse_st S T hk hK5 hs n1 n2 h0) (fun S0 => cM_hoarse_st S0 M hL hB hk2 hs (by rw [b1]; exact h0))
  · have h1 : bt (sgC S k) s = 1 := by omega
    have hx : sgC S k &&& (255 ^^^ 2 ^ s) < 256 := Nat.lt_of_le_of_lt Nat.and_le_left (n2.1 k)
    have hR := fun S0 => cM_hoarse S0 M hL hB hum hk2 hs (by rw [b1]; exact h1)
    rw [b1] at hR
    refine J2_mk _ (sgS (remS S) k (sgC S k &&& (255 ^^^ 2 ^ s))) _ ?_ (fun T => cC_hoarse S T hk hK5 hs n1 n2 h1 hP hpp hun) hR
    refine Inv_note (m' := ((C_nw S).1.set k (sgC S k &&& (255 ^^^ 2 ^ s)), (C_nw S).2)) h ?_ ⟨by decide, fun _ => ⟨by omega, n2.1 k, (hB.1 k (by omega)).2⟩, fun q => by cases q⟩ (len_s ls) (sB_sg hsB (by omega) hx) (MoL_sg2 n1) (MoB_sg2 n2 hx) (JN_sg ls n1 hK5 h.2.2.2.1 (by omega))
    rw [← b1]
    refine ap0_id (f := gd (M_s M)) (fun i j1 j2 => ?_)
    rw [gd_set_ne (by omega)]
theorem j_change {S : cS} {M : mS} (h : Inv S M) (x y z : Int32) : J2 mX8_change mX9_change [.int x, .int y, .int z] S M := by
  obtain ⟨hL, hB, hum, n1, n2, t1, t2, hK5, hE6, hU4, hLd, hP, hpp, hun, ls, hsB⟩ := ev_facts h
  have e3 : M_ru M = ho_U (C_to S) := h.2.2.1.2.2.1
  rcases pk_ix x (n := ho_U (C_to S)) (by omega) with q | q | ⟨k, hk, rfl⟩
  · exact J2_same h (fun T => cC_change_bad S T (Or.inl q)) (fun S0 => cM_change_bad S0 M (by omega) (Or.inl q))
  · exact J2_same h (fun T => cC_change_bad S T (Or.inr q)) (fun S0 => cM_change_bad S0 M (by omega) (Or.inr (by rw [e3]; exact q)))
  have hk2 : k < M_ru M := by omega
  rcases rg_ix y (n := 255) (by decide) with q | ⟨a, a1, a2, rfl⟩
  · exact J2_same h (fun T => cC_change_bad2 S T hk hU4 q) (fun S0 => cM_change_bad2 S0 M (by omega) hk2 q)
  have hp8 := pop_le a
  rcases rg_ix z (n := pop a) (by omega) with q | ⟨b, b1, b2, rfl⟩
  · exact J2_same h (fun T => cC_change_bad3 S T hk hU4 a1 (by omega) q) (fun S0 => cM_change_bad3 S0 M (by omega) hk2 a1 (by omega) q)
  have hR := fun S0 => cM_change S0 M hL hB hum hk2 a1 (show a < 256 by omega) b1 b2
  obtain ⟨c1, c2⟩ := h.2.2.2.1.2 k hk
  have l3 := n1.2.2.1
  have l4 := n1.2.2.2
  have hI : Inv (ruS (remS S) k a b) (Ms_s (noS M 1 k (seM M k) (maM M k)) (((M_s M).set (10 + k) a).set (14 + k) b)) := by
    refine Inv_note (m' := ((C_nw S).1, (C_nw S).2.1, (C_nw S).2.2.1.set k a, (C_nw S).2.2.2.set k b)) h ?_ ⟨by decide, (fun q => by cases q), fun _ => ⟨by omega, (hB.2.1 k (by omega)).1, (hB.2.1 k (by omega)).2⟩⟩ (len_s (len_s ls)) (sB_ma (sB_se hsB (by omega) (by omega)) (by omega) (by omega)) ⟨n1.1, n1.2.1, len_s l3, len_s l4⟩ ⟨n2.1, n2.2.1, fun i => gd_set_lt n2.2.2.1 (by omega) i, fun i => gd_set_lt n2.2.2.2 (by omega) i⟩ ⟨fun j hj => ?_, fun i hi => ?_⟩
    · refine ap1_id (f := gd (M_s M)) (fun j j1 j2 => ?_)
      rw [gd_set_ne (by omega), gd_set_ne (by omega)]
    · rw [gd_set_ne (by omega), gd_set_ne (by omega), gd_set_ne (by omega), gd_set_ne (by omega)]
      exact h.2.2.2.1.1 j hj
    · obtain ⟨q1, q2⟩ := h.2.2.2.1.2 i hi
      show gd (((M_s M).set (10 + k) a).set (14 + k) b) (10 + i) = gd ((C_nw S).2.2.1.set k a) i ∧ gd (((M_s M).set (10 + k) a).set (14 + k) b) (14 + i) = gd ((C_nw S).2.2.2.set k b) i
      by_cases ek : k = i
      · subst ek
        rw [gd_set_ne (by omega), gd_set_eq (by omega), gd_set_eq (by omega), gd_set_eq (by rw [List.length_set]; omega), gd_set_eq (by omega)]
        exact ⟨rfl, rfl⟩
      · rw [gd_set_ne (by omega), gd_set_ne (by omega), gd_set_ne ek, gd_set_ne (by omega), gd_set_ne (by omega), gd_set_ne ek]
        exact ⟨q1, q2⟩
  have ea : liM (Ms_s M (((M_s M).set (10 + k) a).set (14 + k) b)) = liC (ruS (remS S) k a b) := by
    rw [← j_li hI]
    obtain ⟨X, m, x1, x2, x3⟩ := noS_ex (M := M) 1 k (seM M k) (maM M k) hL.2.2.2.2.2.2.2.2.1 hum
    rw [x3]
    rfl
  rw [ea] at hR
  exact J2_mk _ _ _ hI (fun T => cC_change S T hk hU4 a1 (by omega) b1 b2 n1 n2 hK5 hP hpp hun) hR

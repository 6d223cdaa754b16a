/-! the whole text in both; the class's house() -/
theorem kM10_neg : ∀ f, f < 301 → kM10 - nI f < 0 := by decide +kernel
theorem j_loop {c : Nat → Nat} {m : Nat} : ∀ (d n : Nat) (S : cS) (M : mS), C_pl S + d = m → n ≤ C_pl S → JI c m S M → (∃ S' M' n', n' ≤ 300 ∧ CF S S' ∧ DB S' ∧ MOK M M' ∧ RD (C_dr S') (C_lt S') M' ∧ (∀ T, Ev [] mX4_readHouse (27, [some (.ref 13), some (.ref 1), some (.int (nI n))], [], hpC S ++ T) (some (.int (nI n'))) (hpC S' ++ T)) ∧ (∀ (S0 : cS) (v : Option Value) (h' : aH), (∀ z2 z3, Ev [] mX9_house (216, [some (.ref 104), some (.int (nI n')), z2, z3], [], hp S0 M') v h') → ∀ z2 z3, Ev [] mX9_house (42, [some (.ref 104), some (.int (nI n)), z2, z3], [], hp S0 M) v h')) ∨ (∃ S' M' f, f ≤ 300 ∧ CF S S' ∧ DB S' ∧ MOK M M' ∧ (∀ T, Ev [] mX4_readHouse (27, [some (.ref 13), some (.ref 1), some (.int (nI n))], [], hpC S ++ T) (some (.int (kM10 - nI f))) (hpC S' ++ T)) ∧ (∀ (S0 : cS) z2 z3, Ev [] mX9_house (42, [some (.ref 104), some (.int (nI n)), z2, z3], [], hp S0 M) (some (.int (kM10 - nI f))) (hp S0 M')))
  | d, n, S, M, hd, hn, hJ => by
    have hJ0 := hJ
    obtain ⟨hT, hp9, hD, hL, hB, hX, hc, hR, hf, hRD⟩ := hJ
    have ht : txt c := hc ▸ chM_txt hX
    have hm3 := hT.2.2.1
    have hk8 : tK c (C_pl S) < 8 := kiF_lt _ _ _
    by_cases hk0 : tK c (C_pl S) = 0
    · refine Or.inl ⟨S, M, n, by omega, CF_refl S, hD, MOK_refl hL hB, hRD, fun T => ?_, fun S0 v h' kk z2 z3 => ?_⟩
      · refine Ev_br rfl (fun q => absurd q (nI_nlt (show n ≤ 300 by omega) (by decide))) (fun _ => ?_)
        refine Ev_ca rfl (c_kind S T hT hp9) ?_
        rw [hk0]
        exact Ev_br rfl (fun q => absurd nI_0 q) (fun _ => Ev_rt rfl rfl rfl rfl)
      · refine Ev_ca rfl (r_isWell_t S0 hf) ?_
        refine Ev_br rfl (fun q => absurd q b1z) (fun _ => ?_)
        refine Ev_br rfl (fun _ => ?_) (fun q => ?_)
        · refine Ev_ca rfl (r_isWell_t S0 hf) ?_
          exact Ev_br rfl (fun _ => kk z2 z3) (fun q => absurd (Decidable.not_not.mp q) (show ¬ nI 1 = 0 from b1z))
        · have q : ¬ nI (M_tk M) = 0 := q
          rw [hR.2.2.1, hk0] at q
          exact absurd nI_0 q
    · have head : ∀ T v h', Ev [] mX4_readHouse (43, [some (.ref 13), some (.ref 1), some (.int (nI n))], [], hpC S ++ T) v h' → Ev [] mX4_readHouse (27, [some (.ref 13), some (.ref 1), some (.int (nI n))], [], hpC S ++ T) v h' := by
        intro T v h' kk
        refine Ev_br rfl (fun q => absurd q (nI_nlt (show n ≤ 300 by omega) (by decide))) (fun _ => ?_)
        refine Ev_ca rfl (c_kind S T hT hp9) ?_
        refine Ev_br rfl (fun _ => kk) (fun q => ?_)
        have q : ¬ ¬ nI (tK c (C_pl S)) = nI 0 := q
        rw [nI_eq (by omega) (by decide), Decidable.not_not] at q
        exact absurd q hk0
      rcases j_item hJ0 hk0 with ⟨S1, M1, o1, o2, o3, o4, o5, o6, o7, o8, o9, o10⟩ | ⟨S1, M1, o1, o2, o3, o4, o5, o6, o7⟩
      · obtain ⟨x1, x2⟩ := MOK_txt o5 hX hc
        have hJ1 : JI c m S1 M1 := ⟨CF_HT o3 hT, o2, o4, o5.1, o5.2.1, x1, x2, o6, o7, o8⟩
        match d, hd with
        | 0, hd => omega
        | d + 1, hd =>
          have stepC : ∀ T v h', Ev [] mX4_readHouse (27, [some (.ref 13), some (.ref 1), some (.int (nI (n + 1)))], [], hpC S1 ++ T) v h' → Ev [] mX4_readHouse (27, [some (.ref 13), some (.ref 1), some (.int (nI n))], [], hpC S ++ T) v h' := by
            intro T v h' kk
            refine head T v h' ?_
            refine Ev_ca rfl (o9 T) ?_
            refine Ev_br rfl (fun _ => ?_) (fun q => absurd (Decidable.not_not.mp q) (show ¬ nI 1 = 0 from b1z))
            refine Ev_jpe rfl ?_ kk
            rw [nI_add]
            all_goals rfl
          rcases j_loop (C_pl S + d + 1 - C_pl S1) (n + 1) S1 M1 (by omega) (by omega) hJ1 with ⟨S', M', n', p1, p2, p3, p4, p5, p6, p7⟩ | ⟨S', M', f, p1, p2, p3, p4, p5, p6⟩
          · exact Or.inl ⟨S', M', n', p1, CF_trans o3 p2, p3, MOK_trans o5 p4, p5, fun T => stepC T _ _ (p6 T), fun S0 v h' kk => o10 S0 n v h' (p7 S0 v h' kk)⟩
          · exact Or.inr ⟨S', M', f, p1, CF_trans o3 p2, p3, MOK_trans o5 p4, fun T => stepC T _ _ (p5 T), fun S0 => o10 S0 n _ _ (p6 S0)⟩
      · have h3 := st_300 ht hT.2.2 o1
        have hT1 := CF_HT o2 hT
        refine Or.inr ⟨S1, M1, st c (C_pl S1), h3, o2, o3, o4, fun T => ?_, fun S0 => o7 S0 n _ _ (fun z2 z3 => ?_)⟩
        · refine head T _ _ ?_
          refine Ev_ca rfl (o6 T) ?_
          refine Ev_br rfl (fun q => absurd nI_0 q) (fun _ => ?_)
          refine Ev_jp rfl ?_
          have hg := (hT1.2.1 (C_pl S1) (by omega)).2.1
          refine Ev_ca rfl (c_atI _ 16 (C_ts S1) (C_pl S1) rfl (by have := hT1.1.2.1; omega) (by omega)) ?_
          rw [show (C_ts S1).getD (C_pl S1) 0 = nI (st c (C_pl S1)) from hg]
          exact Ev_rt rfl rfl rfl rfl
        · refine Ev_ca rfl (r_isWell_f S0 (f := st c (C_pl S1)) (by omega) o5) ?_
          refine Ev_br rfl (fun _ => ?_) (fun q => absurd nI_0 q)
          refine Ev_ca rfl (r_isWell_f S0 (f := st c (C_pl S1)) (by omega) o5) ?_
          refine Ev_br rfl (fun q => absurd nI_0 q) (fun _ => ?_)
          refine Ev_rt rfl rfl ?_ rfl
          rw [o5]
          all_goals rfl
  termination_by d => d
  decreasing_by all_goals omega
-- the class's house
def emD (d : Ho) : Ho := hos_U (hos_E (hos_K (hos_L d 0) 0) 0) 0
section
variable (S : cS) (T : aH)
theorem c_empty : Cl mX1_empty [.ref 18] (hpC S ++ T) none (hpC (Cs_dr S (emD (C_dr S))) ++ T) := Ev_rt rfl rfl rfl rfl
theorem c_cp_first (hL : HoL (C_to S)) (hD : HoL (C_dr S)) : Cl mX2_copy [.ref 4, .ref 19] (hpC S ++ T) none (hpC (Cs_to S (hos_F (C_to S) (ho_F (C_dr S)))) ++ T) := by
  obtain ⟨⟨a1, a2, a3, a4⟩, _⟩ := hL
  obtain ⟨⟨b1, b2, b3, b4⟩, _⟩ := hD
  have q := c_Mcopy (hpC S ++ T) (q := 4) (o := 19) rfl rfl rfl rfl rfl rfl rfl rfl rfl rfl rfl rfl rfl rfl rfl rfl ⟨by rw [len_map, len_map, a1, b1], by rw [len_map]; omega⟩ ⟨by rw [len_map, len_map, a2, b2], by rw [len_map]; omega⟩ ⟨by rw [len_map, len_map, a3, b3], by rw [len_map]; omega⟩ ⟨by rw [len_map, len_map, a4, b4], by rw [len_map]; omega⟩
  exact q
theorem c_cp_R (a1 : (ho_R (C_to S)).length = 5) (b1 : (ho_R (C_dr S)).length = 5) : Cl mX8_copyRow [.ref 24, .ref 9] (hpC S ++ T) none (hpC (Cs_to S (hos_R (C_to S) (ho_R (C_dr S)))) ++ T) := by
  have q := c_copyRow (hpC S ++ T) (q0 := 24) (q1 := 9) rfl rfl (by rw [len_map, len_map, a1, b1]) (by rw [len_map]; omega)
  exact q
theorem c_cp_G (a1 : (ho_G (C_to S)).length = 6) (b1 : (ho_G (C_dr S)).length = 6) : Cl mX8_copyRow [.ref 25, .ref 10] (hpC S ++ T) none (hpC (Cs_to S (hos_G (C_to S) (ho_G (C_dr S)))) ++ T) := by
  have q := c_copyRow (hpC S ++ T) (q0 := 25) (q1 := 10) rfl rfl (by rw [len_map, len_map, a1, b1]) (by rw [len_map]; omega)
  exact q
theorem c_cp_T (a1 : (ho_T (C_to S)).length = 6) (b1 : (ho_T (C_dr S)).length = 6) : Cl mX8_copyRow [.ref 26, .ref 11] (hpC S ++ T) none (hpC (Cs_to S (hos_T (C_to S) (ho_T (C_dr S)))) ++ T) := by
  have q := c_copyRow (hpC S ++ T) (q0 := 26) (q1 := 11) rfl rfl (by rw [len_map, len_map, a1, b1]) (by rw [len_map]; omega)
  exact q
theorem c_cp_N (a1 : (ho_N (C_to S)).length = 6) (b1 : (ho_N (C_dr S)).length = 6) : Cl mX8_copyRow [.ref 27, .ref 12] (hpC S ++ T) none (hpC (Cs_to S (hos_N (C_to S) (ho_N (C_dr S)))) ++ T) := by
  have q := c_copyRow (hpC S ++ T) (q0 := 27) (q1 := 12) rfl rfl (by rw [len_map, len_map, a1, b1]) (by rw [len_map]; omega)
  exact q
theorem c_cp_ints : Ev [] mX1_copy (55, [some (.ref 3), some (.ref 18)], [], hpC S ++ T) none (hpC (Cs_to S (hos_U (hos_E (hos_K (hos_L (C_to S) (ho_L (C_dr S))) (ho_K (C_dr S))) (ho_E (C_dr S))) (ho_U (C_dr S)))) ++ T) := Ev_rt rfl rfl rfl rfl
theorem c_cp_tail2 (hL : HoL (C_to S)) (hD : HoL (C_dr S)) : Ev [] mX1_copy (33, [some (.ref 3), some (.ref 18)], [], hpC S ++ T) none (hpC (Cs_to S (hos_U (hos_E (hos_K (hos_L (hos_N (hos_T (C_to S) (ho_T (C_dr S))) (ho_N (C_dr S))) (ho_L (C_dr S))) (ho_K (C_dr S))) (ho_E (C_dr S))) (ho_U (C_dr S)))) ++ T) := by
  refine Ev_ca rfl (c_cp_T S T hL.2.2.2.1 hD.2.2.2.1) ?_
  refine Ev_ca rfl (c_cp_N (Cs_to S (hos_T (C_to S) (ho_T (C_dr S)))) T hL.2.2.2.2 hD.2.2.2.2) ?_
  exact c_cp_ints (Cs_to S (hos_N (hos_T (C_to S) (ho_T (C_dr S))) (ho_N (C_dr S)))) T
theorem c_told_copy (hL : HoL (C_to S)) (hD : HoL (C_dr S)) : Cl mX1_copy [.ref 3, .ref 18] (hpC S ++ T) none (hpC (Cs_to S (C_dr S)) ++ T) := by
  refine Ev_ca rfl (c_cp_first S T hL hD) ?_
  refine Ev_ca rfl (c_cp_R (Cs_to S (hos_F (C_to S) (ho_F (C_dr S)))) T hL.2.1 hD.2.1) ?_
  refine Ev_ca rfl (c_cp_G (Cs_to S (hos_R (hos_F (C_to S) (ho_F (C_dr S))) (ho_R (C_dr S)))) T hL.2.2.1 hD.2.2.1) ?_
  exact c_cp_tail2 (Cs_to S (hos_G (hos_R (hos_F (C_to S) (ho_F (C_dr S))) (ho_R (C_dr S))) (ho_G (C_dr S)))) T ⟨hD.1, hD.2.1, hD.2.2.1, hL.2.2.2.1, hL.2.2.2.2⟩ hD
theorem c_now_copy (hL : HoL (C_to S)) (hN : MoL (C_nw S)) : Cl mX2_copy [.ref 28, .ref 4] (hpC S ++ T) none (hpC (Cs_nw S (ho_F (C_to S))) ++ T) := by
  obtain ⟨⟨a1, a2, a3, a4⟩, _⟩ := hL
  obtain ⟨b1, b2, b3, b4⟩ := hN
  have q := c_Mcopy (hpC S ++ T) (q := 28) (o := 4) rfl rfl rfl rfl rfl rfl rfl rfl rfl rfl rfl rfl rfl rfl rfl rfl ⟨by rw [len_map, len_map, a1, b1], by rw [len_map]; omega⟩ ⟨by rw [len_map, len_map, a2, b2], by rw [len_map]; omega⟩ ⟨by rw [len_map, len_map, a3, b3], by rw [len_map]; omega⟩ ⟨by rw [len_map, len_map, a4, b4], by rw [len_map]; omega⟩
  exact q
theorem c_house_end {n : Nat} : Ev [] mX8_house (46, [some (.ref 0), some (.int (nI n))], [], hpC S ++ T) (some (.int (nI n))) (hpC (Cs_sm (Cs_ki (Cs_un (Cs_tl S 0) 0) 0) 0) ++ T) := Ev_rt rfl rfl rfl rfl
/-- behind a whole text -/
def hsS : cS := Cs_sm (Cs_ki (Cs_un (Cs_tl (Cs_nw (Cs_to S (C_dr S)) (ho_F (C_dr S))) 0) 0) 0) 0
theorem c_house_tail {n : Nat} (hL : HoL (C_to S)) (hD : HoL (C_dr S)) (hN : MoL (C_nw S)) (hn : n < 2 ^ 30) : Ev [] mX8_house (11, [some (.ref 0), none], [.int (nI n)], hpC S ++ T) (some (.int (nI n))) (hpC (hsS S) ++ T) := by
  refine Ev_br rfl (fun _ => ?_) (fun q => absurd (nI_le (Nat.zero_le n) (by omega)) q)
  refine Ev_ca rfl (c_told_copy S T hL hD) ?_
  refine Ev_ca rfl (c_now_copy (Cs_to S (C_dr S)) T hD hN) ?_
  exact c_house_end (Cs_nw (Cs_to S (C_dr S)) (ho_F (C_dr S))) T
end

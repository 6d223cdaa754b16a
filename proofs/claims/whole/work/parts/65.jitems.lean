/-! a piece of the text: both read it, both as well, or both refuse it at the same place -/
/-- from the loop's head to its head -/
def jEv (M M1 : mS) : Prop := ∀ (S0 : cS) (n : Nat) (v : Option Value) (h' : aH), (∀ z2 z3, Ev [] mX9_house (42, [some (.ref 104), some (.int (nI (n + 1))), z2, z3], [], hp S0 M1) v h') → ∀ z2 z3, Ev [] mX9_house (42, [some (.ref 104), some (.int (nI n)), z2, z3], [], hp S0 M) v h'
/-- from the loop's head to the piece's end -/
def jEm (M M2 : mS) : Prop := ∀ (S0 : cS) (n : Nat) (v : Option Value) (h' : aH), (∀ z2 z3, Ev [] mX9_house (177, [some (.ref 104), some (.int (nI n)), z2, z3], [], hp S0 M2) v h') → ∀ z2 z3, Ev [] mX9_house (42, [some (.ref 104), some (.int (nI n)), z2, z3], [], hp S0 M) v h'
def jOk (c : Nat → Nat) (m : Nat) (S : cS) (M : mS) : Prop := ∃ S1 M1, C_pl S < C_pl S1 ∧ C_pl S1 ≤ m ∧ CF S S1 ∧ DB S1 ∧ MOK M M1 ∧ RA c M1 (C_pl S1) ∧ M_fa M1 = kM1 ∧ RD (C_dr S1) (C_lt S1) M1 ∧ (∀ T, Cl mX4_readItem [.ref 13] (hpC S ++ T) (some (.int (nI 1))) (hpC S1 ++ T)) ∧ jEv M M1
def jBad (c : Nat → Nat) (m : Nat) (S : cS) (M : mS) : Prop := ∃ S1 M1, C_pl S1 ≤ m ∧ CF S S1 ∧ DB S1 ∧ MOK M M1 ∧ M_fa M1 = nI (st c (C_pl S1)) ∧ (∀ T, Cl mX4_readItem [.ref 13] (hpC S ++ T) (some (.int (nI 0))) (hpC S1 ++ T)) ∧ jEv M M1
theorem st_300 {c : Nat → Nat} {m j : Nat} (ht : txt c) (hm : lastT c m) (hj : j ≤ m) : st c j ≤ 300 := st_le ht j (fun q hq => by have := hm.2.2 q (by omega); omega)
theorem j_fin_f {c : Nat → Nat} {m j : Nat} {S : cS} {M M2 : mS} {d : Ho} {l : Nat} (ht : txt c) (hm : lastT c m) (hj : j ≤ m) (hD : DB (fr S d l j)) (hM : MOK M M2) (hf : M_fa M2 = nI (st c j)) (hC : ∀ T, Cl mX4_readItem [.ref 13] (hpC S ++ T) (some (.int (nI 0))) (hpC (fr S d l j) ++ T)) (hE : jEm M M2) : jBad c m S M := by
  have h3 := st_300 ht hm hj
  exact ⟨fr S d l j, M2, hj, ⟨d, l, j, rfl⟩, hD, hM, hf, hC, fun S0 n v h' kk => hE S0 n v h' (fun z2 z3 => r_stop_n S0 (f := st c j) (by omega) hf (kk z2 z3))⟩
theorem j_fin_w {c : Nat → Nat} {m j : Nat} {S : cS} {M M2 : mS} {d : Ho} {l : Nat} (ht : txt c) (hm : lastT c m) (hij : C_pl S < j) (hj : j ≤ m) (hD : ∀ p, DB (fr S d l p)) (hM : MOK M M2) (hT : TXM M2) (hc : chM M2 = c) (hR : RA c M2 j) (hd : RD d l M2) (hf : M_fa M2 = kM1 ∨ (M_fa M2 = nI (st c j) ∧ tK c j = 3)) (hC : ∀ T, Cl mX4_readItem [.ref 13] (hpC S ++ T) (some (.int (nI (decide (tK c j = 2)).toNat))) (hpC (fr S d l (sti c j)) ++ T)) (hE : jEm M M2) : jOk c m S M ∨ jBad c m S M := by
  have h3 := st_300 ht hm hj
  by_cases hk : tK c j = 2
  · have e : sti c j = j + 1 := if_pos hk
    rw [e, decide_eq_true hk] at hC
    have hf : M_fa M2 = kM1 := by
      rcases hf with h | h
      · exact h
      · omega
    obtain ⟨a, b, t, vl, q1, q2⟩ := r_stop_t hT hc hR hf hk
    refine Or.inl ⟨fr S d l (j + 1), gM M2 a b t vl kM1, ?_, ?_, ⟨d, l, j + 1, rfl⟩, hD _, hM, q1, rfl, hd, hC, ?_⟩
    · show C_pl S < j + 1
      omega
    · exact K_next hm hj (by omega)
    · exact fun S0 n v h' kk => hE S0 n v h' (fun z2 z3 => q2 S0 (kk z2 z3))
  · have e : sti c j = j := if_neg hk
    rw [e, decide_eq_false hk] at hC
    refine Or.inr ?_
    rcases hf with h | h
    · refine ⟨fr S d l j, Ms_fa M2 (nI (st c j)), hj, ⟨d, l, j, rfl⟩, hD _, hM, rfl, hC, ?_⟩
      exact fun S0 n v h' kk => hE S0 n v h' (fun z2 z3 => r_stop_f S0 hR h hk (kk z2 z3))
    · exact j_fin_f ht hm hj (hD j) hM h.1 hC hE
theorem sgF_or (c : Nat → Nat) (j : Nat) : sgF c j = kM1 ∨ (sgF c j = nI (st c j) ∧ tK c j = 3) := by
  unfold sgF
  by_cases h : tK c j = 3
  · rw [if_pos h]; exact Or.inr ⟨rfl, h⟩
  · rw [if_neg h]; exact Or.inl rfl
theorem MOK_txt {M M' : mS} {c : Nat → Nat} (h : MOK M M') (hT : TXM M) (hc : chM M = c) : TXM M' ∧ chM M' = c := by
  obtain ⟨h1, h2⟩ := FR_txt h.2.2 hT
  exact ⟨h1, h2.trans hc⟩
/-- what both are before a piece -/
def JI (c : Nat → Nat) (m : Nat) (S : cS) (M : mS) : Prop := HT S c m ∧ C_pl S ≤ m ∧ DB S ∧ ML M ∧ MDr M ∧ TXM M ∧ chM M = c ∧ RA c M (C_pl S) ∧ M_fa M = kM1 ∧ RD (C_dr S) (C_lt S) M
theorem j_bad0 {c : Nat → Nat} {m : Nat} {S : cS} {M : mS} (hJ : JI c m S M) (hk0 : tK c (C_pl S) ≠ 0) (hb : (decide (4 ≤ tK c (C_pl S)) && mayB M (tK c (C_pl S) - 4)) = false) (hC : ∀ T, Cl mX4_readItem [.ref 13] (hpC S ++ T) (some (.int (nI 0))) (hpC S ++ T)) : jBad c m S M := by
  obtain ⟨hT, hp9, hD, hL, hB, hX, hc, hR, hf, a1, a2, a3, a4, a5⟩ := hJ
  have ht : txt c := hc ▸ chM_txt hX
  have h3 := st_300 ht hT.2.2 hp9
  have b1 : M_dk M ≤ 5 := a1 ▸ hD.2.1.2.2.2.2.2.2.1
  have b2 : M_de M ≤ 6 := a2 ▸ hD.2.1.2.2.2.2.2.2.2.1
  have b3 : M_du M ≤ 4 := a3 ▸ hD.2.1.2.2.2.2.2.2.2.2
  refine ⟨S, Ms_fa M (nI (st c (C_pl S))), hp9, CF_refl S, hD, MOK_refl hL hB, rfl, hC, ?_⟩
  exact fun S0 n v h' kk z2 z3 => r_house_bad S0 b1 b2 b3 hR (by omega) hf hk0 hb kk
/-- the piece's head: the word is taken -/
theorem j_go {c : Nat → Nat} {m : Nat} {S : cS} {M : mS} (hJ : JI c m S M) (hk4 : 4 ≤ tK c (C_pl S)) (hb : mayB M (tK c (C_pl S) - 4) = true) : ∃ M1, MOK M M1 ∧ TXM M1 ∧ chM M1 = c ∧ RA c M1 (C_pl S + 1) ∧ M_fa M1 = kM1 ∧ RD (C_dr S) (C_lt S) M1 ∧ ∀ M2, (∀ S0, Cl mX9_readsItem [.ref 104, .int (nI (tK c (C_pl S) - 4))] (hp S0 M1) none (hp S0 M2)) → jEm M M2 := by
  obtain ⟨hT, hp9, hD, hL, hB, hX, hc, hR, hf, hRD⟩ := hJ
  have b1 : M_dk M ≤ 5 := hRD.1 ▸ hD.2.1.2.2.2.2.2.2.1
  have b2 : M_de M ≤ 6 := hRD.2.1 ▸ hD.2.1.2.2.2.2.2.2.2.1
  have b3 : M_du M ≤ 4 := hRD.2.2.1 ▸ hD.2.1.2.2.2.2.2.2.2.2
  obtain ⟨a, b, t, vl, q1, q2⟩ := r_house_go b1 b2 b3 hX hc hR hf hk4 hb
  exact ⟨gM M a b t vl kM1, MOK_g (MOK_refl hL hB) a b t vl kM1, hX, hc, q1, rfl, hRD, fun M2 C S0 n v h' kk z2 z3 => q2 S0 (C S0) kk⟩
theorem j_loud {c : Nat → Nat} {m : Nat} {S : cS} {M : mS} (hJ : JI c m S M) (hk : tK c (C_pl S) = 4) : jOk c m S M ∨ jBad c m S M := by
  have hJ0 := hJ
  obtain ⟨hT, hp9, hD, hL, hB, hX, hc, hR, hf, a1, a2, a3, a4, a5⟩ := hJ
  have ht : txt c := hc ▸ chM_txt hX
  rcases a4 with ⟨l0, l1, l2⟩ | ⟨l0, l1⟩
  · have hb : mayB M (tK c (C_pl S) - 4) = true := by rw [hk]; exact decide_eq_true l1
    obtain ⟨M1, m1, m2, m3, m4, m5, m6, m7⟩ := j_go hJ0 (by omega) hb
    rw [hk] at m7
    have hn := K_next hT.2.2 hp9 (by omega)
    have hs := sgs_ok hT.2.2 8 (C_pl S + 1) 0 (by decide) hn
    obtain ⟨a, b, t, v, q1, q2⟩ := r_item_4 m2 m3 m4 m5
    have hM2 : MOK M (Ms_dl (gM M1 a b t v (sgF c (sgs c 8 (C_pl S + 1) 0).2)) (nI (sgs c 8 (C_pl S + 1) 0).1)) := m1
    obtain ⟨x1, x2⟩ := MOK_txt hM2 hX hc
    exact j_fin_w (d := hos_L (C_dr S) (sgs c 8 (C_pl S + 1) 0).1) (l := 1) ht hT.2.2 (show C_pl S < (sgs c 8 (C_pl S + 1) 0).2 by omega) hs.2.2 (fun p => loud_D hD hs.1) hM2 x1 x2 q1 (loud_RD (M := M1) m6 rfl) (sgF_or c _) (fun T => c_item_4 S T hT hp9 hk (c_readLoud_t S T hT hn l0)) (m7 _ q2)
  · have hb : (decide (4 ≤ tK c (C_pl S)) && mayB M (tK c (C_pl S) - 4)) = false := by
      rw [hk]
      have h9 : ho_L (C_dr S) < 256 := hD.2.1.2.2.2.2.2.1
      exact decide_eq_false (by rw [l1]; exact kM9_ne _ (by omega))
    exact Or.inr (j_bad0 hJ0 (by omega) hb (fun T => c_item_4 S T hT hp9 hk (b := false) (c_readLoud_f S T l0)))
theorem j_kn {c : Nat → Nat} {m : Nat} {S : cS} {M : mS} (hJ : JI c m S M) (hk : tK c (C_pl S) = 5) : jOk c m S M ∨ jBad c m S M := by
  have hJ0 := hJ
  obtain ⟨hT, hp9, hD, hL, hB, hX, hc, hR, hf, a1, a2, a3, a4, a5⟩ := hJ
  have ht : txt c := hc ▸ chM_txt hX
  have hK5 := hD.2.1.2.2.2.2.2.2.1
  by_cases hK : ho_K (C_dr S) < 5
  · have hb : mayB M (tK c (C_pl S) - 4) = true := by rw [hk]; exact decide_eq_true (by omega)
    obtain ⟨M1, m1, m2, m3, m4, m5, m6, m7⟩ := j_go hJ0 (by omega) hb
    rw [hk] at m7
    have hn := K_next hT.2.2 hp9 (by omega)
    have h3 := st_300 ht hT.2.2 hn
    have hd5 : M_dk M1 < 5 := by rw [m6.1]; exact hK
    cases hr : rdN c (C_pl S + 1) 0 1 with
    | none =>
      have hM2 : MOK M (kpM (Ms_fa M1 (nI (st c (C_pl S + 1)))) 0 0) := kn_M (M1 := Ms_fa M1 (nI (st c (C_pl S + 1)))) m1 (by decide) (by decide)
      exact Or.inr (j_fin_f (d := C_dr S) (l := C_lt S) ht hT.2.2 hn hD hM2 rfl (fun T => c_item_5 S T hT hp9 hk (b := false) (c_readKnocker_f S T hT hn hK hr)) (m7 _ (fun S0 => r_item_5f S0 m1.1 hd5 m4 (by omega) m5 hr)))
    | some r =>
      obtain ⟨r1, r2, r3⟩ := rdN_some hr
      have hn2 := K_next hT.2.2 hn (by have := (tV_some r1).1; omega)
      have hs := sgs_ok hT.2.2 8 (C_pl S + 1 + 1) 0 (by decide) hn2
      obtain ⟨a, b, t, v, q1, q2⟩ := r_item_5 m1.1 hd5 m2 m3 m4 m5 hr
      have hM2 : MOK M (kpM (gM M1 a b t v (sgF c (sgs c 8 (C_pl S + 1 + 1) 0).2)) r (sgs c 8 (C_pl S + 1 + 1) 0).1) := kn_M (M1 := gM M1 a b t v (sgF c (sgs c 8 (C_pl S + 1 + 1) 0).2)) m1 (by omega) hs.1
      obtain ⟨x1, x2⟩ := MOK_txt hM2 hX hc
      exact j_fin_w (d := kpD (C_dr S) r (sgs c 8 (C_pl S + 1 + 1) 0).1) (l := C_lt S) ht hT.2.2 (show C_pl S < (sgs c 8 (C_pl S + 1 + 1) 0).2 by omega) hs.2.2 (fun p => kn_D hD hK (by omega) hs.1) hM2 x1 x2 q1 (kn_RD (M := gM M1 a b t v (sgF c (sgs c 8 (C_pl S + 1 + 1) 0).2)) m1.1 hD.1 hK m6) (sgF_or c _) (fun T => c_item_5 S T hT hp9 hk (c_readKnocker_t S T hT hn hD.1 hK hr)) (m7 _ q2)
  · have hb : (decide (4 ≤ tK c (C_pl S)) && mayB M (tK c (C_pl S) - 4)) = false := by
      rw [hk]
      exact decide_eq_false (by omega)
    exact Or.inr (j_bad0 hJ0 (by omega) hb (fun T => c_item_5 S T hT hp9 hk (b := false) (c_readKnocker_full S T (by omega))))
theorem j_er {c : Nat → Nat} {m : Nat} {S : cS} {M : mS} (hJ : JI c m S M) (hk : tK c (C_pl S) = 6) : jOk c m S M ∨ jBad c m S M := by
  have hJ0 := hJ
  obtain ⟨hT, hp9, hD, hL, hB, hX, hc, hR, hf, a1, a2, a3, a4, a5⟩ := hJ
  have ht : txt c := hc ▸ chM_txt hX
  have hE6 := hD.2.1.2.2.2.2.2.2.2.1
  by_cases hE : ho_E (C_dr S) < 6
  · have hb : mayB M (tK c (C_pl S) - 4) = true := by rw [hk]; exact decide_eq_true (by omega)
    obtain ⟨M1, m1, m2, m3, m4, m5, m6, m7⟩ := j_go hJ0 (by omega) hb
    rw [hk] at m7
    have hn := K_next hT.2.2 hp9 (by omega)
    have h3 := st_300 ht hT.2.2 hn
    have hd5 : M_de M1 < 6 := by rw [m6.2.1]; exact hE
    cases hr : rdN c (C_pl S + 1) 0 7 with
    | none =>
      have hM2 : MOK M (Ms_de (Ms_er (Ms_fa M1 (nI (st c (C_pl S + 1)))) (erS M1 0 0 0)) (M_de M1 + 1)) := er_M (M1 := Ms_fa M1 (nI (st c (C_pl S + 1)))) m1 (by decide) (by decide) (by decide)
      exact Or.inr (j_fin_f (d := C_dr S) (l := C_lt S) ht hT.2.2 hn hD hM2 rfl (fun T => c_item_6 S T hT hp9 hk (b := false) (c_readErrand_f1 S T hT hn hE hr)) (m7 _ (fun S0 => r_item_6f S0 m1.1 hd5 m4 m5 (by omega) hr)))
    | some g =>
      obtain ⟨r1, r2, r3⟩ := rdN_some hr
      have hn2 := K_next hT.2.2 hn (by have := (tV_some r1).1; omega)
      have h32 := st_300 ht hT.2.2 hn2
      cases hr2 : rdN c (C_pl S + 1 + 1) 1 9 with
      | none =>
        obtain ⟨a, b, t, v, q2⟩ := r_item_6f2 m1.1 hd5 m2 m3 m4 m5 (by omega) hr hr2
        have hM2 : MOK M (Ms_de (Ms_er (gM M1 a b t v (nI (st c (C_pl S + 1 + 1)))) (erS M1 g 0 0)) (M_de M1 + 1)) := er_M (M1 := gM M1 a b t v (nI (st c (C_pl S + 1 + 1)))) m1 (by omega) (by decide) (by decide)
        exact Or.inr (j_fin_f (d := C_dr S) (l := C_lt S) ht hT.2.2 hn2 hD hM2 rfl (fun T => c_item_6 S T hT hp9 hk (b := false) (c_readErrand_1 S T hT hn hE hr (c_readErrand_f2 (Cs_pl S (C_pl S + 1 + 1)) T hT hn2 hr2))) (m7 _ q2))
      | some u =>
        obtain ⟨s1, s2, s3⟩ := rdN_some hr2
        have hn3 := K_next hT.2.2 hn2 (by have := (tV_some s1).1; omega)
        have h33 := st_300 ht hT.2.2 hn3
        cases hr3 : rdNd c (C_pl S + 1 + 1 + 1) with
        | none =>
          obtain ⟨a, b, t, v, q2⟩ := r_item_6f3 m1.1 hd5 m2 m3 m4 m5 hr hr2 hr3
          have hM2 : MOK M (Ms_de (Ms_er (gM M1 a b t v (nI (st c (C_pl S + 1 + 1 + 1)))) (erS M1 g u 0)) (M_de M1 + 1)) := er_M (M1 := gM M1 a b t v (nI (st c (C_pl S + 1 + 1 + 1)))) m1 (by omega) (by omega) (by decide)
          exact Or.inr (j_fin_f (d := C_dr S) (l := C_lt S) ht hT.2.2 hn3 hD hM2 rfl (fun T => c_item_6 S T hT hp9 hk (b := false) (c_readErrand_1 S T hT hn hE hr (c_readErrand_2 (Cs_pl S (C_pl S + 1 + 1)) T hT hn2 hr2 (c_readErrand_f3 (Cs_pl (Cs_pl S (C_pl S + 1 + 1)) (C_pl S + 1 + 1 + 1)) T hT hn3 hr3)))) (m7 _ q2))
        | some w =>
          obtain ⟨t1, t2⟩ := rdNd_some hr3
          have hn4 := K_next hT.2.2 hn3 (by have := (tV_some t1).1; omega)
          obtain ⟨a, b, t, v, q1, q2⟩ := r_item_6 m1.1 hd5 m2 m3 m4 m5 hr hr2 hr3
          have hM2 : MOK M (Ms_de (Ms_er (gM M1 a b t v kM1) (erS M1 g u w)) (M_de M1 + 1)) := er_M (M1 := gM M1 a b t v kM1) m1 (by omega) (by omega) (by omega)
          obtain ⟨x1, x2⟩ := MOK_txt hM2 hX hc
          exact j_fin_w (d := ekD (C_dr S) g u w) (l := C_lt S) ht hT.2.2 (show C_pl S < C_pl S + 1 + 1 + 1 + 1 by omega) hn4 (fun p => er_D hD hE (by omega) (by omega) (by omega)) hM2 x1 x2 q1 (er_RD (M := gM M1 a b t v kM1) m1.1 hD.1 hE s2 m6) (Or.inl rfl) (fun T => c_item_6 S T hT hp9 hk (c_readErrand_1 S T hT hn hE hr (c_readErrand_2 (Cs_pl S (C_pl S + 1 + 1)) T hT hn2 hr2 (c_readErrand_3 (Cs_pl (Cs_pl S (C_pl S + 1 + 1)) (C_pl S + 1 + 1 + 1)) T hT hn3 hD.1 hE hr3)))) (m7 _ q2)
  · have hb : (decide (4 ≤ tK c (C_pl S)) && mayB M (tK c (C_pl S) - 4)) = false := by
      rw [hk]
      exact decide_eq_false (by omega)
    exact Or.inr (j_bad0 hJ0 (by omega) hb (fun T => c_item_6 S T hT hp9 hk (b := false) (c_readErrand_full S T (by omega))))
theorem j_ru {c : Nat → Nat} {m : Nat} {S : cS} {M : mS} (hJ : JI c m S M) (hk : tK c (C_pl S) = 7) : jOk c m S M ∨ jBad c m S M := by
  have hJ0 := hJ
  obtain ⟨hT, hp9, hD, hL, hB, hX, hc, hR, hf, a1, a2, a3, a4, a5⟩ := hJ
  have ht : txt c := hc ▸ chM_txt hX
  have hU4 := hD.2.1.2.2.2.2.2.2.2.2
  by_cases hU : ho_U (C_dr S) < 4
  · have hb : mayB M (tK c (C_pl S) - 4) = true := by rw [hk]; exact decide_eq_true (by omega)
    obtain ⟨M1, m1, m2, m3, m4, m5, m6, m7⟩ := j_go hJ0 (by omega) hb
    rw [hk] at m7
    have hn := K_next hT.2.2 hp9 (by omega)
    have h3 := st_300 ht hT.2.2 hn
    have hd5 : M_du M1 < 4 := by rw [m6.2.2.1]; exact hU
    cases hr : rdN c (C_pl S + 1) 1 8 with
    | none =>
      have hM2 : MOK M (rkM (Ms_fa M1 (nI (st c (C_pl S + 1)))) 0 0) := ru_M (M1 := Ms_fa M1 (nI (st c (C_pl S + 1)))) m1 (by decide) (by decide)
      exact Or.inr (j_fin_f (d := C_dr S) (l := C_lt S) ht hT.2.2 hn hD hM2 rfl (fun T => c_item_7 S T hT hp9 hk (b := false) (c_readRule_f S T hT hn hU hr)) (m7 _ (fun S0 => r_item_7f S0 m1.1 hd5 m4 m5 (by omega) hr)))
    | some n =>
      obtain ⟨r1, r2, r3⟩ := rdN_some hr
      have hn2 := K_next hT.2.2 hn (by have := (tV_some r1).1; omega)
      have hs := sgs_ok hT.2.2 8 (C_pl S + 1 + 1) 0 (by decide) hn2
      have h32 := st_300 ht hT.2.2 hs.2.2
      obtain ⟨a, b, t, v, q1, q2⟩ := r_item_7 m1.1 hd5 m2 m3 m4 m5 hr hs.1 (by omega)
      generalize hxx : (sgs c 8 (C_pl S + 1 + 1) 0).1 = x at hs q2
      generalize hjj : (sgs c 8 (C_pl S + 1 + 1) 0).2 = j at hs h32 q1 q2
      have hM2 : ∀ f : Int32, MOK M (rkM (gM M1 a b t v f) x n) := fun f => ru_M (M1 := gM M1 a b t v f) m1 hs.1 (by omega)
      by_cases hp8 : n ≤ pop x
      · have hcl : ∀ T, Cl mX4_readItem [.ref 13] (hpC S ++ T) (some (.int (nI (decide (tK c j = 2)).toNat))) (hpC (fr S (rkD (C_dr S) x n) (C_lt S) (sti c j)) ++ T) := fun T => by
          have q := c_readRule_2 (Cs_pl S (C_pl S + 1 + 1)) T hT hn2 hD.1 hU (n := n) (by omega) (by show n ≤ pop (sgs c 8 (C_pl S + 1 + 1) 0).1; rw [hxx]; exact hp8)
          have q : Ev [] mX4_readRule (37, [some (.ref 13), some (.int (nI n)), none], [], hpC (Cs_pl S (C_pl S + 1 + 1)) ++ T) (some (.int (nI (decide (tK c (sgs c 8 (C_pl S + 1 + 1) 0).2 = 2)).toNat))) (hpC (fr S (rkD (C_dr S) (sgs c 8 (C_pl S + 1 + 1) 0).1 n) (C_lt S) (sti c (sgs c 8 (C_pl S + 1 + 1) 0).2)) ++ T) := q
          rw [hxx, hjj] at q
          exact c_item_7 S T hT hp9 hk (c_readRule_1 S T hT hn hU hr q)
        by_cases hk2 : tK c j = 2
        · rw [if_pos ⟨hp8, hk2⟩] at q2
          obtain ⟨x1, x2⟩ := MOK_txt (hM2 kM1) hX hc
          exact j_fin_w (d := rkD (C_dr S) x n) (l := C_lt S) ht hT.2.2 (show C_pl S < j by omega) hs.2.2 (fun p => ru_D hD hU hs.1 (by omega)) (hM2 kM1) x1 x2 q1 (ru_RD (M := gM M1 a b t v kM1) m1.1 hD.1 hU m6) (Or.inl rfl) hcl (m7 _ q2)
        · rw [if_neg (fun q => hk2 q.2)] at q2
          rw [decide_eq_false hk2, show sti c j = j from if_neg hk2] at hcl
          exact Or.inr (j_fin_f (d := rkD (C_dr S) x n) (l := C_lt S) ht hT.2.2 hs.2.2 (ru_D hD hU hs.1 (by omega)) (hM2 _) rfl hcl (m7 _ q2))
      · rw [if_neg (fun q => hp8 q.1)] at q2
        have hcl : ∀ T, Cl mX4_readItem [.ref 13] (hpC S ++ T) (some (.int (nI 0))) (hpC (fr S (C_dr S) (C_lt S) j) ++ T) := fun T => by
          have q := c_readRule_f2 (Cs_pl S (C_pl S + 1 + 1)) T hT hn2 (n := n) (by omega) (by show pop (sgs c 8 (C_pl S + 1 + 1) 0).1 < n; rw [hxx]; omega)
          have q : Ev [] mX4_readRule (37, [some (.ref 13), some (.int (nI n)), none], [], hpC (Cs_pl S (C_pl S + 1 + 1)) ++ T) (some (.int (nI 0))) (hpC (fr S (C_dr S) (C_lt S) (sgs c 8 (C_pl S + 1 + 1) 0).2) ++ T) := q
          rw [hjj] at q
          exact c_item_7 S T hT hp9 hk (b := false) (c_readRule_1 S T hT hn hU hr q)
        exact Or.inr (j_fin_f (d := C_dr S) (l := C_lt S) ht hT.2.2 hs.2.2 hD (hM2 _) rfl hcl (m7 _ q2))
  · have hb : (decide (4 ≤ tK c (C_pl S)) && mayB M (tK c (C_pl S) - 4)) = false := by
      rw [hk]
      exact decide_eq_false (by omega)
    exact Or.inr (j_bad0 hJ0 (by omega) hb (fun T => c_item_7 S T hT hp9 hk (b := false) (c_readRule_full S T (by omega))))
theorem j_item {c : Nat → Nat} {m : Nat} {S : cS} {M : mS} (hJ : JI c m S M) (hk0 : tK c (C_pl S) ≠ 0) : jOk c m S M ∨ jBad c m S M := by
  have hk8 : tK c (C_pl S) < 8 := kiF_lt _ _ _
  by_cases h4 : tK c (C_pl S) < 4
  · have hb : (decide (4 ≤ tK c (C_pl S)) && mayB M (tK c (C_pl S) - 4)) = false := by
      rw [decide_eq_false (by omega), Bool.false_and]
    exact Or.inr (j_bad0 hJ hk0 hb (fun T => c_item_0 S T hJ.1 hJ.2.1 h4))
  by_cases e4 : tK c (C_pl S) = 4
  · exact j_loud hJ e4
  by_cases e5 : tK c (C_pl S) = 5
  · exact j_kn hJ e5
  by_cases e6 : tK c (C_pl S) = 6
  · exact j_er hJ e6
  · exact j_ru hJ (by omega)

/-! the reference's reader: ITEMS -/
def kpM (M : mS) (r x : Nat) : mS := Ms_dk (Ms_sg (Ms_rg M ((M_rg M).set (5 + M_dk M) r)) ((M_sg M).set (5 + M_dk M) x)) (M_dk M + 1)
def rkM (M : mS) (x n : Nat) : mS := Ms_du (Ms_td M (((M_td M).set (8 + 2 * M_du M) x).set (9 + 2 * M_du M) n)) (M_du M + 1)
section
variable (S : cS)
-- LOUD
theorem r_item_4 {c : Nat → Nat} {M : mS} {i : Nat} (hT : TXM M) (hc : chM M = c) (hR : RA c M i) (hf : M_fa M = kM1) : ∃ a b t v, RA c (gM M a b t v (sgF c (sgs c 8 i 0).2)) (sgs c 8 i 0).2 ∧ ∀ S, Cl mX9_readsItem [.ref 104, .int (nI 0)] (hp S M) none (hp S (Ms_dl (gM M a b t v (sgF c (sgs c 8 i 0).2)) (nI (sgs c 8 i 0).1))) := by
  obtain ⟨a, b, t, v, q1, q2⟩ := r_signSet_t hT hc hR hf
  refine ⟨a, b, t, v, q1, fun S => ?_⟩
  refine Ev_br rfl (fun q => absurd nI_0 q) (fun _ => ?_)
  refine Ev_ca rfl (q2 S) ?_
  refine a_run_ev 1 rfl ?_
  refine Ev_h (h2 := hp S (Ms_dl (gM M a b t v (sgF c (sgs c 8 i 0).2)) (nI (sgs c 8 i 0).1))) rfl ?_
  exact Ev_jp rfl (Ev_rt rfl rfl rfl rfl)
-- KNOCKER
theorem r_kn_tail (M : mS) {x : Nat} (l : (M_sg M).length = 10) (hk : M_dk M < 5) : Ev [] mX9_readsItem (51, [some (.ref 104), some (.int (nI 1)), none, none], [.int (nI x), .int (nI 5 + nI (M_dk M)), .ref 107], hp S M) none (hp S (Ms_dk (Ms_sg M ((M_sg M).set (5 + M_dk M) x)) (M_dk M + 1))) := by
  refine Ev_isl rfl (i := 5 + M_dk M) (y := x) (nI_add _ _) rfl (by omega) (by omega) (h2 := hp S (Ms_sg M ((M_sg M).set (5 + M_dk M) x))) rfl ?_
  refine a_run_ev 6 rfl ?_
  refine Ev_h (h2 := hp S (Ms_dk (Ms_sg M ((M_sg M).set (5 + M_dk M) x)) (M_dk M + 1))) (by rw [nI_add]; rfl) ?_
  exact Ev_jp rfl (Ev_rt rfl rfl rfl rfl)
theorem r_kn_mid (M : mS) {r : Nat} {v : Option Value} {h' : aH} (l : (M_rg M).length = 10) (hk : M_dk M < 5) (kk : Ev [] mX9_readsItem (37, [some (.ref 104), some (.int (nI 1)), none, none], [], hp S (Ms_rg M ((M_rg M).set (5 + M_dk M) r))) v h') : Ev [] mX9_readsItem (36, [some (.ref 104), some (.int (nI 1)), none, none], [.int (nI r), .int (nI 5 + nI (M_dk M)), .ref 106], hp S M) v h' := by
  refine Ev_isl rfl (i := 5 + M_dk M) (y := r) (nI_add _ _) rfl (by omega) (by omega) (h2 := hp S (Ms_rg M ((M_rg M).set (5 + M_dk M) r))) rfl ?_
  exact kk
theorem r_item_5 {c : Nat → Nat} {M : mS} {i r : Nat} (hL : ML M) (hk : M_dk M < 5) (hT : TXM M) (hc : chM M = c) (hR : RA c M i) (hf : M_fa M = kM1) (hr : rdN c i 0 1 = some r) : ∃ a b t v, RA c (gM M a b t v (sgF c (sgs c 8 (i + 1) 0).2)) (sgs c 8 (i + 1) 0).2 ∧ ∀ S, Cl mX9_readsItem [.ref 104, .int (nI 1)] (hp S M) none (hp S (kpM (gM M a b t v (sgF c (sgs c 8 (i + 1) 0).2)) r (sgs c 8 (i + 1) 0).1)) := by
  obtain ⟨a, b, t, v, q1, q2⟩ := r_number_t (lo := 0) (hi := 1) (by decide) (by decide) hT hc hR hf hr
  obtain ⟨a2, b2, t2, v2, q3, q4⟩ := r_signSet_t (M := Ms_rg (gM M a b t v kM1) ((M_rg M).set (5 + M_dk M) r)) hT hc q1 rfl
  refine ⟨a2, b2, t2, v2, q3, fun S => ?_⟩
  refine Ev_br rfl (fun _ => ?_) (fun q => absurd (Decidable.not_not.mp q) (show ¬ nI 1 = 0 from b1z))
  refine Ev_br rfl (fun q => absurd rfl q) (fun _ => ?_)
  refine Ev_ca rfl (q2 S) ?_
  refine r_kn_mid S (gM M a b t v kM1) (r := r) hL.2.1 hk ?_
  refine Ev_ca rfl (q4 S) ?_
  exact r_kn_tail S (gM (Ms_rg (gM M a b t v kM1) ((M_rg M).set (5 + M_dk M) r)) a2 b2 t2 v2 (sgF c (sgs c 8 (i + 1) 0).2)) hL.2.2.1 hk
theorem r_item_5f {c : Nat → Nat} {M : mS} {i : Nat} (hL : ML M) (hk : M_dk M < 5) (hR : RA c M i) (hst : st c i < 1000) (hf : M_fa M = kM1) (hr : rdN c i 0 1 = none) : Cl mX9_readsItem [.ref 104, .int (nI 1)] (hp S M) none (hp S (kpM (Ms_fa M (nI (st c i))) 0 0)) := by
  refine Ev_br rfl (fun _ => ?_) (fun q => absurd (Decidable.not_not.mp q) (show ¬ nI 1 = 0 from b1z))
  refine Ev_br rfl (fun q => absurd rfl q) (fun _ => ?_)
  refine Ev_ca rfl (r_number_f S (lo := 0) (hi := 1) (by decide) (by decide) hR hf hr) ?_
  refine r_kn_mid S (Ms_fa M (nI (st c i))) (r := 0) hL.2.1 hk ?_
  refine Ev_ca rfl (r_signSet_n S (M := Ms_rg (Ms_fa M (nI (st c i))) ((M_rg M).set (5 + M_dk M) 0)) hst rfl) ?_
  exact r_kn_tail S (Ms_rg (Ms_fa M (nI (st c i))) ((M_rg M).set (5 + M_dk M) 0)) hL.2.2.1 hk
-- ERRAND
theorem r_er_tail (M : mS) {x A : Nat} (l : (M_er M).length = 36) (hA : A + 2 < 36) : Ev [] mX9_readsItem (154, [some (.ref 104), some (.int (nI 2)), some (.int (nI A)), none], [.int (nI x), .int (nI A + nI 2), .ref 108], hp S M) none (hp S (Ms_de (Ms_er M ((M_er M).set (A + 2) x)) (M_de M + 1))) := by
  refine Ev_isl rfl (i := A + 2) (y := x) (nI_add _ _) rfl (by omega) (by omega) (h2 := hp S (Ms_er M ((M_er M).set (A + 2) x))) rfl ?_
  refine a_run_ev 6 rfl ?_
  refine Ev_h (h2 := hp S (Ms_de (Ms_er M ((M_er M).set (A + 2) x)) (M_de M + 1))) (by rw [nI_add]; rfl) ?_
  exact Ev_jp rfl (Ev_rt rfl rfl rfl rfl)
theorem r_er_a (M : mS) {x A : Nat} {v : Option Value} {h' : aH} (l : (M_er M).length = 36) (hA : A + 2 < 36) (kk : Ev [] mX9_readsItem (93, [some (.ref 104), some (.int (nI 2)), some (.int (nI A)), none], [], hp S (Ms_er M ((M_er M).set A x))) v h') : Ev [] mX9_readsItem (92, [some (.ref 104), some (.int (nI 2)), some (.int (nI A)), none], [.int (nI x), .int (nI A), .ref 108], hp S M) v h' := by
  refine Ev_isl rfl (i := A) (y := x) rfl rfl (by omega) (by omega) (h2 := hp S (Ms_er M ((M_er M).set A x))) rfl ?_
  exact kk
theorem r_er_b (M : mS) {x A : Nat} {v : Option Value} {h' : aH} (l : (M_er M).length = 36) (hA : A + 2 < 36) (kk : Ev [] mX9_readsItem (108, [some (.ref 104), some (.int (nI 2)), some (.int (nI A)), none], [], hp S (Ms_er M ((M_er M).set (A + 1) x))) v h') : Ev [] mX9_readsItem (107, [some (.ref 104), some (.int (nI 2)), some (.int (nI A)), none], [.int (nI x), .int (nI A + nI 1), .ref 108], hp S M) v h' := by
  refine Ev_isl rfl (i := A + 1) (y := x) (nI_add _ _) rfl (by omega) (by omega) (h2 := hp S (Ms_er M ((M_er M).set (A + 1) x))) rfl ?_
  exact kk
theorem r_er_head (M : mS) {v : Option Value} {h' : aH} (kk : Ev [] mX9_readsItem (80, [some (.ref 104), some (.int (nI 2)), some (.int (nI (18 + 3 * M_de M))), none], [], hp S M) v h') : Cl mX9_readsItem [.ref 104, .int (nI 2)] (hp S M) v h' := by
  refine Ev_br rfl (fun _ => ?_) (fun q => absurd (show nI 2 = 0 from Decidable.not_not.mp q) (by decide))
  refine Ev_br rfl (fun _ => ?_) (fun q => absurd (show nI 2 = nI 1 from Decidable.not_not.mp q) (by decide))
  refine Ev_br rfl (fun q => absurd rfl q) (fun _ => ?_)
  refine a_run_ev 7 rfl ?_
  refine Ev_eq ?_ kk
  rw [← nI_add, ← pk_mul]
  rfl
theorem r_need_is {c : Nat → Nat} {M : mS} {i A : Nat} {v : Option Value} {h' : aH} (hR : RA c M i) (kk : Ev [] mX9_readsItem (151, [some (.ref 104), some (.int (nI 2)), some (.int (nI A)), none], [.int (nI (rdNd c i).isSome.toNat), .ref 104, .int (nI A + nI 2), .ref 108], hp S M) v h') : Ev [] mX9_readsItem (108, [some (.ref 104), some (.int (nI 2)), some (.int (nI A)), none], [], hp S M) v h' := by
  have ht5 := tokM_lt (tK c i)
  have et : M_tk M = tokM (tK c i) := hR.2.2.1
  by_cases hk : tK c i = 3
  · obtain ⟨w, hw⟩ := tV_of hk
    have h9 := (tV_some hw).2
    have ev : M_vl M = nI w := by rw [hR.2.2.2.1 hk, hw]; rfl
    refine Ev_br rfl (fun hc => ?_) (fun _ => ?_)
    · have hc : ¬ nI (M_tk M) = nI 2 := hc
      rw [et, nI_eq (by omega) (by decide), tokM_2] at hc
      exact absurd hk hc
    by_cases h7 : w ≤ 7
    · have er : rdNd c i = some w := by
        have : rdN c i 0 7 = some w := by
          unfold rdN
          rw [hw]
          exact if_pos ⟨Nat.zero_le _, h7⟩
        unfold rdNd
        rw [this]
      rw [er] at kk
      refine Ev_cae rfl (as' := [.int (nI w), .int (nI 0), .int (nI 7)]) (by rw [← ev]) (r_in_t _ (Nat.zero_le _) h7 (by decide)) ?_
      refine Ev_br rfl (fun _ => ?_) (fun q => absurd (Decidable.not_not.mp q) (show ¬ nI 1 = 0 from b1z))
      exact Ev_jp rfl kk
    · have e7 : rdN c i 0 7 = none := by
        unfold rdN
        rw [hw]
        exact if_neg (fun q => h7 q.2)
      have er : rdNd c i = rdN c i 9 9 := by
        unfold rdNd
        rw [e7]
      have e9 : rdN c i 9 9 = if w = 9 then some w else none := by
        unfold rdN
        rw [hw]
        by_cases h : w = 9
        · subst h; rfl
        · rw [if_neg h]
          exact if_neg (by omega)
      rw [er, e9] at kk
      refine Ev_cae rfl (as' := [.int (nI w), .int (nI 0), .int (nI 7)]) (by rw [← ev]) (r_in_f _ (Or.inr (nI_lt (by omega) (by omega)))) ?_
      refine Ev_br rfl (fun q => absurd nI_0 q) (fun _ => ?_)
      refine Ev_br rfl (fun q => ?_) (fun q => ?_)
      · have q : ¬ M_vl M = nI 9 := q
        rw [ev, nI_eq (by omega) (by decide)] at q
        rw [if_neg q] at kk
        exact a_run_ev 1 rfl kk
      · have q : ¬ ¬ M_vl M = nI 9 := q
        rw [ev, nI_eq (by omega) (by decide), Decidable.not_not] at q
        rw [if_pos q] at kk
        exact Ev_jp rfl kk
  · have er : rdNd c i = none := by
      unfold rdNd
      rw [rdN_k hk, rdN_k hk]
    rw [er] at kk
    refine Ev_br rfl (fun _ => a_run_ev 1 rfl kk) (fun hc => ?_)
    have hc : ¬ ¬ nI (M_tk M) = nI 2 := hc
    rw [et, nI_eq (by omega) (by decide), tokM_2, Decidable.not_not] at hc
    exact absurd hc hk
theorem er_norm (M : mS) (L : List Nat) (x : Nat) (a b t : Nat) (v f : Int32) (a2 b2 t2 : Nat) (v2 f2 : Int32) (K : List Nat) (d : Nat) : Ms_de (Ms_er (gM (Ms_er (gM M a b t v f) K) a2 b2 t2 v2 f2) L) d = Ms_de (Ms_er (gM M a2 b2 t2 v2 f2) L) d := rfl
theorem r_er_3 {c : Nat → Nat} {M : mS} {i A n : Nat} (l : (M_er M).length = 36) (hA : A + 2 < 36) (hT : TXM M) (hc : chM M = c) (hR : RA c M i) (hf : M_fa M = kM1) (h3 : rdNd c i = some n) : ∃ a b t v, RA c (gM M a b t v kM1) (i + 1) ∧ ∀ S, Ev [] mX9_readsItem (108, [some (.ref 104), some (.int (nI 2)), some (.int (nI A)), none], [], hp S M) none (hp S (Ms_de (Ms_er (gM M a b t v kM1) ((M_er M).set (A + 2) n)) (M_de M + 1))) := by
  obtain ⟨w1, w2⟩ := rdNd_some h3
  have hk3 := (tV_some w1).1
  obtain ⟨a, b, t, v, q1, q2⟩ := r_takes_t hT hc hR (by omega) hf
  have ev : M_vl M = nI n := by rw [hR.2.2.2.1 hk3, w1]; rfl
  rw [ev] at q2
  refine ⟨a, b, t, v, q1, fun S => ?_⟩
  refine r_need_is S hR ?_
  rw [h3]
  refine Ev_ca rfl (q2 S) ?_
  exact r_er_tail S (gM M a b t v kM1) l hA
theorem r_er_3f {c : Nat → Nat} {M : mS} {i A : Nat} (l : (M_er M).length = 36) (hA : A + 2 < 36) (hR : RA c M i) (hf : M_fa M = kM1) (h3 : rdNd c i = none) : Ev [] mX9_readsItem (108, [some (.ref 104), some (.int (nI 2)), some (.int (nI A)), none], [], hp S M) none (hp S (Ms_de (Ms_er (Ms_fa M (nI (st c i))) ((M_er M).set (A + 2) 0)) (M_de M + 1))) := by
  refine r_need_is S hR ?_
  rw [h3, ← hR.1]
  refine Ev_ca rfl (r_takes_f S hf) ?_
  exact r_er_tail S (Ms_fa M (nI (M_pl M))) l hA
theorem r_er_3n {c : Nat → Nat} {M : mS} {i A f : Nat} (l : (M_er M).length = 36) (hA : A + 2 < 36) (hR : RA c M i) (hf9 : f < 1000) (hf : M_fa M = nI f) : Ev [] mX9_readsItem (108, [some (.ref 104), some (.int (nI 2)), some (.int (nI A)), none], [], hp S M) none (hp S (Ms_de (Ms_er M ((M_er M).set (A + 2) 0)) (M_de M + 1))) := by
  refine r_need_is S hR ?_
  refine Ev_ca rfl (r_takes_n S hf9 hf) ?_
  exact r_er_tail S M l hA
theorem len_s {L : List Nat} {i x n : Nat} (h : L.length = n) : (L.set i x).length = n := by rw [List.length_set]; exact h
theorem r_er_2 {c : Nat → Nat} {M : mS} {i A u n : Nat} (l : (M_er M).length = 36) (hA : A + 2 < 36) (hT : TXM M) (hc : chM M = c) (hR : RA c M i) (hf : M_fa M = kM1) (h2 : rdN c i 1 9 = some u) (h3 : rdNd c (i + 1) = some n) : ∃ a b t v, RA c (gM M a b t v kM1) (i + 1 + 1) ∧ ∀ S, Ev [] mX9_readsItem (93, [some (.ref 104), some (.int (nI 2)), some (.int (nI A)), none], [], hp S M) none (hp S (Ms_de (Ms_er (gM M a b t v kM1) (((M_er M).set (A + 1) u).set (A + 2) n)) (M_de M + 1))) := by
  obtain ⟨a, b, t, v, q1, q2⟩ := r_number_t (lo := 1) (hi := 9) (by decide) (by decide) hT hc hR hf h2
  obtain ⟨a2, b2, t2, v2, q3, q4⟩ := r_er_3 (M := Ms_er (gM M a b t v kM1) ((M_er M).set (A + 1) u)) (A := A) (len_s l) hA hT hc q1 rfl h3
  refine ⟨a2, b2, t2, v2, q3, fun S => ?_⟩
  refine Ev_ca rfl (q2 S) ?_
  refine r_er_b S (gM M a b t v kM1) l hA ?_
  exact q4 S
theorem r_er_2f3 {c : Nat → Nat} {M : mS} {i A u : Nat} (l : (M_er M).length = 36) (hA : A + 2 < 36) (hT : TXM M) (hc : chM M = c) (hR : RA c M i) (hf : M_fa M = kM1) (h2 : rdN c i 1 9 = some u) (h3 : rdNd c (i + 1) = none) : ∃ a b t v, ∀ S, Ev [] mX9_readsItem (93, [some (.ref 104), some (.int (nI 2)), some (.int (nI A)), none], [], hp S M) none (hp S (Ms_de (Ms_er (gM M a b t v (nI (st c (i + 1)))) (((M_er M).set (A + 1) u).set (A + 2) 0)) (M_de M + 1))) := by
  obtain ⟨a, b, t, v, q1, q2⟩ := r_number_t (lo := 1) (hi := 9) (by decide) (by decide) hT hc hR hf h2
  refine ⟨a, b, t, v, fun S => ?_⟩
  refine Ev_ca rfl (q2 S) ?_
  refine r_er_b S (gM M a b t v kM1) l hA ?_
  exact r_er_3f S (M := Ms_er (gM M a b t v kM1) ((M_er M).set (A + 1) u)) (A := A) (len_s l) hA q1 rfl h3
theorem r_er_2f {c : Nat → Nat} {M : mS} {i A : Nat} (l : (M_er M).length = 36) (hA : A + 2 < 36) (hR : RA c M i) (hst : st c i < 1000) (hf : M_fa M = kM1) (h2 : rdN c i 1 9 = none) : Ev [] mX9_readsItem (93, [some (.ref 104), some (.int (nI 2)), some (.int (nI A)), none], [], hp S M) none (hp S (Ms_de (Ms_er (Ms_fa M (nI (st c i))) (((M_er M).set (A + 1) 0).set (A + 2) 0)) (M_de M + 1))) := by
  refine Ev_ca rfl (r_number_f S (lo := 1) (hi := 9) (by decide) (by decide) hR hf h2) ?_
  refine r_er_b S (Ms_fa M (nI (st c i))) l hA ?_
  exact r_er_3n S (M := Ms_er (Ms_fa M (nI (st c i))) ((M_er M).set (A + 1) 0)) (A := A) (i := i) (len_s l) hA hR hst rfl
theorem r_er_2n {c : Nat → Nat} {M : mS} {i A f : Nat} (l : (M_er M).length = 36) (hA : A + 2 < 36) (hR : RA c M i) (hf9 : f < 1000) (hf : M_fa M = nI f) : Ev [] mX9_readsItem (93, [some (.ref 104), some (.int (nI 2)), some (.int (nI A)), none], [], hp S M) none (hp S (Ms_de (Ms_er M (((M_er M).set (A + 1) 0).set (A + 2) 0)) (M_de M + 1))) := by
  refine Ev_ca rfl (r_number_n S (lo := 1) (hi := 9) (by decide) (by decide) hR hf9 hf) ?_
  refine r_er_b S M l hA ?_
  exact r_er_3n S (M := Ms_er M ((M_er M).set (A + 1) 0)) (A := A) (i := i) (len_s l) hA hR hf9 hf
/-- the rows of ERRANDS behind a new one -/
abbrev erS (M : mS) (g u n : Nat) : List Nat := (((M_er M).set (18 + 3 * M_de M) g).set (18 + 3 * M_de M + 1) u).set (18 + 3 * M_de M + 2) n
theorem r_item_6 {c : Nat → Nat} {M : mS} {i g u n : Nat} (hL : ML M) (hk : M_de M < 6) (hT : TXM M) (hc : chM M = c) (hR : RA c M i) (hf : M_fa M = kM1) (h1 : rdN c i 0 7 = some g) (h2 : rdN c (i + 1) 1 9 = some u) (h3 : rdNd c (i + 1 + 1) = some n) : ∃ a b t v, RA c (gM M a b t v kM1) (i + 1 + 1 + 1) ∧ ∀ S, Cl mX9_readsItem [.ref 104, .int (nI 2)] (hp S M) none (hp S (Ms_de (Ms_er (gM M a b t v kM1) (erS M g u n)) (M_de M + 1))) := by
  have le := hL.2.2.2.1
  obtain ⟨a, b, t, v, q1, q2⟩ := r_number_t (lo := 0) (hi := 7) (by decide) (by decide) hT hc hR hf h1
  obtain ⟨a2, b2, t2, v2, q3, q4⟩ := r_er_2 (M := Ms_er (gM M a b t v kM1) ((M_er M).set (18 + 3 * M_de M) g)) (A := 18 + 3 * M_de M) (len_s le) (by omega) hT hc q1 rfl h2 h3
  refine ⟨a2, b2, t2, v2, q3, fun S => ?_⟩
  refine r_er_head S M ?_
  refine Ev_ca rfl (q2 S) ?_
  refine r_er_a S (gM M a b t v kM1) le (by omega) ?_
  exact q4 S
theorem r_item_6f3 {c : Nat → Nat} {M : mS} {i g u : Nat} (hL : ML M) (hk : M_de M < 6) (hT : TXM M) (hc : chM M = c) (hR : RA c M i) (hf : M_fa M = kM1) (h1 : rdN c i 0 7 = some g) (h2 : rdN c (i + 1) 1 9 = some u) (h3 : rdNd c (i + 1 + 1) = none) : ∃ a b t v, ∀ S, Cl mX9_readsItem [.ref 104, .int (nI 2)] (hp S M) none (hp S (Ms_de (Ms_er (gM M a b t v (nI (st c (i + 1 + 1)))) (erS M g u 0)) (M_de M + 1))) := by
  have le := hL.2.2.2.1
  obtain ⟨a, b, t, v, q1, q2⟩ := r_number_t (lo := 0) (hi := 7) (by decide) (by decide) hT hc hR hf h1
  obtain ⟨a2, b2, t2, v2, q4⟩ := r_er_2f3 (M := Ms_er (gM M a b t v kM1) ((M_er M).set (18 + 3 * M_de M) g)) (A := 18 + 3 * M_de M) (len_s le) (by omega) hT hc q1 rfl h2 h3
  refine ⟨a2, b2, t2, v2, fun S => ?_⟩
  refine r_er_head S M ?_
  refine Ev_ca rfl (q2 S) ?_
  refine r_er_a S (gM M a b t v kM1) le (by omega) ?_
  exact q4 S
theorem r_item_6f2 {c : Nat → Nat} {M : mS} {i g : Nat} (hL : ML M) (hk : M_de M < 6) (hT : TXM M) (hc : chM M = c) (hR : RA c M i) (hf : M_fa M = kM1) (hst : st c (i + 1) < 1000) (h1 : rdN c i 0 7 = some g) (h2 : rdN c (i + 1) 1 9 = none) : ∃ a b t v, ∀ S, Cl mX9_readsItem [.ref 104, .int (nI 2)] (hp S M) none (hp S (Ms_de (Ms_er (gM M a b t v (nI (st c (i + 1)))) (erS M g 0 0)) (M_de M + 1))) := by
  have le := hL.2.2.2.1
  obtain ⟨a, b, t, v, q1, q2⟩ := r_number_t (lo := 0) (hi := 7) (by decide) (by decide) hT hc hR hf h1
  refine ⟨a, b, t, v, fun S => ?_⟩
  refine r_er_head S M ?_
  refine Ev_ca rfl (q2 S) ?_
  refine r_er_a S (gM M a b t v kM1) le (by omega) ?_
  exact r_er_2f S (M := Ms_er (gM M a b t v kM1) ((M_er M).set (18 + 3 * M_de M) g)) (A := 18 + 3 * M_de M) (len_s le) (by omega) q1 hst rfl h2
theorem r_item_6f {c : Nat → Nat} {M : mS} {i : Nat} (hL : ML M) (hk : M_de M < 6) (hR : RA c M i) (hf : M_fa M = kM1) (hst : st c i < 1000) (h1 : rdN c i 0 7 = none) : Cl mX9_readsItem [.ref 104, .int (nI 2)] (hp S M) none (hp S (Ms_de (Ms_er (Ms_fa M (nI (st c i))) (erS M 0 0 0)) (M_de M + 1))) := by
  have le := hL.2.2.2.1
  refine r_er_head S M ?_
  refine Ev_ca rfl (r_number_f S (lo := 0) (hi := 7) (by decide) (by decide) hR hf h1) ?_
  refine r_er_a S (Ms_fa M (nI (st c i))) le (by omega) ?_
  exact r_er_2n S (M := Ms_er (Ms_fa M (nI (st c i))) ((M_er M).set (18 + 3 * M_de M) 0)) (A := 18 + 3 * M_de M) (i := i) (len_s le) (by omega) hR hst rfl
-- RULE
theorem r_ru_tail2 (M : mS) {x n : Nat} (l : (M_td M).length = 16) (hu : M_du M < 4) : Ev [] mX9_readsItem (227, [some (.ref 104), some (.int (nI 3)), some (.int (nI n)), some (.int (nI x))], [], hp S M) none (hp S (Ms_du (Ms_td M ((M_td M).set (9 + 2 * M_du M) n)) (M_du M + 1))) := by
  refine Ev_isl rfl (i := 9 + 2 * M_du M) (y := n) (by rw [← nI_add, ← pk_mul]) rfl (by omega) (by omega) (h2 := hp S (Ms_td M ((M_td M).set (9 + 2 * M_du M) n))) rfl ?_
  refine a_run_ev 6 rfl ?_
  refine Ev_h (h2 := hp S (Ms_du (Ms_td M ((M_td M).set (9 + 2 * M_du M) n)) (M_du M + 1))) (by rw [nI_add]; rfl) ?_
  exact Ev_rt rfl rfl rfl rfl
theorem r_ru_tail (M : mS) {x n : Nat} (l : (M_td M).length = 16) (hu : M_du M < 4) : Ev [] mX9_readsItem (212, [some (.ref 104), some (.int (nI 3)), some (.int (nI n)), some (.int (nI x))], [], hp S M) none (hp S (rkM M x n)) := by
  refine Ev_isl rfl (i := 8 + 2 * M_du M) (y := x) (by rw [← nI_add, ← pk_mul]) rfl (by omega) (by omega) (h2 := hp S (Ms_td M ((M_td M).set (8 + 2 * M_du M) x))) rfl ?_
  exact r_ru_tail2 S (Ms_td M ((M_td M).set (8 + 2 * M_du M) x)) (len_s l) hu
theorem r_ru_head (M : mS) {v : Option Value} {h' : aH} (kk : Ev [] mX9_readsItem (168, [some (.ref 104), some (.int (nI 3)), none, none], [], hp S M) v h') : Cl mX9_readsItem [.ref 104, .int (nI 3)] (hp S M) v h' := by
  refine Ev_br rfl (fun _ => ?_) (fun q => absurd (show nI 3 = 0 from Decidable.not_not.mp q) (by decide))
  refine Ev_br rfl (fun _ => ?_) (fun q => absurd (show nI 3 = nI 1 from Decidable.not_not.mp q) (by decide))
  refine Ev_br rfl (fun _ => kk) (fun q => absurd (show nI 3 = nI 2 from Decidable.not_not.mp q) (by decide))
theorem r_item_7f {c : Nat → Nat} {M : mS} {i : Nat} (hL : ML M) (hu : M_du M < 4) (hR : RA c M i) (hf : M_fa M = kM1) (hst : st c i < 1000) (h1 : rdN c i 1 8 = none) : Cl mX9_readsItem [.ref 104, .int (nI 3)] (hp S M) none (hp S (rkM (Ms_fa M (nI (st c i))) 0 0)) := by
  have lt := hL.2.2.2.2.1
  refine r_ru_head S M ?_
  refine Ev_ca rfl (r_number_f S (lo := 1) (hi := 8) (by decide) (by decide) hR hf h1) ?_
  refine Ev_ca rfl (r_signSet_n S (M := Ms_fa M (nI (st c i))) hst rfl) ?_
  refine Ev_ca rfl (r_isWell_f S (M := Ms_fa M (nI (st c i))) hst rfl) ?_
  refine Ev_br rfl (fun _ => ?_) (fun q => absurd nI_0 q)
  exact r_ru_tail S (Ms_fa M (nI (st c i))) lt hu
theorem r_ru_mid {c : Nat → Nat} {M : mS} {j x n : Nat} (l : (M_td M).length = 16) (hu : M_du M < 4) (hx : x < 256) (hn : n < 9) (hR : RA c M j) (hst : st c j < 1000) (hf : M_fa M = sgF c j) : Ev [] mX9_readsItem (181, [some (.ref 104), some (.int (nI 3)), some (.int (nI n)), some (.int (nI x))], [], hp S M) none (hp S (rkM (Ms_fa M (if n ≤ pop x ∧ tK c j = 2 then kM1 else nI (st c j))) x n)) := by
  have ht5 := tokM_lt (tK c j)
  have et : M_tk M = tokM (tK c j) := hR.2.2.1
  have hp8 := pop_le x
  by_cases hk : tK c j = 3
  · have hf : M_fa M = nI (st c j) := by rw [hf]; unfold sgF; rw [if_pos hk]
    rw [if_neg (by omega), ← hf]
    refine Ev_ca rfl (r_isWell_f S hst hf) ?_
    refine Ev_br rfl (fun _ => ?_) (fun q => absurd nI_0 q)
    exact r_ru_tail S M l hu
  · have hf : M_fa M = kM1 := by rw [hf]; unfold sgF; rw [if_neg hk]
    have bad : ¬ (n ≤ pop x ∧ tK c j = 2) → Ev [] mX9_readsItem (204, [some (.ref 104), some (.int (nI 3)), some (.int (nI n)), some (.int (nI x))], [], hp S M) none (hp S (rkM (Ms_fa M (if n ≤ pop x ∧ tK c j = 2 then kM1 else nI (st c j))) x n)) := by
      intro hb
      rw [if_neg hb, ← hR.1]
      refine a_run_ev 4 rfl ?_
      refine Ev_h (h2 := hp S (Ms_fa M (nI (M_pl M)))) rfl ?_
      exact r_ru_tail S (Ms_fa M (nI (M_pl M))) l hu
    refine Ev_ca rfl (r_isWell_t S hf) ?_
    refine Ev_br rfl (fun q => absurd q b1z) (fun _ => ?_)
    refine Ev_ca rfl (r_ones _ hx) ?_
    refine Ev_br rfl (fun q => ?_) (fun q => ?_)
    · have q : nI (pop x) < nI n := q
      rw [nI_ltI (by omega) (by omega)] at q
      exact bad (by omega)
    · have q : ¬ nI (pop x) < nI n := q
      rw [nI_ltI (by omega) (by omega)] at q
      refine Ev_br rfl (fun q2 => ?_) (fun q2 => ?_)
      · have q2 : nI (M_tk M) = nI 3 := q2
        rw [et, nI_eq (by omega) (by decide), tokM_3] at q2
        rw [if_pos ⟨by omega, q2⟩, ← hf]
        exact r_ru_tail S M l hu
      · have q2 : ¬ nI (M_tk M) = nI 3 := q2
        rw [et, nI_eq (by omega) (by decide), tokM_3] at q2
        exact bad (fun w => q2 w.2)
theorem r_item_7 {c : Nat → Nat} {M : mS} {i n : Nat} (hL : ML M) (hu : M_du M < 4) (hT : TXM M) (hc : chM M = c) (hR : RA c M i) (hf : M_fa M = kM1) (h1 : rdN c i 1 8 = some n) (hx : (sgs c 8 (i + 1) 0).1 < 256) (hst : st c (sgs c 8 (i + 1) 0).2 < 1000) : ∃ a b t v, RA c (gM M a b t v kM1) (sgs c 8 (i + 1) 0).2 ∧ ∀ S, Cl mX9_readsItem [.ref 104, .int (nI 3)] (hp S M) none (hp S (rkM (gM M a b t v (if n ≤ pop (sgs c 8 (i + 1) 0).1 ∧ tK c (sgs c 8 (i + 1) 0).2 = 2 then kM1 else nI (st c (sgs c 8 (i + 1) 0).2))) (sgs c 8 (i + 1) 0).1 n)) := by
  have lt := hL.2.2.2.2.1
  have hn := (rdN_some h1).2.2
  obtain ⟨a, b, t, v, q1, q2⟩ := r_number_t (lo := 1) (hi := 8) (by decide) (by decide) hT hc hR hf h1
  obtain ⟨a2, b2, t2, v2, q3, q4⟩ := r_signSet_t (M := gM M a b t v kM1) hT hc q1 rfl
  refine ⟨a2, b2, t2, v2, q3, fun S => ?_⟩
  refine r_ru_head S M ?_
  refine Ev_ca rfl (q2 S) ?_
  refine Ev_ca rfl (q4 S) ?_
  exact a_run_ev 1 rfl <| r_ru_mid S (M := gM (gM M a b t v kM1) a2 b2 t2 v2 (sgF c (sgs c 8 (i + 1) 0).2)) lt hu hx (show n < 9 by omega) q3 hst rfl
end

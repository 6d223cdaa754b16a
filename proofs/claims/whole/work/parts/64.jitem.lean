/-! a piece of the text, in both -/
def mayB (M : mS) (w : Nat) : Bool := if w = 0 then decide (M_dl M = kM9) else if w = 1 then decide (M_dk M < 5) else if w = 2 then decide (M_de M < 6) else decide (M_du M < 4)
section
variable (S0 : cS)
theorem r_may {M : mS} {n : Nat} {z2 z3 : Option Value} {v : Option Value} {h' : aH} (hk : M_dk M ≤ 5) (he : M_de M ≤ 6) (hu : M_du M ≤ 4) (kk : ∀ b : Bool, (∀ w, w < 4 → M_vl M = nI w → b = mayB M w) → Ev [] mX9_house (142, [some (.ref 104), some (.int (nI n)), z2, z3], [.int (nI b.toNat)], hp S0 M) v h') : Ev [] mX9_house (56, [some (.ref 104), some (.int (nI n)), z2, z3], [], hp S0 M) v h' := by
  refine Ev_br rfl (fun h0 => ?_) (fun h0 => ?_)
  · have h0 : ¬ M_vl M = nI 0 := h0
    refine Ev_br rfl (fun h1 => ?_) (fun h1 => ?_)
    · have h1 : ¬ M_vl M = nI 1 := h1
      refine Ev_br rfl (fun h2 => ?_) (fun h2 => ?_)
      · have h2 : ¬ M_vl M = nI 2 := h2
        have hw : ∀ w, w < 4 → M_vl M = nI w → w = 3 := fun w hw q => by
          match w, hw with
          | 0, _ => exact absurd q h0
          | 1, _ => exact absurd q h1
          | 2, _ => exact absurd q h2
          | 3, _ => rfl
        refine Ev_br rfl (fun q => ?_) (fun q => ?_)
        · have q : nI 4 ≤ nI (M_du M) := q
          rw [nI_leI (by decide) (by omega)] at q
          refine a_run_ev 1 rfl (kk false (fun w hw4 e => ?_))
          rw [hw w hw4 e]
          exact (decide_eq_false (by omega)).symm
        · have q : ¬ nI 4 ≤ nI (M_du M) := q
          rw [nI_leI (by decide) (by omega)] at q
          refine Ev_jp rfl (kk true (fun w hw4 e => ?_))
          rw [hw w hw4 e]
          exact (decide_eq_true (by omega)).symm
      · have h2 : ¬ ¬ M_vl M = nI 2 := h2
        have h2 := Decidable.not_not.mp h2
        have hw : ∀ w, w < 4 → M_vl M = nI w → w = 2 := fun w hw q => by
          rw [h2, nI_eq (by decide) (by omega)] at q
          exact q.symm
        refine Ev_br rfl (fun q => ?_) (fun q => ?_)
        · have q : nI 6 ≤ nI (M_de M) := q
          rw [nI_leI (by decide) (by omega)] at q
          refine Ev_jp rfl (kk false (fun w hw4 e => ?_))
          rw [hw w hw4 e]
          exact (decide_eq_false (by omega)).symm
        · have q : ¬ nI 6 ≤ nI (M_de M) := q
          rw [nI_leI (by decide) (by omega)] at q
          refine Ev_jp rfl (kk true (fun w hw4 e => ?_))
          rw [hw w hw4 e]
          exact (decide_eq_true (by omega)).symm
    · have h1 : ¬ ¬ M_vl M = nI 1 := h1
      have h1 := Decidable.not_not.mp h1
      have hw : ∀ w, w < 4 → M_vl M = nI w → w = 1 := fun w hw q => by
        rw [h1, nI_eq (by decide) (by omega)] at q
        exact q.symm
      refine Ev_br rfl (fun q => ?_) (fun q => ?_)
      · have q : nI 5 ≤ nI (M_dk M) := q
        rw [nI_leI (by decide) (by omega)] at q
        refine Ev_jp rfl (kk false (fun w hw4 e => ?_))
        rw [hw w hw4 e]
        exact (decide_eq_false (by omega)).symm
      · have q : ¬ nI 5 ≤ nI (M_dk M) := q
        rw [nI_leI (by decide) (by omega)] at q
        refine Ev_jp rfl (kk true (fun w hw4 e => ?_))
        rw [hw w hw4 e]
        exact (decide_eq_true (by omega)).symm
  · have h0 : ¬ ¬ M_vl M = nI 0 := h0
    have h0 := Decidable.not_not.mp h0
    have hw : ∀ w, w < 4 → M_vl M = nI w → w = 0 := fun w hw q => by
      rw [h0, nI_eq (by decide) (by omega)] at q
      exact q.symm
    refine Ev_br rfl (fun q => ?_) (fun q => ?_)
    · have q : ¬ M_dl M = kM9 := q
      refine Ev_jp rfl (kk false (fun w hw4 e => ?_))
      rw [hw w hw4 e]
      exact (decide_eq_false q).symm
    · have q : ¬ ¬ M_dl M = kM9 := q
      refine Ev_jp rfl (kk true (fun w hw4 e => ?_))
      rw [hw w hw4 e]
      exact (decide_eq_true (Decidable.not_not.mp q)).symm
/-- the next piece, from the loop's head: its word -/
theorem r_word_is {c : Nat → Nat} {M : mS} {n i : Nat} {z2 z3 : Option Value} {v : Option Value} {h' : aH} (hk : M_dk M ≤ 5) (he : M_de M ≤ 6) (hu : M_du M ≤ 4) (hR : RA c M i) (hf : M_fa M = kM1) (hk0 : tK c i ≠ 0) (kk : ∀ y2 : Int32, Ev [] mX9_house (161, [some (.ref 104), some (.int (nI n)), some (.int y2), z3], [.int (nI (decide (4 ≤ tK c i) && mayB M (tK c i - 4)).toNat), .ref 104], hp S0 M) v h') : Ev [] mX9_house (42, [some (.ref 104), some (.int (nI n)), z2, z3], [], hp S0 M) v h' := by
  have ht5 := tokM_lt (tK c i)
  have hk8 : tK c i < 8 := kiF_lt _ _ _
  have et : M_tk M = tokM (tK c i) := hR.2.2.1
  refine Ev_ca rfl (r_isWell_t S0 hf) ?_
  refine Ev_br rfl (fun q => absurd q b1z) (fun _ => ?_)
  refine Ev_br rfl (fun q => ?_) (fun _ => ?_)
  · have q : nI (M_tk M) = nI 0 := q
    rw [et, nI_eq (by omega) (by decide), tokM_0] at q
    exact absurd q hk0
  refine r_may S0 hk he hu (fun b hb => ?_)
  by_cases h4 : 4 ≤ tK c i
  · have hb := hb (tK c i - 4) (by omega) (hR.2.2.2.2 h4)
    rw [decide_eq_true h4, Bool.true_and, ← hb] at kk
    refine Ev_br rfl (fun q => ?_) (fun _ => ?_)
    · have q : ¬ nI (M_tk M) = nI 1 := q
      rw [et, nI_eq (by omega) (by decide), tokM_1] at q
      exact absurd h4 q
    cases b with
    | false => exact Ev_br rfl (fun _ => a_run_ev 1 rfl (kk _)) (fun q => absurd nI_0 q)
    | true => exact Ev_br rfl (fun q => absurd q b1z) (fun _ => Ev_jp rfl (kk _))
  · rw [decide_eq_false h4, Bool.false_and] at kk
    refine Ev_br rfl (fun _ => a_run_ev 1 rfl (kk _)) (fun q => ?_)
    have q : ¬ ¬ nI (M_tk M) = nI 1 := q
    rw [et, nI_eq (by omega) (by decide), tokM_1, Decidable.not_not] at q
    exact absurd q h4
/-- behind the piece: its STOP, in the loop's end -/
theorem r_stop_n {M : mS} {n f : Nat} {z2 z3 : Option Value} {v : Option Value} {h' : aH} (hf9 : f < 1000) (hf : M_fa M = nI f) (kk : Ev [] mX9_house (42, [some (.ref 104), some (.int (nI (n + 1))), z2, z3], [], hp S0 M) v h') : Ev [] mX9_house (177, [some (.ref 104), some (.int (nI n)), z2, z3], [], hp S0 M) v h' := by
  have go : ∀ b : Int32, Ev [] mX9_house (191, [some (.ref 104), some (.int (nI n)), z2, z3], [.int b, .ref 104], hp S0 M) v h' := by
    intro b
    refine Ev_ca rfl (r_takes_n S0 hf9 hf) ?_
    refine Ev_jpe rfl ?_ kk
    rw [nI_add]
    all_goals rfl
  exact Ev_br rfl (fun _ => a_run_ev 1 rfl (go _)) (fun _ => Ev_jp rfl (go _))
theorem r_stop_f {c : Nat → Nat} {M : mS} {n j : Nat} {z2 z3 : Option Value} {v : Option Value} {h' : aH} (hR : RA c M j) (hf : M_fa M = kM1) (hk : tK c j ≠ 2) (kk : Ev [] mX9_house (42, [some (.ref 104), some (.int (nI (n + 1))), z2, z3], [], hp S0 (Ms_fa M (nI (st c j)))) v h') : Ev [] mX9_house (177, [some (.ref 104), some (.int (nI n)), z2, z3], [], hp S0 M) v h' := by
  have ht5 := tokM_lt (tK c j)
  have et : M_tk M = tokM (tK c j) := hR.2.2.1
  refine Ev_br rfl (fun _ => ?_) (fun q => ?_)
  · refine a_run_ev 1 rfl ?_
    rw [← hR.1] at kk
    refine Ev_ca rfl (r_takes_f S0 hf) ?_
    refine Ev_jpe rfl ?_ kk
    rw [nI_add]
    all_goals rfl
  · have q : ¬ ¬ nI (M_tk M) = nI 3 := q
    rw [et, nI_eq (by omega) (by decide), tokM_3, Decidable.not_not] at q
    exact absurd q hk
theorem r_stop_t {c : Nat → Nat} {M : mS} {j : Nat} (hT : TXM M) (hc : chM M = c) (hR : RA c M j) (hf : M_fa M = kM1) (hk : tK c j = 2) : ∃ a b t vl, RA c (gM M a b t vl kM1) (j + 1) ∧ ∀ (S0 : cS) {n : Nat} {z2 z3 : Option Value} {v : Option Value} {h' : aH}, Ev [] mX9_house (42, [some (.ref 104), some (.int (nI (n + 1))), z2, z3], [], hp S0 (gM M a b t vl kM1)) v h' → Ev [] mX9_house (177, [some (.ref 104), some (.int (nI n)), z2, z3], [], hp S0 M) v h' := by
  have ht5 := tokM_lt (tK c j)
  have et : M_tk M = tokM (tK c j) := hR.2.2.1
  obtain ⟨a, b, t, vl, q1, q2⟩ := r_takes_t hT hc hR (by omega) hf
  refine ⟨a, b, t, vl, q1, fun S0 {n z2 z3 v h'} kk => ?_⟩
  refine Ev_br rfl (fun q => ?_) (fun _ => ?_)
  · have q : ¬ nI (M_tk M) = nI 3 := q
    rw [et, nI_eq (by omega) (by decide), tokM_3] at q
    exact absurd hk q
  · refine Ev_jp rfl ?_
    refine Ev_ca rfl (q2 S0) ?_
    refine Ev_jpe rfl ?_ kk
    rw [nI_add]
    all_goals rfl
/-- no word, or one too many -/
theorem r_house_bad {c : Nat → Nat} {M : mS} {n i : Nat} {z2 z3 : Option Value} {v : Option Value} {h' : aH} (hk : M_dk M ≤ 5) (he : M_de M ≤ 6) (hu : M_du M ≤ 4) (hR : RA c M i) (hst : st c i < 1000) (hf : M_fa M = kM1) (hk0 : tK c i ≠ 0) (hb : (decide (4 ≤ tK c i) && mayB M (tK c i - 4)) = false) (kk : ∀ z2 z3, Ev [] mX9_house (42, [some (.ref 104), some (.int (nI (n + 1))), z2, z3], [], hp S0 (Ms_fa M (nI (st c i)))) v h') : Ev [] mX9_house (42, [some (.ref 104), some (.int (nI n)), z2, z3], [], hp S0 M) v h' := by
  refine r_word_is S0 hk he hu hR hf hk0 (fun z2 => ?_)
  rw [hb]
  have hpl := hR.1
  refine Ev_ca rfl (r_takes_f S0 hf) ?_
  refine Ev_ca rfl (r_isWell_f S0 (M := Ms_fa M (nI (M_pl M))) (f := M_pl M) (by omega) rfl) ?_
  refine Ev_br rfl (fun _ => ?_) (fun q => absurd nI_0 q)
  rw [hpl]
  exact r_stop_n S0 (M := Ms_fa M (nI (st c i))) hst rfl (kk _ _)
/-- a word that may stand: its piece is read -/
theorem r_house_go {c : Nat → Nat} {M : mS} {i : Nat} (hk : M_dk M ≤ 5) (he : M_de M ≤ 6) (hu : M_du M ≤ 4) (hT : TXM M) (hc : chM M = c) (hR : RA c M i) (hf : M_fa M = kM1) (hk4 : 4 ≤ tK c i) (hb : mayB M (tK c i - 4) = true) : ∃ a b t vl, RA c (gM M a b t vl kM1) (i + 1) ∧ ∀ (S0 : cS) {M2 : mS} {n : Nat} {v : Option Value} {h' : aH} {z2 z3 : Option Value}, Cl mX9_readsItem [.ref 104, .int (nI (tK c i - 4))] (hp S0 (gM M a b t vl kM1)) none (hp S0 M2) → (∀ z2 z3, Ev [] mX9_house (177, [some (.ref 104), some (.int (nI n)), z2, z3], [], hp S0 M2) v h') → Ev [] mX9_house (42, [some (.ref 104), some (.int (nI n)), z2, z3], [], hp S0 M) v h' := by
  obtain ⟨a, b, t, vl, q1, q2⟩ := r_takes_t hT hc hR (by omega) hf
  rw [hR.2.2.2.2 hk4] at q2
  refine ⟨a, b, t, vl, q1, fun S0 {M2 n v h' z2 z3} C kk => ?_⟩
  refine r_word_is S0 hk he hu hR hf (by omega) (fun z2 => ?_)
  rw [decide_eq_true hk4, hb]
  refine Ev_ca rfl (q2 S0) ?_
  refine Ev_ca rfl (r_isWell_t S0 (M := gM M a b t vl kM1) rfl) ?_
  refine Ev_br rfl (fun q => absurd q b1z) (fun _ => ?_)
  exact Ev_ca rfl C (kk _ _)
end

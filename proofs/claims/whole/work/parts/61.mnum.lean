/-! the reference's reader: NUMBERS, SIGNS -/
theorem tokM_lt (k : Nat) : tokM k < 5 := by
  unfold tokM
  repeat' split
  all_goals decide
theorem tokM_2 (k : Nat) : tokM k = 2 ↔ k = 3 := by
  unfold tokM
  constructor
  · intro h
    repeat' split at h
    all_goals omega
  · intro h
    subst h
    rfl
theorem tokM_3 (k : Nat) : tokM k = 3 ↔ k = 2 := by
  unfold tokM
  constructor
  · intro h
    repeat' split at h
    all_goals omega
  · intro h
    subst h
    rfl
theorem tokM_1 (k : Nat) : tokM k = 1 ↔ 4 ≤ k := by
  unfold tokM
  constructor
  · intro h
    repeat' split at h
    all_goals omega
  · intro h
    rw [if_neg (by omega), if_neg (by omega), if_neg (by omega), if_neg (by omega)]
theorem tokM_0 (k : Nat) : tokM k = 0 ↔ k = 0 := by
  unfold tokM
  constructor
  · intro h
    repeat' split at h
    all_goals omega
  · intro h
    subst h
    rfl
theorem tV_of {c : Nat → Nat} {i : Nat} (h : tK c i = 3) : ∃ v, tV c i = some v := by
  obtain ⟨v, hv⟩ := numV_some h
  exact ⟨v, by unfold tV; rw [if_pos h]; exact hv⟩
theorem rdN_k {c : Nat → Nat} {i a b : Nat} (h : tK c i ≠ 3) : rdN c i a b = none := by
  have e : tV c i = none := if_neg h
  unfold rdN
  rw [e]
theorem sgO_k {c : Nat → Nat} {i x : Nat} (h : tK c i ≠ 3) : sgO c i x = none := by
  have e : tV c i = none := if_neg h
  unfold sgO
  rw [e]
theorem pop_full : ∀ x, x < 256 → 8 ≤ pop x → ∀ v, v < 8 → bt x v = 1 := by decide +kernel
theorem pop_orv : ∀ x, x < 256 → ∀ v, v < 8 → bt x v = 0 → pop (x ||| 2 ^ v) = pop x + 1 := by decide +kernel
theorem gM_self (M : mS) (f : Int32) : gM M (M_pl M) (M_nx M) (M_tk M) (M_vl M) f = Ms_fa M f := rfl
section
variable (S : cS)
theorem r_num_is {c : Nat → Nat} {M : mS} {i lo hi : Nat} {v : Option Value} {h' : aH} (hlo : lo < 100) (hhi : hi < 100) (hR : RA c M i) (kk : Ev [] mX9_number (26, [some (.ref 104), some (.int (nI lo)), some (.int (nI hi))], [.int (nI (rdN c i lo hi).isSome.toNat), .ref 104], hp S M) v h') : Cl mX9_number [.ref 104, .int (nI lo), .int (nI hi)] (hp S M) v h' := by
  have ht5 := tokM_lt (tK c i)
  have et : M_tk M = tokM (tK c i) := hR.2.2.1
  by_cases hk : tK c i = 3
  · obtain ⟨w, hw⟩ := tV_of hk
    have h9 := (tV_some hw).2
    have ev : M_vl M = nI w := by rw [hR.2.2.2.1 hk, hw]; rfl
    refine Ev_br rfl (fun hc => ?_) (fun _ => ?_)
    · have hc : ¬ nI (M_tk M) = nI 2 := hc
      rw [et, nI_eq (by omega) (by decide), tokM_2] at hc
      exact absurd hk hc
    · cases hr : rdN c i lo hi with
      | some u =>
        obtain ⟨h1, h2, h3⟩ := rdN_some hr
        rw [hw] at h1
        cases h1
        rw [hr] at kk
        refine Ev_cae rfl (as' := [.int (nI w), .int (nI lo), .int (nI hi)]) (by rw [← ev]) (r_in_t _ h2 h3 (by omega)) ?_
        refine Ev_br rfl (fun hc => absurd hc b1z) (fun _ => ?_)
        exact Ev_jp rfl kk
      | none =>
        rw [hr] at kk
        refine Ev_cae rfl (as' := [.int (nI w), .int (nI lo), .int (nI hi)]) (by rw [← ev]) (r_in_f _ ?_) ?_
        · rcases rdN_none hr hw with q | q
          · exact Or.inl (nI_lt q (by omega))
          · exact Or.inr (nI_lt q (by omega))
        exact Ev_br rfl (fun _ => a_run_ev 1 rfl kk) (fun hc => absurd nI_0 hc)
  · rw [rdN_k hk] at kk
    refine Ev_br rfl (fun _ => a_run_ev 1 rfl kk) (fun hc => ?_)
    have hc : ¬ ¬ nI (M_tk M) = nI 2 := hc
    rw [et, nI_eq (by omega) (by decide), tokM_2, Decidable.not_not] at hc
    exact absurd hc hk
theorem r_number_t {c : Nat → Nat} {M : mS} {i lo hi w : Nat} (hlo : lo < 100) (hhi : hi < 100) (hT : TXM M) (hc : chM M = c) (hR : RA c M i) (hf : M_fa M = kM1) (hw : rdN c i lo hi = some w) : ∃ a b t v, RA c (gM M a b t v kM1) (i + 1) ∧ ∀ S, Cl mX9_number [.ref 104, .int (nI lo), .int (nI hi)] (hp S M) (some (.int (nI w))) (hp S (gM M a b t v kM1)) := by
  obtain ⟨h1, h2, h3⟩ := rdN_some hw
  have hk := (tV_some h1).1
  obtain ⟨a, b, t, v, q1, q2⟩ := r_takes_t hT hc hR (by omega) hf
  have ev : M_vl M = nI w := by rw [hR.2.2.2.1 hk, h1]; rfl
  rw [ev] at q2
  refine ⟨a, b, t, v, q1, fun S => r_num_is S hlo hhi hR ?_⟩
  rw [hw]
  exact Ev_ca rfl (q2 S) (Ev_rt rfl rfl rfl rfl)
theorem r_number_f {c : Nat → Nat} {M : mS} {i lo hi : Nat} (hlo : lo < 100) (hhi : hi < 100) (hR : RA c M i) (hf : M_fa M = kM1) (hw : rdN c i lo hi = none) : Cl mX9_number [.ref 104, .int (nI lo), .int (nI hi)] (hp S M) (some (.int (nI 0))) (hp S (Ms_fa M (nI (st c i)))) := by
  refine r_num_is S hlo hhi hR ?_
  rw [hw, ← hR.1]
  exact Ev_ca rfl (r_takes_f S hf) (Ev_rt rfl rfl rfl rfl)
theorem r_number_n {c : Nat → Nat} {M : mS} {i f lo hi : Nat} (hlo : lo < 100) (hhi : hi < 100) (hR : RA c M i) (hf : f < 1000) (h : M_fa M = nI f) : Cl mX9_number [.ref 104, .int (nI lo), .int (nI hi)] (hp S M) (some (.int (nI 0))) (hp S M) := by
  refine r_num_is S hlo hhi hR ?_
  exact Ev_ca rfl (r_takes_n S hf h) (Ev_rt rfl rfl rfl rfl)
theorem r_signSet_n {M : mS} {f : Nat} (hf : f < 1000) (h : M_fa M = nI f) : Cl mX9_signSet [.ref 104] (hp S M) (some (.int (nI 0))) (hp S M) := by
  refine Ev_ca rfl (r_isWell_f S hf h) ?_
  exact Ev_br rfl (fun _ => Ev_rt rfl rfl rfl rfl) (fun hc => absurd nI_0 hc)
/-- the fault behind some SIGNS -/
def sgF (c : Nat → Nat) (j : Nat) : Int32 := if tK c j = 3 then nI (st c j) else kM1
theorem r_signs_loop {c : Nat → Nat} : ∀ (f i x : Nat) (M : mS) (z : Option Value), 8 ≤ f + pop x → x < 256 → TXM M → chM M = c → RA c M i → M_fa M = kM1 → ∃ a b t v, RA c (gM M a b t v (sgF c (sgs c f i x).2)) (sgs c f i x).2 ∧ ∀ S, Ev [] mX9_signSet (2, [some (.ref 104), some (.int (nI x)), z], [], hp S M) (some (.int (nI (sgs c f i x).1))) (hp S (gM M a b t v (sgF c (sgs c f i x).2)))
  | f, i, x, M, z, hf8, hx, hT, hc, hR, hf => by
    have ht : txt c := hc ▸ chM_txt hT
    have ht5 := tokM_lt (tK c i)
    have et : M_tk M = tokM (tK c i) := hR.2.2.1
    cases ho : sgO c i x with
    | none =>
      have es : sgs c f i x = (x, i) := by
        cases f with
        | zero => rfl
        | succ f =>
          show (match sgO c i x with
            | none => (x, i)
            | some v => sgs c f (i + 1) (x ||| 2 ^ v)) = (x, i)
          rw [ho]
      rw [es]
      refine ⟨M_pl M, M_nx M, M_tk M, M_vl M, hR, fun S => ?_⟩
      rw [gM_self]
      refine Ev_ca rfl (r_isWell_t S hf) ?_
      refine Ev_br rfl (fun hc => absurd hc b1z) (fun _ => ?_)
      by_cases hk : tK c i = 3
      · obtain ⟨w, hw⟩ := tV_of hk
        have h9 := (tV_some hw).2
        have ev : M_vl M = nI w := by rw [hR.2.2.2.1 hk, hw]; rfl
        have hst := st_lt ht (i := i) (by omega)
        have eg : sgF c i = nI (M_pl M) := by unfold sgF; rw [if_pos hk, hR.1]
        rw [show sgF c (x, i).2 = nI (M_pl M) from eg]
        have fin : Ev [] mX9_signSet (46, [some (.ref 104), some (.int (nI x)), z], [.ref 104], hp S M) (some (.int (nI x))) (hp S (Ms_fa M (nI (M_pl M)))) := by
          refine Ev_ca rfl (r_takes_f S hf) ?_
          refine Ev_ca rfl (r_isWell_f S (M := Ms_fa M (nI (M_pl M))) (f := M_pl M) (by rw [hR.1]; omega) rfl) ?_
          refine Ev_br rfl (fun _ => ?_) (fun q => absurd nI_0 q)
          refine Ev_jp rfl ?_
          refine Ev_ca rfl (r_isWell_f S (M := Ms_fa M (nI (M_pl M))) (f := M_pl M) (by rw [hR.1]; omega) rfl) ?_
          refine Ev_br rfl (fun _ => ?_) (fun q => absurd nI_0 q)
          refine Ev_rt rfl rfl ?_ rfl
          show some (Value.int (nI x ||| nI 0)) = _
          rw [nI_or (by omega) (by decide), Nat.or_zero]
        refine Ev_br rfl (fun q => ?_) (fun _ => ?_)
        · have q : ¬ nI (M_tk M) = nI 2 := q
          rw [et, nI_eq (by omega) (by decide), tokM_2] at q
          exact absurd hk q
        by_cases h8 : w < 8
        · have hb : bt x w = 1 := by
            rcases sgO_none ho hw with q | q
            · omega
            · exact q
          refine Ev_cae rfl (as' := [.int (nI w), .int (nI 0), .int (nI 7)]) (by rw [← ev]) (r_in_t _ (Nat.zero_le _) (show w ≤ 7 by omega) (by decide)) ?_
          refine Ev_br rfl (fun q => absurd q b1z) (fun _ => ?_)
          refine Ev_br rfl (fun _ => fin) (fun q => ?_)
          have q : ¬ ((nI x >>> (M_vl M &&& 31)) &&& nI 1) ≠ 0 := q
          rw [ev, nI_bt (by omega) (by omega), hb] at q
          exact absurd b1z q
        · refine Ev_cae rfl (as' := [.int (nI w), .int (nI 0), .int (nI 7)]) (by rw [← ev]) (r_in_f _ (Or.inr (nI_lt (by omega) (by omega)))) ?_
          exact Ev_br rfl (fun _ => fin) (fun q => absurd nI_0 q)
      · have eg : sgF c i = kM1 := if_neg hk
        rw [show sgF c (x, i).2 = kM1 from eg]
        refine Ev_br rfl (fun _ => ?_) (fun q => ?_)
        · refine Ev_rt rfl rfl rfl ?_
          rw [← hf]
          rfl
        · have q : ¬ ¬ nI (M_tk M) = nI 2 := q
          rw [et, nI_eq (by omega) (by decide), tokM_2, Decidable.not_not] at q
          exact absurd q hk
    | some w =>
      obtain ⟨h1, h2, h3⟩ := sgO_some ho
      have hk := (tV_some h1).1
      have ev : M_vl M = nI w := by rw [hR.2.2.2.1 hk, h1]; rfl
      match f, hf8 with
      | 0, hf8 =>
        have := pop_full x hx (by omega) w h2
        omega
      | f + 1, hf8 =>
        have es : sgs c (f + 1) i x = sgs c f (i + 1) (x ||| 2 ^ w) := by
          show (match sgO c i x with
            | none => (x, i)
            | some v => sgs c f (i + 1) (x ||| 2 ^ v)) = _
          rw [ho]
        have hp1 := pop_orv x hx w h2 h3
        have hpw : 2 ^ w < 256 := Nat.pow_lt_pow_right (a := 2) (by decide) (show w < 8 from h2)
        obtain ⟨a, b, t, v, q1, q2⟩ := r_takes_t hT hc hR (by omega) hf
        rw [ev] at q2
        obtain ⟨a2, b2, t2, v2, q3, q4⟩ := r_signs_loop f (i + 1) (x ||| 2 ^ w) (gM M a b t v kM1) (some (.int (nI w))) (by omega) (or256 hx h2) hT hc q1 rfl
        rw [es]
        refine ⟨a2, b2, t2, v2, q3, fun S => ?_⟩
        refine Ev_ca rfl (r_isWell_t S hf) ?_
        refine Ev_br rfl (fun hc => absurd hc b1z) (fun _ => ?_)
        refine Ev_br rfl (fun q => ?_) (fun _ => ?_)
        · have q : ¬ nI (M_tk M) = nI 2 := q
          rw [et, nI_eq (by omega) (by decide), tokM_2] at q
          exact absurd hk q
        refine Ev_cae rfl (as' := [.int (nI w), .int (nI 0), .int (nI 7)]) (by rw [← ev]) (r_in_t _ (Nat.zero_le _) (show w ≤ 7 by omega) (by decide)) ?_
        refine Ev_br rfl (fun q => absurd q b1z) (fun _ => ?_)
        refine Ev_br rfl (fun q => ?_) (fun _ => ?_)
        · have q : ((nI x >>> (M_vl M &&& 31)) &&& nI 1) ≠ 0 := q
          rw [ev, nI_bt (by omega) (by omega), h3] at q
          exact absurd nI_0 q
        refine Ev_jp rfl ?_
        refine Ev_ca rfl (q2 S) ?_
        refine Ev_ca rfl (r_isWell_t S (M := gM M a b t v kM1) rfl) ?_
        refine Ev_br rfl (fun q => absurd q b1z) (fun _ => ?_)
        refine Ev_jp rfl ?_
        refine Ev_jpe rfl ?_ (q4 S)
        rw [nI_shl1 (by omega), nI_or (by omega) (by omega)]
        all_goals rfl
theorem r_signSet_t {c : Nat → Nat} {M : mS} {i : Nat} (hT : TXM M) (hc : chM M = c) (hR : RA c M i) (hf : M_fa M = kM1) : ∃ a b t v, RA c (gM M a b t v (sgF c (sgs c 8 i 0).2)) (sgs c 8 i 0).2 ∧ ∀ S, Cl mX9_signSet [.ref 104] (hp S M) (some (.int (nI (sgs c 8 i 0).1))) (hp S (gM M a b t v (sgF c (sgs c 8 i 0).2))) := by
  obtain ⟨a, b, t, v, q1, q2⟩ := r_signs_loop 8 i 0 M none (by omega) (by decide) hT hc hR hf
  exact ⟨a, b, t, v, q1, fun S => a_run_ev 2 rfl (q2 S)⟩
end

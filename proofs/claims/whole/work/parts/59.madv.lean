/-! the reference's lexer: the next TOKEN -/
def chM (M : mS) : Nat → Nat := ch (M_ty M) (gd (M_tx M))
def TXM (M : mS) : Prop := (M_tx M).length = 300 ∧ M_ty M ≤ 300 ∧ ∀ p, gd (M_tx M) p < 256
def atM (M : mS) (s nx tk : Nat) (vl : Int32) : mS := Ms_vl (Ms_tk (Ms_pl (Ms_nx M nx) s) tk) vl
theorem chM_txt {M : mS} (h : TXM M) : txt (chM M) := by
  refine ⟨fun q => ?_, fun q hq => if_neg (by have := h.2.1; omega)⟩
  show (if q < M_ty M then gd (M_tx M) q else 256) < 257
  have := h.2.2 q
  split <;> omega
section
variable (S : cS)
theorem r_byteAt {M : mS} (h : TXM M) {p : Nat} (hp3 : p < 2 ^ 30) : Cl mX9_byteAt [.ref 104, .int (nI p)] (hp S M) (some (.int (iC (chM M p)))) (hp S M) := by
  obtain ⟨h1, h2, h3⟩ := h
  have e : chM M p = if p < M_ty M then gd (M_tx M) p else 256 := rfl
  refine Ev_br rfl (fun hc => ?_) (fun hc => ?_)
  · have hc : nI (M_ty M) ≤ nI p := hc
    rw [nI_leI (by omega) (by omega)] at hc
    rw [e, if_neg (by omega)]
    exact Ev_rt rfl rfl rfl rfl
  · have hc : ¬ nI (M_ty M) ≤ nI p := hc
    rw [nI_leI (by omega) (by omega)] at hc
    have h4 := h3 p
    rw [e, if_pos (by omega), iC_nI (by omega)]
    refine Ev_ial rfl (i := p) rfl (by omega) (by omega) ?_
    exact Ev_jp rfl (Ev_rt rfl rfl rfl rfl)
theorem r_adv_blank {v : Option Value} {h' : aH} : ∀ (d p : Nat) (M : mS), 300 - p = d → p ≤ 300 → M_nx M = p → TXM M → Ev [] mX9_advances (26, [some (.ref 104), none, none, none], [], hp S (Ms_nx M (skp (chM M) p))) v h' → Ev [] mX9_advances (0, [some (.ref 104), none, none, none], [], hp S M) v h'
  | d, p, M, e, hp3, hn, hT, kk => by
    have ht := chM_txt hT
    have hc9 := ht.1 p
    subst hn
    refine Ev_ca rfl (r_byteAt S hT (p := M_nx M) (by omega)) ?_
    refine Ev_br rfl (fun hc => ?_) (fun hc => ?_)
    · have hc : ¬ iC (chM M (M_nx M)) = nI 32 := hc
      rw [iC_eq _ hc9 32 (by decide)] at hc
      have e2 : skp (chM M) (M_nx M) = M_nx M := adv_f (decide_eq_false hc)
      rw [e2] at kk
      exact kk
    · have hc : ¬ ¬ iC (chM M (M_nx M)) = nI 32 := hc
      rw [Decidable.not_not, iC_eq _ hc9 32 (by decide)] at hc
      have hlt : M_nx M < 300 := by
        by_cases h : M_nx M < 300
        · exact h
        · have := ht.2 (M_nx M) (by omega)
          omega
      have e2 : skp (chM M) (M_nx M) = skp (chM M) (M_nx M + 1) := adv_t hlt (decide_eq_true hc)
      match d, e with
      | 0, e => omega
      | d + 1, e =>
        rw [e2] at kk
        refine a_run_ev 6 rfl ?_
        refine Ev_h (h2 := hp S (Ms_nx M (M_nx M + 1))) (by rw [nI_add]; rfl) ?_
        exact Ev_jp rfl (r_adv_blank d (M_nx M + 1) (Ms_nx M (M_nx M + 1)) (by omega) (by omega) rfl hT kk)
theorem r_adv_let {v : Option Value} {h' : aH} {s : Nat} {x1 : Int32} : ∀ (d q : Nat) (M : mS), 300 - q = d → q ≤ 300 → M_nx M = q → M_pl M = s → s ≤ q → TXM M → (∀ j, s ≤ j → j < q → lett (chM M j) = true) → Ev [] mX9_advances (130, [some (.ref 104), some (.int x1), some (.long (lN (vvW (chM M) s (adv (chM M) lett q - s)))), none], [], hp S (Ms_nx M (adv (chM M) lett q))) v h' → Ev [] mX9_advances (68, [some (.ref 104), some (.int x1), some (.long (lN (vvW (chM M) s (q - s)))), none], [], hp S M) v h'
  | d, q, M, e, hp3, hn, hpl, hsq, hT, hl, kk => by
    have ht := chM_txt hT
    have hc9 := ht.1 q
    subst hn
    refine Ev_ca rfl (r_byteAt S hT (p := M_nx M) (by omega)) ?_
    refine Ev_ca rfl (r_inL _ hc9) ?_
    cases hd : lett (chM M (M_nx M)) with
    | false =>
      rw [adv_f hd] at kk
      exact Ev_br rfl (fun _ => kk) (fun hc => absurd nI_0 hc)
    | true =>
      obtain ⟨l1, l2⟩ := lett_lt hd
      have hlt : M_nx M < 300 := by
        by_cases h : M_nx M < 300
        · exact h
        · have := ht.2 (M_nx M) (by omega)
          omega
      have e3 : nI (M_nx M) - nI (M_pl M) = nI (M_nx M - s) := by rw [hpl]; exact pk_sub hsq
      have e4 : vvW (chM M) s (M_nx M + 1 - s) = if M_nx M - s < 7 then 256 * vvW (chM M) s (M_nx M - s) + chM M (M_nx M) else 0 := by
        unfold vvW
        by_cases h7 : M_nx M - s < 7
        · rw [if_pos h7, if_pos (by omega), if_pos (by omega), show M_nx M + 1 - s = (M_nx M - s) + 1 by omega]
          show 256 * nmS (chM M) s (M_nx M - s) + chM M (s + (M_nx M - s)) = _
          rw [show s + (M_nx M - s) = M_nx M by omega]
        · rw [if_neg h7, if_neg (by omega)]
      match d, e with
      | 0, e => omega
      | d + 1, e =>
        have hl2 : ∀ j, s ≤ j → j < M_nx M + 1 → lett (chM M j) = true := fun j h1 h2 => by
          by_cases h3 : j = M_nx M
          · rw [h3]; exact hd
          · exact hl j h1 (by omega)
        rw [adv_t hlt hd] at kk
        have ih := r_adv_let (x1 := x1) d (M_nx M + 1) (Ms_nx M (M_nx M + 1)) (by omega) (by omega) rfl hpl (by omega) hT hl2 kk
        have ih : Ev [] mX9_advances (68, [some (.ref 104), some (.int x1), some (.long (lN (vvW (chM M) s (M_nx M + 1 - s)))), none], [], hp S (Ms_nx M (M_nx M + 1))) v h' := ih
        rw [e4] at ih
        refine Ev_br rfl (fun hc => absurd hc b1z) (fun _ => ?_)
        refine Ev_br rfl (fun hc => ?_) (fun hc => ?_)
        · have hc : nI 7 ≤ nI (M_nx M) - nI (M_pl M) := hc
          rw [e3, nI_leI (by decide) (by omega)] at hc
          rw [if_neg (by omega)] at ih
          refine a_run_ev 8 rfl ?_
          refine Ev_h (h2 := hp S (Ms_nx M (M_nx M + 1))) (by rw [nI_add]; rfl) ?_
          exact Ev_jp rfl ih
        · have hc : ¬ nI 7 ≤ nI (M_nx M) - nI (M_pl M) := hc
          rw [e3, nI_leI (by decide) (by omega)] at hc
          rw [if_pos (by omega)] at ih
          refine Ev_ca rfl (r_byteAt S hT (p := M_nx M) (by omega)) ?_
          rw [iC_nI (c := chM M (M_nx M)) (by omega)]
          refine Ev_ca rfl (r_add _ (by omega) (by omega)) ?_
          refine Ev_jp rfl ?_
          refine a_run_ev 7 rfl ?_
          refine Ev_h (h2 := hp S (Ms_nx M (M_nx M + 1))) (by rw [nI_add]; rfl) ?_
          exact Ev_jp rfl ih
theorem r_adv_dig {v : Option Value} {h' : aH} {s : Nat} {x1 : Int32} : ∀ (d q : Nat) (M : mS), 300 - q = d → q ≤ 300 → M_nx M = q → s ≤ q → M_vl M = nI (dvN (chM M) s (q - s)) → TXM M → (∀ j, s ≤ j → j < q → dig (chM M j) = true) → Ev [] mX9_advances (245, [some (.ref 104), some (.int x1), none, none], [], hp S (Ms_vl (Ms_nx M (adv (chM M) dig q)) (nI (dvN (chM M) s (adv (chM M) dig q - s))))) v h' → Ev [] mX9_advances (175, [some (.ref 104), some (.int x1), none, none], [], hp S M) v h'
  | d, q, M, e, hp3, hn, hsq, hvl, hT, hl, kk => by
    have ht := chM_txt hT
    have hc9 := ht.1 q
    subst hn
    refine Ev_ca rfl (r_byteAt S hT (p := M_nx M) (by omega)) ?_
    refine Ev_ca rfl (r_inD _ hc9) ?_
    cases hd : dig (chM M (M_nx M)) with
    | false =>
      rw [adv_f hd, ← hvl] at kk
      exact Ev_br rfl (fun _ => kk) (fun hc => absurd nI_0 hc)
    | true =>
      obtain ⟨l1, l2⟩ := dig_lt hd
      have hlt : M_nx M < 300 := by
        by_cases h : M_nx M < 300
        · exact h
        · have := ht.2 (M_nx M) (by omega)
          omega
      have h9 := dvN_le (c := chM M) (s := s) (M_nx M - s) (fun i hi => hl (s + i) (by omega) (by omega))
      have e4 : dvN (chM M) s (M_nx M + 1 - s) = if 99 < dvN (chM M) s (M_nx M - s) then dvN (chM M) s (M_nx M - s) else 10 * dvN (chM M) s (M_nx M - s) + chM M (M_nx M) - 48 := by
        rw [show M_nx M + 1 - s = (M_nx M - s) + 1 by omega]
        show (if 99 < dvN (chM M) s (M_nx M - s) then dvN (chM M) s (M_nx M - s) else 10 * dvN (chM M) s (M_nx M - s) + chM M (s + (M_nx M - s)) - 48) = _
        rw [show s + (M_nx M - s) = M_nx M by omega]
      match d, e with
      | 0, e => omega
      | d + 1, e =>
        have hl2 : ∀ j, s ≤ j → j < M_nx M + 1 → dig (chM M j) = true := fun j h1 h2 => by
          by_cases h3 : j = M_nx M
          · rw [h3]; exact hd
          · exact hl j h1 (by omega)
        rw [adv_t hlt hd] at kk
        have ih : ∀ y : Int32, y = nI (dvN (chM M) s (M_nx M + 1 - s)) → Ev [] mX9_advances (175, [some (.ref 104), some (.int x1), none, none], [], hp S (Ms_nx (Ms_vl M y) (M_nx M + 1))) v h' := fun y hy => r_adv_dig (x1 := x1) d (M_nx M + 1) (Ms_nx (Ms_vl M y) (M_nx M + 1)) (by omega) (by omega) rfl (by omega) hy hT hl2 kk
        refine Ev_br rfl (fun hc => absurd hc b1z) (fun _ => ?_)
        refine Ev_br rfl (fun hc => ?_) (fun hc => ?_)
        · have hc : M_vl M ≤ nI 99 := hc
          rw [hvl, nI_leI (by omega) (by decide)] at hc
          rw [if_neg (by omega)] at e4
          refine Ev_ca rfl (r_byteAt S hT (p := M_nx M) (by omega)) ?_
          rw [iC_nI (c := chM M (M_nx M)) (by omega)]
          have e5 : nI 10 * M_vl M + nI (chM M (M_nx M)) - nI 48 = nI (dvN (chM M) s (M_nx M + 1 - s)) := by
            rw [hvl, e4, pk_mul, nI_add, pk_sub (by omega)]
          refine a_run_ev 4 rfl ?_
          refine Ev_h (h2 := hp S (Ms_vl M (nI 10 * M_vl M + nI (chM M (M_nx M)) - nI 48))) rfl ?_
          refine a_run_ev 6 rfl ?_
          refine Ev_h (h2 := hp S (Ms_nx (Ms_vl M (nI 10 * M_vl M + nI (chM M (M_nx M)) - nI 48)) (M_nx M + 1))) (by rw [nI_add]; rfl) ?_
          exact Ev_jp rfl (ih _ e5)
        · have hc : ¬ M_vl M ≤ nI 99 := hc
          rw [hvl, nI_leI (by omega) (by decide)] at hc
          rw [if_pos (by omega)] at e4
          refine Ev_jp rfl ?_
          refine a_run_ev 1 rfl ?_
          refine Ev_h (h2 := hp S (Ms_vl M (M_vl M))) rfl ?_
          refine a_run_ev 6 rfl ?_
          refine Ev_h (h2 := hp S (Ms_nx (Ms_vl M (M_vl M)) (M_nx M + 1))) (by rw [nI_add]; rfl) ?_
          exact Ev_jp rfl (ih _ (by rw [e4]; exact hvl))
theorem r_adv_word {x1 : Int32} {n : Nat} (hn : n < 2 ^ 60) (M : mS) : Ev [] mX9_advances (130, [some (.ref 104), some (.int x1), some (.long (lN n)), none], [], hp S M) none (hp S (Ms_tk (Ms_vl M (woI n)) (if woI n = kM9 then 4 else 1))) := by
  refine Ev_ca rfl (r_wordOf _ hn) ?_
  refine a_run_ev 1 rfl ?_
  refine Ev_h (h2 := hp S (Ms_vl M (woI n))) rfl ?_
  refine Ev_br rfl (fun hc => ?_) (fun hc => ?_)
  · have hc : ¬ woI n = kM9 := hc
    rw [if_neg hc]
    refine a_run_ev 2 rfl ?_
    refine Ev_h (h2 := hp S (Ms_tk (Ms_vl M (woI n)) 1)) rfl ?_
    exact Ev_jp rfl (Ev_rt rfl rfl rfl rfl)
  · have hc : ¬ ¬ woI n = kM9 := hc
    rw [if_pos (Decidable.not_not.mp hc)]
    refine Ev_jp rfl ?_
    refine a_run_ev 1 rfl ?_
    refine Ev_h (h2 := hp S (Ms_tk (Ms_vl M (woI n)) 4)) rfl ?_
    exact Ev_jp rfl (Ev_rt rfl rfl rfl rfl)
theorem r_adv_num {c q e0 : Nat} {s : Nat} (M : mS) (hc9 : c < 257) (hv : M_vl M = nI q) (hq : q ≤ 999) (hn : M_nx M = e0) (hpl : M_pl M = s) (hse : s ≤ e0) (he : e0 ≤ 300) : Ev [] mX9_advances (245, [some (.ref 104), some (.int (iC c)), none, none], [], hp S M) none (hp S (Ms_tk M (if 99 < q ∨ (c = 48 ∧ 1 < e0 - s) then 4 else 2))) := by
  have e3 : nI (M_nx M) - nI (M_pl M) = nI (e0 - s) := by rw [hpl, hn]; exact pk_sub hse
  have t4 : Ev [] mX9_advances (274, [some (.ref 104), some (.int (iC c)), none, none], [.ref 104], hp S M) none (hp S (Ms_tk M 4)) := by
    refine Ev_jp rfl ?_
    refine a_run_ev 1 rfl ?_
    refine Ev_h (h2 := hp S (Ms_tk M 4)) rfl ?_
    exact Ev_jp rfl (Ev_rt rfl rfl rfl rfl)
  have t2 : Ev [] mX9_advances (278, [some (.ref 104), some (.int (iC c)), none, none], [.ref 104], hp S M) none (hp S (Ms_tk M 2)) := by
    refine a_run_ev 2 rfl ?_
    refine Ev_h (h2 := hp S (Ms_tk M 2)) rfl ?_
    exact Ev_jp rfl (Ev_rt rfl rfl rfl rfl)
  refine Ev_br rfl (fun h1 => ?_) (fun h1 => ?_)
  · have h1 : nI 99 < M_vl M := h1
    rw [hv, nI_ltI (by decide) (by omega)] at h1
    rw [if_pos (Or.inl h1)]
    exact t4
  · have h1 : ¬ nI 99 < M_vl M := h1
    rw [hv, nI_ltI (by decide) (by omega)] at h1
    refine Ev_br rfl (fun h2 => ?_) (fun h2 => ?_)
    · have h2 : ¬ iC c = nI 48 := h2
      rw [iC_eq _ hc9 48 (by decide)] at h2
      rw [if_neg (fun w => by omega)]
      exact t2
    · have h2 : ¬ ¬ iC c = nI 48 := h2
      rw [Decidable.not_not, iC_eq _ hc9 48 (by decide)] at h2
      refine Ev_br rfl (fun h3 => ?_) (fun h3 => ?_)
      · have h3 : nI (M_nx M) - nI (M_pl M) ≤ nI 1 := h3
        rw [e3, nI_leI (by omega) (by decide)] at h3
        rw [if_neg (fun w => by omega)]
        exact t2
      · have h3 : ¬ nI (M_nx M) - nI (M_pl M) ≤ nI 1 := h3
        rw [e3, nI_leI (by omega) (by decide)] at h3
        rw [if_pos (Or.inr ⟨h2, by omega⟩)]
        exact t4
end

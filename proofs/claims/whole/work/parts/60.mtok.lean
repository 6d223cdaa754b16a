/-! the reference's lexer: TOKENS, one after the other -/
theorem kiF_word {c : Nat → Nat} {s : Nat} (hl : lett (c s) = true) : (kiF c s (lexE c s) = 1 ∧ woI (vvW c s (lexE c s - s)) = kM9) ∨ (4 ≤ kiF c s (lexE c s) ∧ woI (vvW c s (lexE c s - s)) = nI (kiF c s (lexE c s) - 4)) := by
  obtain ⟨l1, l2⟩ := lett_lt hl
  have hd : dig (c s) = false := by
    cases h : dig (c s) with
    | false => rfl
    | true => have := dig_lt h; omega
  have hw := fun o (ho : o < 4) => word_iff (c := c) (s := s) (e := lexE c s) ho (lexE_gt c s) (fun q h1 h2 => lexE_let hl h1 h2)
  unfold kiF
  rw [if_neg (by omega), if_neg (by omega), hd, if_neg (by decide)]
  unfold woI
  by_cases h0 : isW c s (lexE c s) 0 = true
  · rw [if_pos h0, if_pos ((hw 0 (by decide)).mpr h0)]
    exact Or.inr ⟨by decide, rfl⟩
  rw [if_neg h0, if_neg (fun q => h0 ((hw 0 (by decide)).mp q))]
  by_cases h1 : isW c s (lexE c s) 1 = true
  · rw [if_pos h1, if_pos ((hw 1 (by decide)).mpr h1)]
    exact Or.inr ⟨by decide, rfl⟩
  rw [if_neg h1, if_neg (fun q => h1 ((hw 1 (by decide)).mp q))]
  by_cases h2 : isW c s (lexE c s) 2 = true
  · rw [if_pos h2, if_pos ((hw 2 (by decide)).mpr h2)]
    exact Or.inr ⟨by decide, rfl⟩
  rw [if_neg h2, if_neg (fun q => h2 ((hw 2 (by decide)).mp q))]
  by_cases h3 : isW c s (lexE c s) 3 = true
  · rw [if_pos h3, if_pos ((hw 3 (by decide)).mpr h3)]
    exact Or.inr ⟨by decide, rfl⟩
  rw [if_neg h3, if_neg (fun q => h3 ((hw 3 (by decide)).mp q))]
  exact Or.inl ⟨rfl, rfl⟩
theorem kiF_oth {c : Nat → Nat} {s : Nat} (hl : lett (c s) = false) (hd : dig (c s) = false) (h6 : c s ≠ 256) : lexE c s = s + 1 ∧ kiF c s (lexE c s) = if c s = 59 then 2 else 1 := by
  have e : lexE c s = s + 1 := by
    unfold lexE
    rw [hl, if_neg (by decide), hd, if_neg (by decide)]
  refine ⟨e, ?_⟩
  have hw : ∀ o, o < 4 → isW c s (s + 1) o = false := fun o ho => by
    unfold isW
    have : ∀ o, o < 4 → ¬ 1 = (wd o).length := by decide
    rw [decide_eq_false (by have := this o ho; omega), Bool.false_and]
  rw [e]
  unfold kiF
  rw [if_neg h6]
  by_cases h59 : c s = 59
  · rw [if_pos h59, if_pos h59]
  · rw [if_neg h59, if_neg h59, hd, if_neg (by decide), hw 0 (by decide), if_neg (by decide), hw 1 (by decide), if_neg (by decide), hw 2 (by decide), if_neg (by decide), hw 3 (by decide), if_neg (by decide)]
theorem kiF_num {c : Nat → Nat} {s : Nat} (hd : dig (c s) = true) : kiF c s (lexE c s) = if (numV c s (lexE c s)).isSome = true then 3 else 1 := by
  obtain ⟨l1, l2⟩ := dig_lt hd
  unfold kiF
  rw [if_neg (by omega), if_neg (by omega), hd, if_pos rfl]
section
variable (S : cS)
theorem r_advances {M : mS} (hT : TXM M) (h3 : M_nx M ≤ 300) : ∃ vl : Int32, (kiF (chM M) (skp (chM M) (M_nx M)) (lexE (chM M) (skp (chM M) (M_nx M))) = 3 → vl = nIo (numV (chM M) (skp (chM M) (M_nx M)) (lexE (chM M) (skp (chM M) (M_nx M))))) ∧ (4 ≤ kiF (chM M) (skp (chM M) (M_nx M)) (lexE (chM M) (skp (chM M) (M_nx M))) → vl = nI (kiF (chM M) (skp (chM M) (M_nx M)) (lexE (chM M) (skp (chM M) (M_nx M))) - 4)) ∧ ∀ S, Cl mX9_advances [.ref 104] (hp S M) none (hp S (atM M (skp (chM M) (M_nx M)) (if kiF (chM M) (skp (chM M) (M_nx M)) (lexE (chM M) (skp (chM M) (M_nx M))) = 0 then skp (chM M) (M_nx M) else lexE (chM M) (skp (chM M) (M_nx M))) (tokM (kiF (chM M) (skp (chM M) (M_nx M)) (lexE (chM M) (skp (chM M) (M_nx M))))) vl)) := by
  have ht := chM_txt hT
  have hs3 := skp_le (c := chM M) h3
  have pre : ∀ (S : cS) {v : Option Value} {h' : aH}, Ev [] mX9_advances (43, [some (.ref 104), some (.int (iC (chM M (skp (chM M) (M_nx M))))), none, none], [], hp S (Ms_pl (Ms_nx M (skp (chM M) (M_nx M))) (skp (chM M) (M_nx M)))) v h' → Cl mX9_advances [.ref 104] (hp S M) v h' := by
    intro S v h' kk
    refine r_adv_blank S (300 - M_nx M) (M_nx M) M rfl h3 rfl hT ?_
    generalize skp (chM M) (M_nx M) = s at kk hs3 ⊢
    refine a_run_ev 4 rfl ?_
    refine Ev_h (h2 := hp S (Ms_pl (Ms_nx M s) s)) rfl ?_
    refine Ev_ca rfl (r_byteAt S (M := Ms_pl (Ms_nx M s) s) hT (p := s) (by omega)) ?_
    exact a_run_ev 1 rfl kk
  generalize skp (chM M) (M_nx M) = s at pre hs3 ⊢
  have hc9 := ht.1 s
  by_cases h6 : chM M s = 256
  · have k0 : kiF (chM M) s (lexE (chM M) s) = 0 := if_pos h6
    rw [k0]
    refine ⟨M_vl M, (fun q => by cases q), fun q => by omega, ?_⟩
    intro S
    refine pre S ?_
    refine Ev_br rfl (fun q => ?_) (fun _ => ?_)
    · have q : ¬ iC (chM M s) < 0 := Int32.not_lt.mpr q
      exact absurd ((iC_neg _ hc9).mpr h6) q
    · refine a_run_ev 3 rfl ?_
      refine Ev_h (h2 := hp S (Ms_tk (Ms_pl (Ms_nx M s) s) 0)) rfl ?_
      exact Ev_jp rfl (Ev_rt rfl rfl rfl rfl)
  have hs2 : s < 300 := by
    by_cases h : s < 300
    · exact h
    · exact absurd (ht.2 s (by omega)) h6
  have hk0 : ¬ kiF (chM M) s (lexE (chM M) s) = 0 := by
    unfold kiF
    rw [if_neg h6]
    repeat' split
    all_goals decide
  rw [if_neg hk0]
  have pre2 : ∀ (S : cS) {v : Option Value} {h' : aH}, Ev [] mX9_advances (63, [some (.ref 104), some (.int (iC (chM M s))), none, none], [.int (nI (lett (chM M s)).toNat)], hp S (Ms_pl (Ms_nx M s) s)) v h' → Cl mX9_advances [.ref 104] (hp S M) v h' := by
    intro S v h' kk
    refine pre S ?_
    refine Ev_br rfl (fun _ => ?_) (fun q => ?_)
    · exact Ev_ca rfl (r_inL _ hc9) kk
    · have q : iC (chM M s) < 0 := Int32.not_le.mp q
      exact absurd ((iC_neg _ hc9).mp q) h6
  cases hl : lett (chM M s) with
  | true =>
    have e1 : lexE (chM M) s = adv (chM M) lett s := by
      unfold lexE
      rw [hl, if_pos rfl, adv_t hs2 hl]
    have he3 := lexE_le (chM M) hs2
    have hn : vvW (chM M) s (lexE (chM M) s - s) < 2 ^ 60 := by
      unfold vvW
      split
      · rename_i h7
        have a1 := nmS_lt (c := chM M) (s := s) (lexE (chM M) s - s) (fun i hi => by have := lett_lt (lexE_let hl (q := s + i) (by omega) (by omega)); omega)
        have a2 := Nat.pow_le_pow_right (n := 256) (by decide) h7
        have a3 : 256 ^ 7 < 2 ^ 60 := by decide
        omega
      · decide
    have hw := kiF_word hl
    have go : ∀ S, Cl mX9_advances [.ref 104] (hp S M) none (hp S (atM M s (lexE (chM M) s) (if woI (vvW (chM M) s (lexE (chM M) s - s)) = kM9 then 4 else 1) (woI (vvW (chM M) s (lexE (chM M) s - s))))) := by
      intro S
      refine pre2 S ?_
      rw [hl]
      refine Ev_br rfl (fun q => absurd q b1z) (fun _ => ?_)
      refine a_run_ev 2 rfl ?_
      have kk := r_adv_word S (x1 := iC (chM M s)) hn (Ms_nx (Ms_pl (Ms_nx M s) s) (lexE (chM M) s))
      rw [e1] at kk ⊢
      have k2 := r_adv_let S (x1 := iC (chM M s)) (s := s) (300 - s) s (Ms_pl (Ms_nx M s) s) rfl hs3 rfl rfl (Nat.le_refl s) hT (fun j h1 h2 => by omega) kk
      have e0 : vvW (chM (Ms_pl (Ms_nx M s) s)) s (s - s) = 0 := by rw [Nat.sub_self]; rfl
      rw [e0] at k2
      exact k2
    rcases hw with ⟨h1, h2⟩ | ⟨h1, h2⟩
    · rw [h2, if_pos rfl] at go
      rw [h1]
      exact ⟨kM9, (fun q => by cases q), fun q => by omega, go⟩
    · have hk8 := kiF_lt (chM M) s (lexE (chM M) s)
      have hne : ¬ nI (kiF (chM M) s (lexE (chM M) s) - 4) = kM9 := fun q => kM9_ne _ (by omega) q
      rw [h2, if_neg hne] at go
      have etk : tokM (kiF (chM M) s (lexE (chM M) s)) = 1 := by
        unfold tokM
        rw [if_neg (by omega), if_neg (by omega), if_neg (by omega), if_neg (by omega)]
      rw [etk]
      exact ⟨_, fun q => by omega, fun _ => rfl, go⟩
  | false =>
    have pre3 : ∀ (S : cS) {v : Option Value} {h' : aH}, Ev [] mX9_advances (167, [some (.ref 104), some (.int (iC (chM M s))), none, none], [.int (nI (dig (chM M s)).toNat)], hp S (Ms_pl (Ms_nx M s) s)) v h' → Cl mX9_advances [.ref 104] (hp S M) v h' := by
      intro S v h' kk
      refine pre2 S ?_
      rw [hl]
      refine Ev_br rfl (fun _ => ?_) (fun q => absurd nI_0 q)
      exact Ev_ca rfl (r_inD _ hc9) kk
    cases hd : dig (chM M s) with
    | true =>
      have e1 : lexE (chM M) s = adv (chM M) dig s := by
        unfold lexE
        rw [hl, if_neg (by decide), hd, if_pos rfl, adv_t hs2 hd]
      have hgt := lexE_gt (chM M) s
      have he3 := lexE_le (chM M) hs2
      have hdd : ∀ q, s ≤ q → q < lexE (chM M) s → dig (chM M q) = true := fun q h1 h2 => lexE_dig hd h1 h2
      obtain ⟨n1, n2⟩ := num_iff (c := chM M) hgt hdd
      have h9 := dvN_le (c := chM M) (s := s) (lexE (chM M) s - s) (fun i hi => hdd (s + i) (by omega) (by omega))
      have hk := kiF_num (c := chM M) hd
      have go : ∀ S, Cl mX9_advances [.ref 104] (hp S M) none (hp S (atM M s (lexE (chM M) s) (if 99 < dvN (chM M) s (lexE (chM M) s - s) ∨ (chM M s = 48 ∧ 1 < lexE (chM M) s - s) then 4 else 2) (nI (dvN (chM M) s (lexE (chM M) s - s))))) := by
        intro S
        refine pre3 S ?_
        rw [hd]
        refine Ev_br rfl (fun q => absurd q b1z) (fun _ => ?_)
        refine a_run_ev 3 rfl ?_
        refine Ev_h (h2 := hp S (Ms_vl (Ms_pl (Ms_nx M s) s) (nI 0))) rfl ?_
        have kk := r_adv_num S (c := chM M s) (q := dvN (chM M) s (lexE (chM M) s - s)) (e0 := lexE (chM M) s) (s := s) (Ms_vl (Ms_nx (Ms_vl (Ms_pl (Ms_nx M s) s) (nI 0)) (lexE (chM M) s)) (nI (dvN (chM M) s (lexE (chM M) s - s)))) hc9 rfl h9 rfl rfl (by omega) he3
        rw [e1] at kk ⊢
        exact r_adv_dig S (x1 := iC (chM M s)) (s := s) (300 - s) s (Ms_vl (Ms_pl (Ms_nx M s) s) (nI 0)) rfl hs3 rfl (Nat.le_refl s) (by rw [Nat.sub_self]; rfl) hT (fun j h1 h2 => by omega) kk
      cases hv : numV (chM M) s (lexE (chM M) s) with
      | none =>
        rw [if_pos (n1.mpr hv)] at go
        rw [hv, if_neg (by decide)] at hk
        rw [hk]
        exact ⟨_, (fun q => by cases q), fun q => by omega, go⟩
      | some w =>
        rw [if_neg (fun q => by have := n1.mp q; rw [hv] at this; cases this), n2 w hv] at go
        rw [hv, if_pos (show (some w).isSome = true from rfl)] at hk
        rw [hk]
        exact ⟨nI w, fun _ => rfl, fun q => by omega, go⟩
    | false =>
      obtain ⟨e1, hk⟩ := kiF_oth (c := chM M) hl hd h6
      have go : ∀ tk, tk = (if chM M s = 59 then 3 else 4) → ∀ S, Cl mX9_advances [.ref 104] (hp S M) none (hp S (atM M s (s + 1) tk (M_vl M))) := by
        intro tk htk S
        refine pre3 S ?_
        rw [hd]
        refine Ev_br rfl (fun _ => ?_) (fun q => absurd nI_0 q)
        refine a_run_ev 6 rfl ?_
        refine Ev_h (h2 := hp S (Ms_nx (Ms_pl (Ms_nx M s) s) (s + 1))) (by rw [nI_add]; rfl) ?_
        refine Ev_br rfl (fun q => ?_) (fun q => ?_)
        · have q : ¬ iC (chM M s) = nI 59 := q
          rw [iC_eq _ hc9 59 (by decide)] at q
          rw [if_neg q] at htk
          subst htk
          refine a_run_ev 2 rfl ?_
          refine Ev_h (h2 := hp S (Ms_tk (Ms_nx (Ms_pl (Ms_nx M s) s) (s + 1)) 4)) rfl ?_
          exact Ev_rt rfl rfl rfl rfl
        · have q : ¬ ¬ iC (chM M s) = nI 59 := q
          rw [Decidable.not_not, iC_eq _ hc9 59 (by decide)] at q
          rw [if_pos q] at htk
          subst htk
          refine Ev_jp rfl ?_
          refine a_run_ev 1 rfl ?_
          refine Ev_h (h2 := hp S (Ms_tk (Ms_nx (Ms_pl (Ms_nx M s) s) (s + 1)) 3)) rfl ?_
          exact Ev_rt rfl rfl rfl rfl
      rw [e1] at hk ⊢
      rw [hk]
      refine ⟨M_vl M, fun q => ?_, fun q => ?_, go _ ?_⟩
      · split at q <;> cases q
      · split at q <;> omega
      · by_cases h59 : chM M s = 59
        · rw [if_pos h59, if_pos h59]; rfl
        · rw [if_neg h59, if_neg h59]; rfl
/-- the reference stands at the i-th TOKEN -/
def RA (c : Nat → Nat) (M : mS) (i : Nat) : Prop := M_pl M = st c i ∧ M_nx M = (if tK c i = 0 then st c i else lexE c (st c i)) ∧ M_tk M = tokM (tK c i) ∧ (tK c i = 3 → M_vl M = nIo (tV c i)) ∧ (4 ≤ tK c i → M_vl M = nI (tK c i - 4))
def gM (M : mS) (a b t : Nat) (v f : Int32) : mS := Ms_fa (atM M a b t v) f
theorem r_adv_RA {c : Nat → Nat} {M : mS} {i : Nat} (hT : TXM M) (hc : chM M = c) (h3 : M_nx M ≤ 300) (hs : skp c (M_nx M) = st c i) : ∃ a b t v, RA c (atM M a b t v) i ∧ ∀ S, Cl mX9_advances [.ref 104] (hp S M) none (hp S (atM M a b t v)) := by
  subst hc
  obtain ⟨vl, q1, q2, q3⟩ := r_advances hT h3
  rw [hs] at q1 q2 q3
  refine ⟨_, _, _, vl, ⟨rfl, rfl, rfl, fun hk => ?_, q2⟩, q3⟩
  have e : tV (chM M) i = numV (chM M) (st (chM M) i) (lexE (chM M) (st (chM M) i)) := if_pos hk
  rw [e]
  exact q1 hk
theorem r_adv_next {c : Nat → Nat} {M : mS} {i : Nat} (hT : TXM M) (hc : chM M = c) (hR : RA c M i) (hk : 2 ≤ tK c i) : ∃ a b t v, RA c (atM M a b t v) (i + 1) ∧ ∀ S, Cl mX9_advances [.ref 104] (hp S M) none (hp S (atM M a b t v)) := by
  have ht : txt c := hc ▸ chM_txt hT
  have hst := st_lt ht (i := i) (by omega)
  have hle := lexE_le c hst
  have hn : M_nx M = lexE c (st c i) := by rw [hR.2.1, if_neg (by omega)]
  refine r_adv_RA hT hc (by omega) ?_
  rw [hn]
  rfl
theorem r_isWell_t {M : mS} (h : M_fa M = kM1) : Cl mX9_isWell [.ref 104] (hp S M) (some (.int (nI 1))) (hp S M) := by
  refine Ev_br rfl (fun hc => ?_) (fun _ => Ev_jp rfl (Ev_rt rfl rfl rfl rfl))
  have hc : M_fa M ≥ 0 := hc
  rw [h] at hc
  exact absurd hc (by decide)
theorem r_isWell_f {M : mS} {f : Nat} (hf : f < 1000) (h : M_fa M = nI f) : Cl mX9_isWell [.ref 104] (hp S M) (some (.int (nI 0))) (hp S M) := by
  refine Ev_br rfl (fun _ => Ev_rt rfl rfl rfl rfl) (fun hc => ?_)
  have hc : ¬ 0 ≤ M_fa M := hc
  rw [h] at hc
  exact absurd (nI_le (Nat.zero_le f) (by omega)) hc
theorem r_takes_n {M : mS} {f : Nat} {b : Int32} (hf : f < 1000) (h : M_fa M = nI f) : Cl mX9_takes [.ref 104, .int b] (hp S M) (some (.int (nI 0))) (hp S M) := by
  refine Ev_ca rfl (r_isWell_f S hf h) ?_
  exact Ev_br rfl (fun hc => absurd nI_0 hc) (fun _ => Ev_rt rfl rfl rfl rfl)
theorem r_takes_f {M : mS} (h : M_fa M = kM1) : Cl mX9_takes [.ref 104, .int (nI 0)] (hp S M) (some (.int (nI 0))) (hp S (Ms_fa M (nI (M_pl M)))) := by
  refine Ev_ca rfl (r_isWell_t S h) ?_
  refine Ev_br rfl (fun _ => ?_) (fun hc => absurd b1z hc)
  refine Ev_br rfl (fun hc => absurd nI_0 hc) (fun _ => ?_)
  refine a_run_ev 4 rfl ?_
  refine Ev_h (h2 := hp S (Ms_fa M (nI (M_pl M)))) rfl ?_
  exact Ev_rt rfl rfl rfl rfl
theorem r_takes_t {c : Nat → Nat} {M : mS} {i : Nat} (hT : TXM M) (hc : chM M = c) (hR : RA c M i) (hk : 2 ≤ tK c i) (h : M_fa M = kM1) : ∃ a b t v, RA c (gM M a b t v kM1) (i + 1) ∧ ∀ S, Cl mX9_takes [.ref 104, .int (nI 1)] (hp S M) (some (.int (M_vl M))) (hp S (gM M a b t v kM1)) := by
  obtain ⟨a, b, t, v, q1, q2⟩ := r_adv_next hT hc hR hk
  refine ⟨a, b, t, v, q1, fun S => ?_⟩
  refine Ev_ca rfl (r_isWell_t S h) ?_
  refine Ev_br rfl (fun _ => ?_) (fun hc => absurd b1z hc)
  refine Ev_br rfl (fun _ => ?_) (fun hc => absurd b1z hc)
  refine Ev_ca rfl (q2 S) ?_
  refine Ev_rt rfl rfl rfl ?_
  unfold gM
  rw [← h]
  rfl
end

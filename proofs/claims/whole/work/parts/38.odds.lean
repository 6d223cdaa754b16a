/-! the class's odds -/
section
variable (S : cS) (T : aH)
theorem cC_odds_bad {x y z : Int32} (hx : x < 0 ∨ nI (ho_K (C_to S)) ≤ x) : Cl mX8_odds [.ref 0, .int x, .int y, .int z] (hpC S ++ T) (some (.long (a_kl (-1)))) (hpC S ++ T) := by
  refine Ev_ca rfl (c_isKnocker_f S T hx) ?_
  exact Ev_br rfl (fun _ => Ev_rt rfl rfl rfl rfl) (fun hc => absurd nI_0 hc)
theorem cC_odds_bad2 {k : Nat} {y z : Int32} (hk : k < ho_K (C_to S)) (hK : ho_K (C_to S) ≤ 5) (hy : y < 0 ∨ nI 10 < y) : Cl mX8_odds [.ref 0, .int (nI k), .int y, .int z] (hpC S ++ T) (some (.long (a_kl (-1)))) (hpC S ++ T) := by
  refine Ev_ca rfl (c_isKnocker_t S T hk hK) ?_
  refine Ev_br rfl (fun hc => absurd hc b1z) (fun _ => ?_)
  refine Ev_br rfl (fun _ => Ev_rt rfl rfl rfl rfl) (fun h1 => ?_)
  refine Ev_br rfl (fun _ => Ev_rt rfl rfl rfl rfl) (fun h2 => ?_)
  exact absurd hy (fun q => q.elim h1 h2)
theorem cC_odds_bad3 {k p : Nat} {z : Int32} (hk : k < ho_K (C_to S)) (hK : ho_K (C_to S) ≤ 5) (hp : p ≤ 10) (h0 : ¬ z = nI 0) (h1 : ¬ z = nI 1) : Cl mX8_odds [.ref 0, .int (nI k), .int (nI p), .int z] (hpC S ++ T) (some (.long (a_kl (-1)))) (hpC S ++ T) := by
  refine Ev_ca rfl (c_isKnocker_t S T hk hK) ?_
  refine Ev_br rfl (fun hc => absurd hc b1z) (fun _ => ?_)
  refine Ev_br rfl (fun hc => absurd hc (nI_pos (by omega))) (fun _ => ?_)
  refine Ev_br rfl (fun hc => absurd hc (nI_nlt hp (by decide))) (fun _ => ?_)
  refine Ev_ca rfl (c_isBit_f _ h0 h1) ?_
  exact Ev_br rfl (fun hc => absurd nI_0 hc) (fun _ => Ev_rt rfl rfl rfl rfl)
/-- the fraction's upper or lower number -/
def odV (up low w : Nat) : Nat := if w = 0 then up / eu 100 up low else low / eu 100 up low
theorem cC_odds_loop {k p w s : Nat} (hp : p ≤ 10) (hw : w < 2) (hs : s < 256) (hL : MoL (C_nw S)) (hB : MoB (C_nw S)) (hU : ho_U (C_to S) ≤ 4) : ∀ (d n : Nat) (z : Option Value), n + d = 256 → Ev [] mX8_odds (49, [some (.ref 0), some (.int (nI k)), some (.int (nI p)), some (.int (nI w)), some (.int (nI s)), some (.int (nI (pop s))), some (.long (lN (od (leC S) s p n))), none, some (.int (nI n)), z, none, none], [], hpC S ++ T) (some (.long (lN (odV (od (leC S) s p 256) (10 ^ pop s) w)))) (hpC S ++ T)
  | 0, n, z, e => by
    have e : n = 256 := by omega
    subst e
    have hps := pop_le s
    have hup : od (leC S) s p 256 ≤ 256 * 100000000 := od_le hp hs 256 (Nat.le_refl _)
    have hlow : 10 ^ pop s ≤ 10 ^ 8 := Nat.pow_le_pow_right (by decide) hps
    have hlow0 : 0 < 10 ^ pop s := Nat.pow_pos (by decide)
    generalize hlw : 10 ^ pop s = low at hlow hlow0 ⊢
    generalize od (leC S) s p 256 = up at hup ⊢
    have hg0 : 0 < eu 100 up low := eu_pos2 99 up low hlow0
    have hg1 : eu 100 up low ≤ 256 * 100000000 := eu_le 100 up low _ hup (by omega)
    refine Ev_br rfl (fun _ => ?_) (fun hc => absurd (nI_lt (show 255 < 256 by decide) (by decide)) hc)
    refine Ev_ca rfl (c_power _ (by decide) (by omega)) ?_
    rw [hlw]
    refine Ev_ca rfl (c_cd _ (by omega) (by omega)) ?_
    refine Ev_ck rfl rfl ?_
    rw [if_neg (by
      intro q
      have q2 : lN (eu 100 up low) < lN 1 := q
      rw [pk_lLT (by omega) (by decide)] at q2
      omega)]
    have hne : ¬ lN (eu 100 up low) = 0 := fun q => by
      have := (pk_lEQ (b := 0) (by omega) (by decide)).mp q
      omega
    match w, hw with
    | 0, _ =>
      refine Ev_br rfl (fun hc => absurd nI_0 hc) (fun _ => ?_)
      refine Ev_ck rfl (decide_eq_true hne) ?_
      rw [pk_lDiv (by omega) hg0 (by omega)]
      exact Ev_jp rfl (Ev_rt rfl rfl rfl rfl)
    | 1, _ =>
      refine Ev_br rfl (fun _ => ?_) (fun hc => absurd b1z hc)
      refine Ev_ck rfl (decide_eq_true hne) ?_
      rw [pk_lDiv (by omega) hg0 (by omega)]
      exact Ev_rt rfl rfl rfl rfl
  | d + 1, n, z, e => by
    have hle : n &&& (255 ^^^ s) ≤ n := Nat.and_le_left
    have hod : od (leC S) s p (n + 1) = od (leC S) s p n + if n &&& (255 ^^^ s) = 0 ∧ leC S n = true then (10 - p) ^ pop n * p ^ (pop s - pop n) else 0 := rfl
    refine Ev_br rfl (fun hc => absurd hc (nI_nlt (show n ≤ 255 by omega) (by decide))) (fun _ => ?_)
    have hand := andN n (by omega) s hs
    refine Ev_br rfl (fun hc => ?_) (fun hc => ?_)
    · have hc : (nI n &&& (nI s ^^^ kM1)) ≠ 0 := hc
      rw [hand] at hc
      refine Ev_jpe rfl ?_ (cC_odds_loop (k := k) hp hw hs hL hB hU d (n + 1) z (by omega))
      rw [nI_add, hod, if_neg (fun q => hc (by rw [q.1]; exact nI_0))]
      rfl
    · have hc : ¬ (nI n &&& (nI s ^^^ kM1)) ≠ 0 := hc
      rw [hand, ← nI_0, Decidable.not_not, nI_eq (by omega) (by decide)] at hc
      refine Ev_ca rfl (c_isLetIn S T hL hB (show n < 256 by omega) hU) ?_
      cases hl : leC S n with
      | false =>
        refine Ev_br rfl (fun q => absurd nI_0 q) (fun _ => ?_)
        refine Ev_jp rfl ?_
        refine Ev_jpe rfl ?_ (cC_odds_loop (k := k) hp hw hs hL hB hU d (n + 1) z (by omega))
        rw [nI_add, hod, hl, if_neg (fun q => by cases q.2), Nat.add_zero]
        rfl
      | true =>
        have h1 := pop_sub n (by omega) s hs hc
        have h2 := pop_le s
        refine Ev_br rfl (fun _ => ?_) (fun q => absurd b1z q)
        refine Ev_ca rfl (c_bitCount _ (show n < 256 by omega)) ?_
        refine Ev_cae rfl (as' := [.int (nI (10 - p)), .int (nI (pop n))]) ?_ (c_power _ (by omega) (by omega)) ?_
        · rw [← pk_sub hp]
        refine Ev_cae rfl (as' := [.int (nI p), .int (nI (pop s - pop n))]) ?_ (c_power _ (by omega) (by omega)) ?_
        · rw [← pk_sub h1]
        refine Ev_jpe rfl ?_ (cC_odds_loop (k := k) hp hw hs hL hB hU d (n + 1) (some (.int (nI (pop n)))) (by omega))
        rw [nI_add, hod, hl, if_pos ⟨hc, rfl⟩, ← lN_add, ← lN_mul]
        rfl
theorem cC_odds {k p w : Nat} (hk : k < ho_K (C_to S)) (hK : ho_K (C_to S) ≤ 5) (hp : p ≤ 10) (hw : w < 2) (hL : MoL (C_nw S)) (hB : MoB (C_nw S)) (hU : ho_U (C_to S) ≤ 4) : Cl mX8_odds [.ref 0, .int (nI k), .int (nI p), .int (nI w)] (hpC S ++ T) (some (.long (lN (odV (od (leC S) (sgC S k) p 256) (10 ^ pop (sgC S k)) w)))) (hpC S ++ T) := by
  refine Ev_ca rfl (c_isKnocker_t S T hk hK) ?_
  refine Ev_br rfl (fun hc => absurd hc b1z) (fun _ => ?_)
  refine Ev_br rfl (fun hc => absurd hc (nI_pos (by omega))) (fun _ => ?_)
  refine Ev_br rfl (fun hc => absurd hc (nI_nlt hp (by decide))) (fun _ => ?_)
  refine Ev_ca rfl (c_isBit_t _ hw) ?_
  refine Ev_br rfl (fun _ => ?_) (fun hc => absurd b1z hc)
  refine Ev_ca rfl (c_signsOf S T hL (by omega)) ?_
  refine Ev_ca rfl (c_bitCount _ (hB.1 k)) ?_
  refine a_run_ev 5 rfl ?_
  exact cC_odds_loop S T (k := k) hp hw (hB.1 k) hL hB hU 256 0 none (by omega)
end

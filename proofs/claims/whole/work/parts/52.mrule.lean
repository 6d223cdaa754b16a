/-! the reference's mostOf, ruleBy, ruleTold, ask, safe -/
/-- the most of the set by the runs up to r -/
def ms (got : Nat → Option Nat) (x set : Nat) : Nat → Nat
  | 0 => pop (x &&& set)
  | r + 1 => match got (r + 1) with
    | none => ms got x set r
    | some y => max (ms got x set r) (pop (y &&& set))
theorem ms_le (got : Nat → Option Nat) (x set : Nat) : ∀ r, ms got x set r ≤ 8
  | 0 => pop_le _
  | r + 1 => by
    have ih := ms_le got x set r
    unfold ms
    split
    · exact ih
    · have := pop_le
      exact Nat.max_le.mpr ⟨ih, pop_le _⟩
def lst (r : Nat → Nat) (nn : Nat → Nat) (p : Nat) : Nat → Nat
  | 0 => p
  | k + 1 => if r k = 1 ∧ nn k < lst r nn p k then nn k else lst r nn p k
def mst (r : Nat → Nat) (nn : Nat → Nat) : Nat → Nat
  | 0 => 0
  | k + 1 => if r k = 0 ∧ mst r nn k < nn k then nn k else mst r nn k
theorem lst_le {r nn : Nat → Nat} {p : Nat} (hp8 : p ≤ 8) (h : ∀ k, nn k ≤ 8) : ∀ k, lst r nn p k ≤ 8
  | 0 => hp8
  | k + 1 => by
    have := lst_le (r := r) hp8 h k
    have h2 := h k
    unfold lst
    split <;> omega
theorem mst_le {r nn : Nat → Nat} (h : ∀ k, nn k ≤ 8) : ∀ k, mst r nn k ≤ 8
  | 0 => Nat.zero_le _
  | k + 1 => by
    have := mst_le (r := r) h k
    have h2 := h k
    unfold mst
    split <;> omega
/-- better than the best as yet -/
def beB (B : Option (Nat × Nat)) (set : Nat) : Bool := match B with
  | none => true
  | some b => decide (pop set < pop b.1)
/-- the best RULE of the sets up to n -/
def rb (K : Nat) (r : Nat → Nat) (nn : Nat → Nat → Nat) : Nat → Option (Nat × Nat)
  | 0 => none
  | n + 1 => if beB (rb K r nn n) (n + 1) = true ∧ mst r (nn (n + 1)) K < lst r (nn (n + 1)) (pop (n + 1)) K then some (n + 1, mst r (nn (n + 1)) K + 1) else rb K r nn n
theorem rb_ok {K : Nat} {r : Nat → Nat} {nn : Nat → Nat → Nat} (h : ∀ s k, nn s k ≤ 8) {b : Nat × Nat} : ∀ n, rb K r nn n = some b → b.1 ≤ n ∧ b.2 ≤ 9
  | 0, q => by cases q
  | n + 1, q => by
    have q : (if beB (rb K r nn n) (n + 1) = true ∧ mst r (nn (n + 1)) K < lst r (nn (n + 1)) (pop (n + 1)) K then some (n + 1, mst r (nn (n + 1)) K + 1) else rb K r nn n) = some b := q
    split at q
    · cases q
      have := mst_le (r := r) (h (n + 1)) K
      exact ⟨Nat.le_refl _, by show mst r (nn (n + 1)) K + 1 ≤ 9; omega⟩
    · obtain ⟨i1, i2⟩ := rb_ok h n q
      exact ⟨by omega, i2⟩
def bRI (B : Option (Nat × Nat)) : Int32 := match B with
  | none => kM9
  | some b => nI (b.1 + 256 * b.2)
section
variable (S : cS) (M : mS)
/-- what can be got by h HOURS -/
abbrev gbh (k h : Nat) (run : Nat) : Option Nat := if hoM M run ≤ h then goM M (sgM M k) run else none
theorem r_most_loop {k set h : Nat} (hL : ML M) (hB : MB M) (hk : k < 5) (hs : set < 256) (hh : h < 100) : ∀ (d r : Nat) (z6 z7 : Option Value), r + 1 + d = 2 ^ M_em M → Ev [] mX9_mostOf (16, [some (.ref 104), some (.int (nI k)), some (.int (nI set)), some (.int (nI h)), some (.int (nI (ms (gbh M k h) (sgM M k) set r))), some (.int (nI (r + 1))), z6, z7], [], hp S M) (some (.int (nI (ms (gbh M k h) (sgM M k) set (2 ^ M_em M - 1))))) (hp S M)
  | 0, r, z6, z7, e => by
    have hE := hB.2.2.2.2.2.1
    have h64 := pow64' hE
    have e9 : 2 ^ M_em M - 1 = r := by omega
    rw [e9]
    refine Ev_br rfl (fun _ => Ev_rt rfl rfl rfl rfl) (fun hc => ?_)
    have hc : ¬ (nI 1 <<< (nI (M_em M) &&& 31)) ≤ nI (r + 1) := hc
    rw [nI_shl1 (by omega)] at hc
    exact absurd (nI_le (by omega) (by omega)) hc
  | d + 1, r, z6, z7, e => by
    have hE := hB.2.2.2.2.2.1
    have h64 := pow64' hE
    have ls := hL.2.2.2.2.2.1
    have b3 : gd (M_s M) k < 256 := (hB.1 k hk).1
    have hm8 := ms_le (gbh M k h) (sgM M k) set r
    have hho := hoM_lt M (set := r + 1) hB
    have ih := fun z6 z7 => r_most_loop hL hB hk hs hh d (r + 1) z6 z7 (by omega)
    have hms : ms (gbh M k h) (sgM M k) set (r + 1) = (match gbh M k h (r + 1) with | none => ms (gbh M k h) (sgM M k) set r | some y => max (ms (gbh M k h) (sgM M k) set r) (pop (y &&& set))) := rfl
    refine Ev_br rfl (fun hc => ?_) (fun _ => ?_)
    · have hc : (nI 1 <<< (nI (M_em M) &&& 31)) ≤ nI (r + 1) := hc
      rw [nI_shl1 (by omega)] at hc
      exact absurd hc (nI_ge (by omega) (by omega))
    refine Ev_br rfl (fun hc => absurd hc (nI_pos (by omega))) (fun _ => ?_)
    refine Ev_ca rfl (r_hoursOf S M hL hB (show r + 1 < 64 by omega)) ?_
    have nn : gbh M k h (r + 1) = none → ∀ z6, Ev [] mX9_mostOf (58, [some (.ref 104), some (.int (nI k)), some (.int (nI set)), some (.int (nI h)), some (.int (nI (ms (gbh M k h) (sgM M k) set r))), some (.int (nI (r + 1))), z6, z7], [.int kM9], hp S M) (some (.int (nI (ms (gbh M k h) (sgM M k) set (2 ^ M_em M - 1))))) (hp S M) := by
      intro hn z6
      rw [hn] at hms
      refine Ev_br rfl (fun hc => absurd rfl hc) (fun _ => ?_)
      refine Ev_jp rfl ?_
      refine Ev_br rfl (fun _ => ?_) (fun hc => absurd (nI_le (Nat.zero_le _) (by omega)) hc)
      refine a_run_ev 1 rfl ?_
      refine Ev_jpe rfl ?_ (ih (some (.int kM9)) (some (.int (nI 0))))
      rw [nI_add, hms]
    refine Ev_br rfl (fun hc => ?_) (fun hc => ?_)
    · have hc : nI h < nI (hoM M (r + 1)) := hc
      rw [nI_ltI (by omega) (by omega)] at hc
      exact a_run_ev 1 rfl (nn (if_neg (by omega)) _)
    · have hc : ¬ nI h < nI (hoM M (r + 1)) := hc
      rw [nI_ltI (by omega) (by omega)] at hc
      have hg : gbh M k h (r + 1) = goM M (sgM M k) (r + 1) := if_pos (by omega)
      refine Ev_ial rfl (i := k) rfl (by omega) (by omega) ?_
      refine Ev_ca rfl (r_gotBy S M hL hB b3 (show r + 1 < 64 by omega)) ?_
      refine Ev_jp rfl ?_
      cases hy : goM M (gd (M_s M) k) (r + 1) with
      | none => exact nn (hg.trans hy) _
      | some y =>
        have hy256 := gob_lt hE (fun e he => (hB.2.2.2.1 e he).1) _ (gd (M_s M) k, r + 1, true) b3 (show r + 1 < 64 by omega) hy
        have hg2 : gbh M k h (r + 1) = some y := hg.trans hy
        rw [hg2] at hms
        have hle : y &&& set ≤ y := Nat.and_le_left
        have hp8 := pop_le (y &&& set)
        refine Ev_br rfl (fun _ => ?_) (fun hc => absurd (kM9_ne y (by omega)) hc)
        refine Ev_cae rfl (as' := [.int (nI (y &&& set))]) ?_ (r_ones _ (by omega)) ?_
        · rw [← nI_and (by omega) (by omega)]
          rfl
        refine Ev_br rfl (fun hc2 => ?_) (fun hc2 => ?_)
        · have hc2 : nI (pop (y &&& set)) ≤ nI (ms (gbh M k h) (sgM M k) set r) := hc2
          rw [nI_leI (by omega) (by omega)] at hc2
          refine a_run_ev 1 rfl ?_
          refine Ev_jpe rfl ?_ (ih (some (.int (nI y))) (some (.int (nI (pop (y &&& set))))))
          rw [nI_add, hms]
          show _ = (16, [_, _, _, _, some (Value.int (nI (max (ms (gbh M k h) (sgM M k) set r) (pop (y &&& set))))), _, _, _], _, _)
          rw [Nat.max_eq_left hc2]
          rfl
        · have hc2 : ¬ nI (pop (y &&& set)) ≤ nI (ms (gbh M k h) (sgM M k) set r) := hc2
          rw [nI_leI (by omega) (by omega)] at hc2
          refine Ev_jp rfl ?_
          refine Ev_jpe rfl ?_ (ih (some (.int (nI y))) (some (.int (nI (pop (y &&& set))))))
          rw [nI_add, hms]
          show _ = (16, [_, _, _, _, some (Value.int (nI (max (ms (gbh M k h) (sgM M k) set r) (pop (y &&& set))))), _, _, _], _, _)
          rw [Nat.max_eq_right (by omega)]
          rfl
abbrev moM (h k set : Nat) : Nat := ms (gbh M k h) (sgM M k) set (2 ^ M_em M - 1)
theorem r_mostOf {k set h : Nat} (hL : ML M) (hB : MB M) (hk : k < 5) (hs : set < 256) (hh : h < 100) : Cl mX9_mostOf [.ref 104, .int (nI k), .int (nI set), .int (nI h)] (hp S M) (some (.int (nI (moM M h k set)))) (hp S M) := by
  have ls := hL.2.2.2.2.2.1
  have b3 : gd (M_s M) k < 256 := (hB.1 k hk).1
  have hle : gd (M_s M) k &&& set ≤ gd (M_s M) k := Nat.and_le_left
  have h1 : 1 ≤ 2 ^ M_em M := Nat.one_le_two_pow
  refine Ev_ial rfl (i := k) rfl (by omega) (by omega) ?_
  refine Ev_cae rfl (as' := [.int (nI (gd (M_s M) k &&& set))]) ?_ (r_ones _ (by omega)) ?_
  · rw [← nI_and (by omega) (by omega)]
  exact a_run_ev 3 rfl (r_most_loop S M hL hB hk hs hh (2 ^ M_em M - 1) 0 none none (by omega))
theorem r_mostOf1 {k set : Nat} (hL : ML M) (hB : MB M) (hk : k < 5) (hs : set < 256) : Cl mX9_mostOf [.ref 104, .int (nI k), .int (nI set), .int kM1] (hp S M) (some (.int (nI (pop (sgM M k &&& set))))) (hp S M) := by
  have ls := hL.2.2.2.2.2.1
  have b3 : gd (M_s M) k < 256 := (hB.1 k hk).1
  have hle : gd (M_s M) k &&& set ≤ gd (M_s M) k := Nat.and_le_left
  refine Ev_ial rfl (i := k) rfl (by omega) (by omega) ?_
  refine Ev_cae rfl (as' := [.int (nI (gd (M_s M) k &&& set))]) ?_ (r_ones _ (by omega)) ?_
  · rw [← nI_and (by omega) (by omega)]
  refine Ev_br rfl (fun _ => Ev_rt rfl rfl rfl rfl) (fun _ => ?_)
  exact Ev_br rfl (fun _ => Ev_rt rfl rfl rfl rfl) (fun hc => absurd (show kM1 < 0 by decide) hc)
/-- a method that answers so for every KNOCKER -/
def moOK (hx : Int32) (mo : Nat → Nat → Nat) : Prop := ∀ k set, k < 5 → set < 256 → Cl mX9_mostOf [.ref 104, .int (nI k), .int (nI set), .int hx] (hp S M) (some (.int (nI (mo k set)))) (hp S M)
abbrev nnM (mo : Nat → Nat → Nat) (set k : Nat) : Nat := if riM M k = 1 then pop (sgM M k &&& set) else mo k set
theorem nnM_le {mo : Nat → Nat → Nat} (h8 : ∀ k s, mo k s ≤ 8) (s k : Nat) : nnM M mo s k ≤ 8 := by
  unfold nnM
  split
  · exact pop_le _
  · exact h8 k s
theorem r_rule_in {hx : Int32} {mo : Nat → Nat → Nat} {B : Int32} {set : Nat} {v : Option Value} {h' : aH} (hm : moOK S M hx mo) (h8 : ∀ k s, mo k s ≤ 8) (hL : ML M) (hB : MB M) (hs : set < 256) (kk : ∀ z6 z7, Ev [] mX9_ruleBy (149, [some (.ref 104), some (.int hx), some (.int B), some (.int (nI set)), some (.int (nI (lst (riM M) (nnM M mo set) (pop set) (M_kn M)))), some (.int (nI (mst (riM M) (nnM M mo set) (M_kn M)))), z6, z7], [], hp S M) v h') : ∀ (d k : Nat) (z7 : Option Value), k + d = M_kn M → Ev [] mX9_ruleBy (45, [some (.ref 104), some (.int hx), some (.int B), some (.int (nI set)), some (.int (nI (lst (riM M) (nnM M mo set) (pop set) k))), some (.int (nI (mst (riM M) (nnM M mo set) k))), some (.int (nI k)), z7], [], hp S M) v h'
  | 0, k, z7, e => by
    have hK := hB.2.2.2.2.1
    have e : k = M_kn M := by omega
    subst e
    exact Ev_br rfl (fun _ => kk _ _) (fun hc => absurd (nI_le (Nat.le_refl _) (by omega)) hc)
  | d + 1, k, z7, e => by
    have hK := hB.2.2.2.2.1
    have ls := hL.2.2.2.2.2.1
    have lr := hL.2.1
    have hk : k < 5 := by omega
    have b3 : gd (M_s M) k < 256 := (hB.1 k hk).1
    have br : gd (M_rg M) k < 2 := hB.2.2.1 k hk
    have hle : gd (M_s M) k &&& set ≤ gd (M_s M) k := Nat.and_le_left
    have hn8 := nnM_le M h8 set k
    have hl8 := lst_le (r := riM M) (pop_le set) (nnM_le M h8 set) k
    have hm8 := mst_le (r := riM M) (nnM_le M h8 set) k
    have el : lst (riM M) (nnM M mo set) (pop set) (k + 1) = if gd (M_rg M) k = 1 ∧ nnM M mo set k < lst (riM M) (nnM M mo set) (pop set) k then nnM M mo set k else lst (riM M) (nnM M mo set) (pop set) k := rfl
    have em : mst (riM M) (nnM M mo set) (k + 1) = if gd (M_rg M) k = 0 ∧ mst (riM M) (nnM M mo set) k < nnM M mo set k then nnM M mo set k else mst (riM M) (nnM M mo set) k := rfl
    have ih := r_rule_in hm h8 hL hB hs kk d (k + 1) (some (.int (nI (nnM M mo set k)))) (by omega)
    rw [el, em] at ih
    have en : nnM M mo set k = if gd (M_rg M) k = 1 then pop (gd (M_s M) k &&& set) else mo k set := rfl
    generalize nnM M mo set k = n at hn8 ih en
    generalize lst (riM M) (nnM M mo set) (pop set) k = l at hl8 ih ⊢
    generalize mst (riM M) (nnM M mo set) k = m at hm8 ih ⊢
    have fin : Ev [] mX9_ruleBy (88, [some (.ref 104), some (.int hx), some (.int B), some (.int (nI set)), some (.int (nI l)), some (.int (nI m)), some (.int (nI k)), z7], [.int (nI n)], hp S M) v h' := by
      by_cases h1 : gd (M_rg M) k = 1
      · rw [if_neg (show ¬ (gd (M_rg M) k = 0 ∧ m < n) by omega)] at ih
        refine Ev_ial rfl (i := k) rfl (by omega) (by omega) ?_
        rw [h1]
        refine Ev_br rfl (fun hc => absurd rfl hc) (fun _ => ?_)
        refine Ev_br rfl (fun hc => ?_) (fun hc => ?_)
        · have hc : nI l ≤ nI n := hc
          rw [nI_leI (by omega) (by omega)] at hc
          rw [if_neg (show ¬ (gd (M_rg M) k = 1 ∧ n < l) by omega)] at ih
          refine a_run_ev 1 rfl ?_
          refine Ev_ial rfl (i := k) rfl (by omega) (by omega) ?_
          rw [h1]
          refine Ev_br rfl (fun _ => ?_) (fun hc => absurd b1z hc)
          refine a_run_ev 1 rfl ?_
          refine Ev_jpe rfl ?_ ih
          rw [nI_add]
        · have hc : ¬ nI l ≤ nI n := hc
          rw [nI_leI (by omega) (by omega)] at hc
          rw [if_pos (show gd (M_rg M) k = 1 ∧ n < l by omega)] at ih
          refine Ev_jp rfl ?_
          refine Ev_ial rfl (i := k) rfl (by omega) (by omega) ?_
          rw [h1]
          refine Ev_br rfl (fun _ => ?_) (fun hc => absurd b1z hc)
          refine a_run_ev 1 rfl ?_
          refine Ev_jpe rfl ?_ ih
          rw [nI_add]
      · have h0 : gd (M_rg M) k = 0 := by omega
        rw [if_neg (show ¬ (gd (M_rg M) k = 1 ∧ n < l) by omega)] at ih
        refine Ev_ial rfl (i := k) rfl (by omega) (by omega) ?_
        rw [h0]
        refine Ev_br rfl (fun _ => ?_) (fun hc => absurd (show nI 0 ≠ nI 1 by decide) hc)
        refine a_run_ev 1 rfl ?_
        refine Ev_ial rfl (i := k) rfl (by omega) (by omega) ?_
        rw [h0]
        refine Ev_br rfl (fun hc => absurd nI_0 hc) (fun _ => ?_)
        refine Ev_br rfl (fun hc => ?_) (fun hc => ?_)
        · have hc : nI n ≤ nI m := hc
          rw [nI_leI (by omega) (by omega)] at hc
          rw [if_neg (show ¬ (gd (M_rg M) k = 0 ∧ m < n) by omega)] at ih
          refine a_run_ev 1 rfl ?_
          refine Ev_jpe rfl ?_ ih
          rw [nI_add]
        · have hc : ¬ nI n ≤ nI m := hc
          rw [nI_leI (by omega) (by omega)] at hc
          rw [if_pos (show gd (M_rg M) k = 0 ∧ m < n by omega)] at ih
          refine Ev_jp rfl ?_
          refine Ev_jpe rfl ?_ ih
          rw [nI_add]
    refine Ev_br rfl (fun hc => absurd hc (nI_ge (show k < M_kn M by omega) (by omega))) (fun _ => ?_)
    refine Ev_ial rfl (i := k) rfl (by omega) (by omega) ?_
    refine Ev_br rfl (fun hc => ?_) (fun hc => ?_)
    · have hc : ¬ nI (gd (M_rg M) k) = nI 1 := hc
      rw [nI_eq (by omega) (by decide)] at hc
      rw [if_neg hc] at en
      refine Ev_ca rfl (hm k set hk hs) ?_
      rw [← en]
      exact fin
    · have hc : ¬ ¬ nI (gd (M_rg M) k) = nI 1 := hc
      rw [nI_eq (by omega) (by decide), Decidable.not_not] at hc
      rw [if_pos hc] at en
      refine Ev_ial rfl (i := k) rfl (by omega) (by omega) ?_
      refine Ev_cae rfl (as' := [.int (nI (gd (M_s M) k &&& set))]) ?_ (r_ones _ (by omega)) ?_
      · rw [← nI_and (by omega) (by omega)]
      rw [← en]
      exact Ev_jp rfl fin
theorem bRI_and {b : Nat × Nat} (h1 : b.1 ≤ 255) (h2 : b.2 ≤ 9) : nI (b.1 + 256 * b.2) &&& nI 255 = nI b.1 := by
  rw [pk_andN (by omega) 8 (by decide)]
  exact congrArg nI (by omega)
theorem r_rule_loop {hx : Int32} {mo : Nat → Nat → Nat} (hm : moOK S M hx mo) (h8 : ∀ k s, mo k s ≤ 8) (hL : ML M) (hB : MB M) : ∀ (d n : Nat) (z4 z5 z6 z7 : Option Value), n + d = 255 → Ev [] mX9_ruleBy (5, [some (.ref 104), some (.int hx), some (.int (bRI (rb (M_kn M) (riM M) (nnM M mo) n))), some (.int (nI (n + 1))), z4, z5, z6, z7], [], hp S M) (some (.int (bRI (rb (M_kn M) (riM M) (nnM M mo) 255)))) (hp S M)
  | 0, n, z4, z5, z6, z7, e => by
    have e : n = 255 := by omega
    subst e
    exact Ev_br rfl (fun _ => Ev_rt rfl rfl rfl rfl) (fun hc => absurd (nI_le (Nat.le_refl _) (by decide)) hc)
  | d + 1, n, z4, z5, z6, z7, e => by
    have ih := fun z4 z5 z6 z7 => r_rule_loop hm h8 hL hB d (n + 1) z4 z5 z6 z7 (by omega)
    have er : rb (M_kn M) (riM M) (nnM M mo) (n + 1) = if beB (rb (M_kn M) (riM M) (nnM M mo) n) (n + 1) = true ∧ mst (riM M) (nnM M mo (n + 1)) (M_kn M) < lst (riM M) (nnM M mo (n + 1)) (pop (n + 1)) (M_kn M) then some (n + 1, mst (riM M) (nnM M mo (n + 1)) (M_kn M) + 1) else rb (M_kn M) (riM M) (nnM M mo) n := rfl
    have hok := fun b => rb_ok (K := M_kn M) (r := riM M) (nn := nnM M mo) (fun s k => nnM_le M h8 s k) (b := b) n
    rw [er] at ih
    generalize rb (M_kn M) (riM M) (nnM M mo) n = B at ih hok ⊢
    have hl8 := lst_le (r := riM M) (pop_le (n + 1)) (nnM_le M h8 (n + 1)) (M_kn M)
    have hm8 := mst_le (r := riM M) (nnM_le M h8 (n + 1)) (M_kn M)
    have yes : beB B (n + 1) = true → Ev [] mX9_ruleBy (33, [some (.ref 104), some (.int hx), some (.int (bRI B)), some (.int (nI (n + 1))), z4, z5, z6, z7], [], hp S M) (some (.int (bRI (rb (M_kn M) (riM M) (nnM M mo) 255)))) (hp S M) := by
      intro hb
      refine Ev_ca rfl (r_ones _ (show n + 1 < 256 by omega)) ?_
      refine a_run_ev 5 rfl (r_rule_in S M hm h8 hL hB (show n + 1 < 256 by omega) (fun y6 y7 => ?_) (M_kn M) 0 z7 (by omega))
      generalize lst (riM M) (nnM M mo (n + 1)) (pop (n + 1)) (M_kn M) = l at hl8 ih ⊢
      generalize mst (riM M) (nnM M mo (n + 1)) (M_kn M) = m at hm8 ih ⊢
      have ih := ih (some (.int (nI l))) (some (.int (nI m))) y6 y7
      refine Ev_br rfl (fun hc => ?_) (fun hc => ?_)
      · have hc : nI l ≤ nI m := hc
        rw [nI_leI (by omega) (by omega)] at hc
        rw [if_neg (show ¬ (beB B (n + 1) = true ∧ m < l) from fun q => by omega)] at ih
        refine a_run_ev 1 rfl ?_
        refine Ev_jpe rfl ?_ ih
        rw [nI_add]
      · have hc : ¬ nI l ≤ nI m := hc
        rw [nI_leI (by omega) (by omega)] at hc
        rw [if_pos (show beB B (n + 1) = true ∧ m < l from ⟨hb, by omega⟩)] at ih
        refine Ev_jp rfl ?_
        refine Ev_jpe rfl ?_ ih
        rw [nI_add, nI_add, pk_mul, nI_add]
        rfl
    refine Ev_br rfl (fun hc => absurd hc (nI_ge (show n + 1 < 256 by omega) (by decide))) (fun _ => ?_)
    cases B with
    | none => exact Ev_br rfl (fun _ => yes rfl) (fun hc => absurd rfl hc)
    | some b =>
      obtain ⟨q1, q2⟩ := hok b rfl
      have p1 := pop_le (n + 1)
      have p2 := pop_le b.1
      refine Ev_br rfl (fun hc => absurd hc (kM9_ne _ (by omega))) (fun _ => ?_)
      refine Ev_ca rfl (r_ones _ (show n + 1 < 256 by omega)) ?_
      refine Ev_cae rfl (as' := [.int (nI b.1)]) ?_ (r_ones _ (by omega)) ?_
      · rw [← bRI_and (b := b) (by omega) q2]
        rfl
      refine Ev_br rfl (fun hc => ?_) (fun hc => ?_)
      · have hc : nI (pop b.1) ≤ nI (pop (n + 1)) := hc
        rw [nI_leI (by omega) (by omega)] at hc
        have hbe : beB (some b) (n + 1) = false := decide_eq_false (by omega)
        have ih := ih z4 z5 z6 z7
        rw [hbe, if_neg (fun q => by cases q.1)] at ih
        refine Ev_jpe rfl ?_ ih
        rw [nI_add]
        rfl
      · have hc : ¬ nI (pop b.1) ≤ nI (pop (n + 1)) := hc
        rw [nI_leI (by omega) (by omega)] at hc
        exact yes (decide_eq_true (by omega))
/-- the reference's lone RULE -/
abbrev rbM (mo : Nat → Nat → Nat) : Option (Nat × Nat) := rb (M_kn M) (riM M) (nnM M mo) 255
def rtM (B : Option (Nat × Nat)) (what : Nat) : Int32 := match B with
  | none => kM9
  | some b => if what = 0 then nI b.1 else nI b.2
theorem r_ruleTold {hx : Int32} {mo : Nat → Nat → Nat} {what : Nat} (hw : what < 2) (hm : moOK S M hx mo) (h8 : ∀ k s, mo k s ≤ 8) (hL : ML M) (hB : MB M) : Cl mX9_ruleTold [.ref 104, .int hx, .int (nI what)] (hp S M) (some (.int (rtM (rbM M mo) what))) (hp S M) := by
  have hc : Cl mX9_ruleBy [.ref 104, .int hx] (hp S M) (some (.int (bRI (rbM M mo)))) (hp S M) := a_run_ev 4 rfl (r_rule_loop S M hm h8 hL hB 255 0 none none none none (by omega))
  have hok := fun b => rb_ok (K := M_kn M) (r := riM M) (nn := nnM M mo) (fun s k => nnM_le M h8 s k) (b := b) 255
  refine Ev_ca rfl hc ?_
  have hok : ∀ b, rbM M mo = some b → b.1 ≤ 255 ∧ b.2 ≤ 9 := hok
  generalize rbM M mo = B at hok ⊢
  cases B with
  | none => exact Ev_br rfl (fun hc => absurd rfl hc) (fun _ => Ev_jp rfl (Ev_rt rfl rfl rfl rfl))
  | some b =>
    obtain ⟨q1, q2⟩ := hok b rfl
    refine Ev_br rfl (fun _ => ?_) (fun hc => absurd (kM9_ne _ (by omega)) hc)
    match what, hw with
    | 0, _ =>
      refine Ev_br rfl (fun hc => absurd nI_0 hc) (fun _ => ?_)
      refine Ev_ck rfl (by decide) ?_
      refine Ev_jp rfl (Ev_rt rfl rfl ?_ rfl)
      show some (Value.int (nI (b.1 + 256 * b.2) - nI (b.1 + 256 * b.2) / nI 256 * nI 256)) = some (Value.int (nI b.1))
      rw [pk_rem (by omega) (by decide) (by decide), show (b.1 + 256 * b.2) % 256 = b.1 by omega]
    | 1, _ =>
      refine Ev_br rfl (fun _ => ?_) (fun hc => absurd b1z hc)
      refine Ev_ck rfl (by decide) ?_
      refine Ev_rt rfl rfl ?_ rfl
      show some (Value.int (nI (b.1 + 256 * b.2) / nI 256)) = some (Value.int (nI b.2))
      rw [pk_div (by omega) (by decide) (by decide), show (b.1 + 256 * b.2) / 256 = b.2 by omega]
theorem cM_ask_bad {x : Int32} (h0 : ¬ x = nI 0) (h1 : ¬ x = nI 1) : Cl mX9_ask [.ref 104, .int x] (hp S M) (some (.int kM1)) (hp S M) := by
  refine a_run_ev 3 rfl (Ev_h (h2 := hp S M) rfl ?_)
  refine Ev_ca rfl (r_in_f _ (bad01 h0 h1)) ?_
  exact Ev_br rfl (fun _ => Ev_rt rfl rfl rfl rfl) (fun hc => absurd nI_0 hc)
abbrev moA (k set : Nat) : Nat := pop (sgM M k &&& set)
theorem cM_ask {what : Nat} (hw : what < 2) (hL : ML M) (hB : MB M) : Cl mX9_ask [.ref 104, .int (nI what)] (hp S M) (some (.int (rtM (rbM M (moA M)) what))) (hp S M) := by
  refine a_run_ev 3 rfl (Ev_h (h2 := hp S M) rfl ?_)
  refine Ev_ca rfl (r_in_t _ (Nat.zero_le _) (show what ≤ 1 by omega) (by decide)) ?_
  refine Ev_br rfl (fun hc => absurd hc b1z) (fun _ => ?_)
  refine Ev_ca rfl (r_ruleTold S M (hx := kM1) (mo := moA M) hw (fun k set hk hs => r_mostOf1 S M hL hB hk hs) (fun k s => pop_le _) hL hB) ?_
  exact Ev_jp rfl (Ev_rt rfl rfl rfl rfl)
theorem cM_safe_bad {x w : Int32} (hx : x < 0 ∨ nI 99 < x) : Cl mX9_safe [.ref 104, .int x, .int w] (hp S M) (some (.int kM1)) (hp S M) := by
  refine a_run_ev 3 rfl (Ev_h (h2 := hp S M) rfl ?_)
  refine Ev_ca rfl (r_in_f _ (by rw [nI_0]; exact hx)) ?_
  exact Ev_br rfl (fun _ => Ev_rt rfl rfl rfl rfl) (fun hc => absurd nI_0 hc)
theorem cM_safe_bad2 {h : Nat} {w : Int32} (hh : h < 100) (h0 : ¬ w = nI 0) (h1 : ¬ w = nI 1) : Cl mX9_safe [.ref 104, .int (nI h), .int w] (hp S M) (some (.int kM1)) (hp S M) := by
  refine a_run_ev 3 rfl (Ev_h (h2 := hp S M) rfl ?_)
  refine Ev_ca rfl (r_in_t _ (Nat.zero_le _) (show h ≤ 99 by omega) (by decide)) ?_
  refine Ev_br rfl (fun hc => absurd hc b1z) (fun _ => ?_)
  refine Ev_ca rfl (r_in_f _ (bad01 h0 h1)) ?_
  exact Ev_br rfl (fun _ => Ev_rt rfl rfl rfl rfl) (fun hc => absurd nI_0 hc)
theorem cM_safe {h what : Nat} (hh : h < 100) (hw : what < 2) (hL : ML M) (hB : MB M) : Cl mX9_safe [.ref 104, .int (nI h), .int (nI what)] (hp S M) (some (.int (rtM (rbM M (moM M h)) what))) (hp S M) := by
  refine a_run_ev 3 rfl (Ev_h (h2 := hp S M) rfl ?_)
  refine Ev_ca rfl (r_in_t _ (Nat.zero_le _) (show h ≤ 99 by omega) (by decide)) ?_
  refine Ev_br rfl (fun hc => absurd hc b1z) (fun _ => ?_)
  refine Ev_ca rfl (r_in_t _ (Nat.zero_le _) (show what ≤ 1 by omega) (by decide)) ?_
  refine Ev_br rfl (fun hc => absurd hc b1z) (fun _ => ?_)
  refine Ev_ca rfl (r_ruleTold S M (hx := nI h) (mo := moM M h) hw (fun k set hk hs => r_mostOf S M hL hB hk hs hh) (fun k s => ms_le _ _ _ _) hL hB) ?_
  exact Ev_jp rfl (Ev_rt rfl rfl rfl rfl)
end

/-! the class's soonest, bar -/
/-- the first ERRAND from e on, d of them, for which f fails -/
def ff (f : Nat → Bool) : Nat → Nat → Option Nat
  | 0, _ => none
  | d + 1, e => if f e = true then ff f d (e + 1) else some e
theorem ff_congr {f g : Nat → Bool} : ∀ d e, (∀ i, e ≤ i → i < e + d → f i = g i) → ff f d e = ff g d e
  | 0, e, h => rfl
  | d + 1, e, h => by
    show (if f e = true then ff f d (e + 1) else some e) = (if g e = true then ff g d (e + 1) else some e)
    rw [h e (Nat.le_refl _) (by omega), ff_congr d (e + 1) (fun i h1 h2 => h i (by omega) (by omega))]
def nI9 (x : Option Nat) : Int32 := match x with
  | none => kM9
  | some e => nI e
section
variable (S : cS) (T : aH)
theorem cC_soonest_bad {x w : Int32} (hx : x < 0 ∨ nI (ho_K (C_to S)) ≤ x) : Cl mX8_soonest [.ref 0, .int x, .int w] (hpC S ++ T) (some (.int kM1)) (hpC S ++ T) := by
  refine Ev_ca rfl (c_isKnocker_f S T hx) ?_
  exact Ev_br rfl (fun _ => Ev_rt rfl rfl rfl rfl) (fun hc => absurd nI_0 hc)
theorem cC_soonest_bad2 {k : Nat} {w : Int32} (hk : k < ho_K (C_to S)) (hK : ho_K (C_to S) ≤ 5) (h0 : ¬ w = nI 0) (h1 : ¬ w = nI 1) : Cl mX8_soonest [.ref 0, .int (nI k), .int w] (hpC S ++ T) (some (.int kM1)) (hpC S ++ T) := by
  refine Ev_ca rfl (c_isKnocker_t S T hk hK) ?_
  refine Ev_br rfl (fun hc => absurd hc b1z) (fun _ => ?_)
  refine Ev_ca rfl (c_isBit_f _ h0 h1) ?_
  exact Ev_br rfl (fun hc => absurd nI_0 hc) (fun _ => Ev_rt rfl rfl rfl rfl)
/-- what soonest tells -/
def soR (w : Wt) (x : Option Nat) (what : Nat) : Int32 := match x with
  | none => kM9
  | some b => if what = 0 then nI ((w.2 b).getD 0) else nI b
theorem cC_soonest {k what : Nat} (hk : k < ho_K (C_to S)) (hw : what < 2) (hL : HoL (C_to S)) (hB : HoB (C_to S)) (lh : (C_wh S).length = 64) (lg : (C_wg S).length = 64) (hL2 : MoL (C_nw S)) (hB2 : MoB (C_nw S)) : ∃ a b : List Int32, a.length = 64 ∧ b.length = 64 ∧ Cl mX8_soonest [.ref 0, .int (nI k), .int (nI what)] (hpC S ++ T) (some (.int (soR (wtC S k 0) (soC S k 0) what))) (hpC (wayS S a b) ++ T) := by
  have h64 := E64 hB
  have hK := hB.2.2.2.2.2.2.1
  obtain ⟨a, b, i1, i2, i3, i4⟩ := c_soonestSet S T (k := k) (barred := 0) (by omega) (by omega) hL hB lh lg hL2 hB2
  refine ⟨a, b, i1, i2, ?_⟩
  refine Ev_ca rfl (c_isKnocker_t S T hk hK) ?_
  refine Ev_br rfl (fun hc => absurd hc b1z) (fun _ => ?_)
  refine Ev_ca rfl (c_isBit_t _ hw) ?_
  refine Ev_br rfl (fun _ => ?_) (fun hc => absurd b1z hc)
  refine Ev_ca rfl i4 ?_
  cases hso : soC S k 0 with
  | none => exact Ev_br rfl (fun hc => absurd (show ¬ (0 : Int32) ≤ kM1 by decide) (fun q => q hc)) (fun _ => Ev_rt rfl rfl rfl rfl)
  | some x =>
    obtain ⟨s1, s2, s3⟩ := so_ok _ hso
    have hwx := i3 x s1
    obtain ⟨hx, hxe⟩ := Option.isSome_iff_exists.mp s2
    refine Ev_br rfl (fun _ => ?_) (fun hc => absurd (nI_pos' (show x < 2 ^ 31 by omega)) hc)
    match what, hw with
    | 0, _ =>
      refine Ev_br rfl (fun hc => absurd nI_0 hc) (fun _ => ?_)
      refine Ev_ca rfl (c_atI _ 99 b x rfl (by omega) (by omega)) ?_
      rw [show b.getD x 0 = hv ((wtC S k 0).2 x) from hwx.1]
      refine Ev_jp rfl (Ev_rt rfl rfl ?_ rfl)
      show some (Value.int (hv ((wtC S k 0).2 x))) = some (Value.int (nI (((wtC S k 0).2 x).getD 0)))
      rw [hxe]
      rfl
    | 1, _ => exact Ev_br rfl (fun _ => Ev_rt rfl rfl rfl rfl) (fun hc => absurd b1z hc)
theorem cC_bar_bad {x w : Int32} (hx : x < 0 ∨ nI (ho_K (C_to S)) ≤ x) : Cl mX8_bar [.ref 0, .int x, .int w] (hpC S ++ T) (some (.int kM1)) (hpC S ++ T) := by
  refine Ev_ca rfl (c_isKnocker_f S T hx) ?_
  exact Ev_br rfl (fun _ => Ev_rt rfl rfl rfl rfl) (fun hc => absurd nI_0 hc)
theorem cC_bar_bad2 {k : Nat} {w : Int32} (hk : k < ho_K (C_to S)) (hK : ho_K (C_to S) ≤ 5) (hw : w < 0 ∨ nI 99 < w) : Cl mX8_bar [.ref 0, .int (nI k), .int w] (hpC S ++ T) (some (.int kM1)) (hpC S ++ T) := by
  refine Ev_ca rfl (c_isKnocker_t S T hk hK) ?_
  refine Ev_br rfl (fun hc => absurd hc b1z) (fun _ => ?_)
  refine Ev_ca rfl (c_isHours_f _ hw) ?_
  exact Ev_br rfl (fun hc => absurd nI_0 hc) (fun _ => Ev_rt rfl rfl rfl rfl)
theorem pow64 {e : Nat} (h : e < 6) : 2 ^ e < 64 := Nat.pow_lt_pow_right (a := 2) (n := 6) (by decide) h
theorem c_bar_loop {k h : Nat} (hk : k < 2 ^ 31) (hh : h < 100) (hL : HoL (C_to S)) (hB : HoB (C_to S)) (hL2 : MoL (C_nw S)) (hB2 : MoB (C_nw S)) : ∀ (d e : Nat) (a b : List Int32), a.length = 64 → b.length = 64 → e + d = ho_E (C_to S) → ∃ a' b' : List Int32, a'.length = 64 ∧ b'.length = 64 ∧ Ev [] mX8_bar (32, [some (.ref 0), some (.int (nI k)), some (.int (nI h)), some (.int (nI e))], [], hpC (wayS S a b) ++ T) (some (.int (nI9 (ff (fun e => isC S k (2 ^ e) h) d e)))) (hpC (wayS S a' b') ++ T)
  | 0, e, a, b, la, lb, he => by
    have hE := hB.2.2.2.2.2.2.2.1
    have e9 : e = ho_E (C_to S) := by omega
    subst e9
    exact ⟨a, b, la, lb, Ev_br rfl (fun _ => Ev_rt rfl rfl rfl rfl) (fun hc => absurd (nI_le (Nat.le_refl _) (show ho_E (C_to S) < 2 ^ 31 by omega)) hc)⟩
  | d + 1, e, a, b, la, lb, he => by
    have hE := hB.2.2.2.2.2.2.2.1
    obtain ⟨a1, b1, l1, l2, l3⟩ := c_isSoon (wayS S a b) T (barred := 2 ^ e) hk (pow64 (show e < 6 by omega)) hh hL hB lb la hL2 hB2
    have l3 : Cl mX8_isSoon [.ref 0, .int (nI k), .int (nI (2 ^ e)), .int (nI h)] (hpC (wayS S a b) ++ T) (some (.int (nI (isC S k (2 ^ e) h).toNat))) (hpC (wayS S a1 b1) ++ T) := l3
    have hf : ff (fun e => isC S k (2 ^ e) h) (d + 1) e = if isC S k (2 ^ e) h = true then ff (fun e => isC S k (2 ^ e) h) d (e + 1) else some e := rfl
    obtain ⟨a2, b2, m1, m2, m3⟩ := c_bar_loop hk hh hL hB hL2 hB2 d (e + 1) a1 b1 l1 l2 (by omega)
    have hst : ∀ v h', Ev [] mX8_bar (52, [some (.ref 0), some (.int (nI k)), some (.int (nI h)), some (.int (nI e))], [.int (nI (isC S k (2 ^ e) h).toNat)], hpC (wayS S a1 b1) ++ T) v h' → Ev [] mX8_bar (32, [some (.ref 0), some (.int (nI k)), some (.int (nI h)), some (.int (nI e))], [], hpC (wayS S a b) ++ T) v h' := by
      intro v h' kk
      refine Ev_br rfl (fun hc => absurd hc (nI_ge (show e < ho_E (C_to S) by omega) (show ho_E (C_to S) < 2 ^ 31 by omega))) (fun _ => ?_)
      refine Ev_cae rfl (as' := [.ref 0, .int (nI k), .int (nI (2 ^ e)), .int (nI h)]) ?_ l3 kk
      rw [← nI_shl1 (by omega)]
    cases hi : isC S k (2 ^ e) h with
    | true =>
      rw [hi, if_pos rfl] at hf
      refine ⟨a2, b2, m1, m2, hst _ _ ?_⟩
      rw [hf, hi]
      refine Ev_br rfl (fun _ => ?_) (fun hc => absurd b1z hc)
      refine Ev_jpe rfl ?_ m3
      rw [nI_add]
    | false =>
      rw [hi, if_neg (by decide)] at hf
      refine ⟨a1, b1, l1, l2, hst _ _ ?_⟩
      rw [hf, hi]
      exact Ev_br rfl (fun hc => absurd nI_0 hc) (fun _ => Ev_rt rfl rfl rfl rfl)
/-- what bar tells -/
def baR (b0 : Bool) (f : Nat → Bool) (E : Nat) : Int32 := if b0 = true then nI9 (ff f E 0) else kM5
theorem cC_bar {k h : Nat} (hk : k < ho_K (C_to S)) (hh : h < 100) (hL : HoL (C_to S)) (hB : HoB (C_to S)) (lh : (C_wh S).length = 64) (lg : (C_wg S).length = 64) (hL2 : MoL (C_nw S)) (hB2 : MoB (C_nw S)) : ∃ a b : List Int32, a.length = 64 ∧ b.length = 64 ∧ Cl mX8_bar [.ref 0, .int (nI k), .int (nI h)] (hpC S ++ T) (some (.int (baR (isC S k 0 h) (fun e => isC S k (2 ^ e) h) (ho_E (C_to S))))) (hpC (wayS S a b) ++ T) := by
  have hK := hB.2.2.2.2.2.2.1
  obtain ⟨a, b, i1, i2, i3⟩ := c_isSoon S T (k := k) (barred := 0) (by omega) (by omega) hh hL hB lh lg hL2 hB2
  obtain ⟨a2, b2, m1, m2, m3⟩ := c_bar_loop S T (k := k) (by omega) hh hL hB hL2 hB2 (ho_E (C_to S)) 0 a b i1 i2 (by omega)
  have hst : ∀ v h', Ev [] mX8_bar (24, [some (.ref 0), some (.int (nI k)), some (.int (nI h)), none], [.int (nI (isC S k 0 h).toNat)], hpC (wayS S a b) ++ T) v h' → Cl mX8_bar [.ref 0, .int (nI k), .int (nI h)] (hpC S ++ T) v h' := by
    intro v h' kk
    refine Ev_ca rfl (c_isKnocker_t S T hk hK) ?_
    refine Ev_br rfl (fun hc => absurd hc b1z) (fun _ => ?_)
    refine Ev_ca rfl (c_isHours_t _ hh) ?_
    refine Ev_br rfl (fun _ => ?_) (fun hc => absurd b1z hc)
    exact Ev_ca rfl i3 kk
  unfold baR
  cases hi : isC S k 0 h with
  | true =>
    rw [hi] at hst
    refine ⟨a2, b2, m1, m2, hst _ _ ?_⟩
    refine Ev_br rfl (fun _ => ?_) (fun hc => absurd b1z hc)
    exact a_run_ev 2 rfl m3
  | false =>
    rw [hi] at hst
    refine ⟨a, b, i1, i2, hst _ _ ?_⟩
    exact Ev_br rfl (fun hc => absurd nI_0 hc) (fun _ => Ev_rt rfl rfl rfl rfl)
end

/-! the class's methods: what they answer (4): images, what was shown, kinds -/
/-- it can have been one with these SIGNS, by the first n that were shown -/
def fit (x : Nat) (ss sh : Nat → Nat) : Nat → Bool
  | 0 => true
  | n + 1 => fit x ss sh n && (bt x (ss n) == sh n)
theorem fit_mono {x : Nat} {ss sh : Nat → Nat} {n : Nat} (h : fit x ss sh n = false) : ∀ d, fit x ss sh (n + d) = false
  | 0 => h
  | d + 1 => by
    show (fit x ss sh (n + d) && _) = false
    rw [fit_mono h d]
    rfl
theorem fit_congr {x y : Nat} {s1 h1 s2 h2 : Nat → Nat} (hxy : x = y) : ∀ n, (∀ i, i < n → s1 i = s2 i ∧ h1 i = h2 i) → fit x s1 h1 n = fit y s2 h2 n
  | 0, _ => rfl
  | n + 1, h => by
    show (fit x s1 h1 n && _) = (fit y s2 h2 n && _)
    rw [fit_congr hxy n (fun i hi => h i (Nat.lt_succ_of_lt hi)), (h n (Nat.lt_succ_self n)).1, (h n (Nat.lt_succ_self n)).2, hxy]
/-- how many of the first n of those left have the SIGN -/
def wi (left : Nat) (sg : Nat → Nat) (sign : Nat) : Nat → Nat
  | 0 => 0
  | n + 1 => wi left sg sign n + bt left n * bt (sg n) sign
theorem wi_le (left : Nat) (sg : Nat → Nat) (sign : Nat) : ∀ n, wi left sg sign n ≤ n
  | 0 => Nat.le_refl _
  | n + 1 => by
    have := wi_le left sg sign n
    have h1 := bt_lt left n
    have h2 := bt_lt (sg n) sign
    have h3 : bt left n * bt (sg n) sign ≤ 1 * 1 := Nat.mul_le_mul (by omega) (by omega)
    show wi left sg sign n + _ ≤ n + 1
    omega
/-- how many would be left at worst -/
def wo (w p : Nat) : Int32 := if nI w < nI p - nI w then nI p - nI w else nI w
section
variable (S : cS) (T : aH)
abbrev ssC (i : Nat) : Nat := gd (C_ss S) i
abbrev shC (i : Nat) : Nat := gd (C_sh S) i
theorem c_canHave_loop {k : Nat} (hk : k < 5) (hL : MoL (C_nw S)) (hB : MoB (C_nw S)) (hs : (C_ss S).length = 6) (hh : (C_sh S).length = 6) (bs : ∀ i, ssC S i < 8) (bh : ∀ i, shC S i < 2) (hm : C_sm S ≤ 6) : ∀ (d i : Nat) (z : Option Value), i + d = C_sm S → fit (sgC S k) (ssC S) (shC S) i = true → Ev [] mX8_canHaveBeen (2, [some (.ref 0), some (.int (nI k)), some (.int (nI i)), z], [], hpC S ++ T) (some (.int (nI (fit (sgC S k) (ssC S) (shC S) (C_sm S)).toNat))) (hpC S ++ T)
  | 0, i, z, h, hf => by
    have e : i = C_sm S := by omega
    subst e
    refine Ev_br rfl (fun _ => Ev_rt rfl rfl ?_ rfl) (fun hc => ?_)
    · rw [hf]; rfl
    · exact absurd (nI_le (Nat.le_refl _) (by omega)) hc
  | d + 1, i, z, h, hf => by
    have hx : sgC S k < 256 := hB.1 k
    have b1 : ssC S i < 8 := bs i
    have b2 : shC S i < 2 := bh i
    have hb := bt_lt (sgC S k) (ssC S i)
    refine Ev_br rfl (fun hc => absurd hc (nI_ge (show i < C_sm S by omega) (by omega))) (fun _ => ?_)
    refine Ev_ca rfl (c_at _ 103 (C_sh S) i rfl (by omega) (by omega)) ?_
    have key : ∀ y : Nat, y < 2 → y = shC S i → Ev [] mX8_canHaveBeen (28, [some (.ref 0), some (.int (nI k)), some (.int (nI i)), some (.int (nI y))], [], hpC S ++ T) (some (.int (nI (fit (sgC S k) (ssC S) (shC S) (C_sm S)).toNat))) (hpC S ++ T) := by
      intro y hy hys
      refine Ev_ca rfl (c_signsOf S T hL (by omega)) ?_
      refine Ev_ca rfl (c_at _ 102 (C_ss S) i rfl (by omega) (by omega)) ?_
      refine Ev_ca rfl (c_has _ (show sgC S k < 2 ^ 31 by omega) (show (C_ss S).getD i 0 < 31 by have : (C_ss S).getD i 0 < 8 := b1; omega)) ?_
      refine Ev_br rfl (fun hc => ?_) (fun hc => ?_)
      · have hc : nI (bt (sgC S k) (ssC S i)) = nI y := hc
        rw [nI_eq (by omega) (by omega)] at hc
        refine Ev_jpe rfl ?_ (c_canHave_loop hk hL hB hs hh bs bh hm d (i + 1) (some (.int (nI y))) (by omega) ?_)
        · rw [nI_add]
          rfl
        · show (fit (sgC S k) (ssC S) (shC S) i && (bt (sgC S k) (ssC S i) == shC S i)) = true
          rw [hf, hc, hys, beq_self_eq_true]
          rfl
      · have hc : ¬ nI (bt (sgC S k) (ssC S i)) = nI y := hc
        rw [nI_eq (by omega) (by omega)] at hc
        refine Ev_rt rfl rfl ?_ rfl
        have h0 : fit (sgC S k) (ssC S) (shC S) (i + 1) = false := by
          show (fit (sgC S k) (ssC S) (shC S) i && (bt (sgC S k) (ssC S i) == shC S i)) = false
          rw [hf, Bool.true_and, beq_eq_false_iff_ne]
          intro e9
          exact hc (e9.trans hys.symm)
        have h1 := fit_mono h0 d
        rw [show i + 1 + d = C_sm S by omega] at h1
        rw [h1]
        rfl
    refine Ev_br rfl (fun hc => ?_) (fun hc => ?_)
    · have hc : ¬ nI (shC S i) = nI 1 := hc
      rw [nI_eq (by omega) (by decide)] at hc
      exact a_run_ev 2 rfl (key 0 (by decide) (by omega))
    · have hc : ¬ ¬ nI (shC S i) = nI 1 := hc
      rw [nI_eq (by omega) (by decide), Decidable.not_not] at hc
      exact Ev_jp rfl (a_run_ev 1 rfl (key 1 (by decide) (by omega)))
theorem c_canHave {k : Nat} (hk : k < 5) (hL : MoL (C_nw S)) (hB : MoB (C_nw S)) (hs : (C_ss S).length = 6) (hh : (C_sh S).length = 6) (bs : ∀ i, ssC S i < 8) (bh : ∀ i, shC S i < 2) (hm : C_sm S ≤ 6) : Cl mX8_canHaveBeen [.ref 0, .int (nI k)] (hpC S ++ T) (some (.int (nI (fit (sgC S k) (ssC S) (shC S) (C_sm S)).toNat))) (hpC S ++ T) :=
  a_run_ev 2 rfl (c_canHave_loop S T hk hL hB hs hh bs bh hm (C_sm S) 0 none (by omega) rfl)
abbrev fiC (k : Nat) : Bool := fit (sgC S k) (ssC S) (shC S) (C_sm S)
abbrev whC : Nat := bits (fiC S) (ho_K (C_to S))
theorem cC_who_loop (hK : ho_K (C_to S) ≤ 5) (hL : MoL (C_nw S)) (hB : MoB (C_nw S)) (hs : (C_ss S).length = 6) (hh : (C_sh S).length = 6) (bs : ∀ i, ssC S i < 8) (bh : ∀ i, shC S i < 2) (hm : C_sm S ≤ 6) : ∀ (d k : Nat), k + d = ho_K (C_to S) → Ev [] mX8_who (4, [some (.ref 0), some (.int (nI (bits (fiC S) k))), some (.int (nI k))], [], hpC S ++ T) (some (.int (nI (whC S)))) (hpC S ++ T)
  | 0, k, h => by
    have e : k = ho_K (C_to S) := by omega
    subst e
    refine Ev_br rfl (fun _ => Ev_rt rfl rfl rfl rfl) (fun hc => ?_)
    exact absurd (nI_le (Nat.le_refl _) (by omega)) hc
  | d + 1, k, h => by
    refine Ev_br rfl (fun hc => absurd hc (nI_ge (show k < ho_K (C_to S) by omega) (by omega))) (fun _ => ?_)
    refine Ev_ca rfl (c_canHave S T (by omega) hL hB hs hh bs bh hm) ?_
    have hb := bits_lt (fiC S) k
    have hp := pow_lt31 (n := k) (k := 30) (by omega) (by omega)
    cases hf : fiC S k with
    | true =>
      rw [show fit (sgC S k) (ssC S) (shC S) (C_sm S) = true from hf]
      refine Ev_br rfl (fun hc => absurd hc b1z) (fun _ => ?_)
      refine Ev_jpe rfl ?_ (cC_who_loop hK hL hB hs hh bs bh hm d (k + 1) (by omega))
      rw [nI_shl1 (by omega), nI_or (by omega) (by omega), nI_add, bits_succ, hf]
      rfl
    | false =>
      rw [show fit (sgC S k) (ssC S) (shC S) (C_sm S) = false from hf]
      refine Ev_br rfl (fun _ => ?_) (fun hc => absurd nI_0 hc)
      refine Ev_jpe rfl ?_ (cC_who_loop hK hL hB hs hh bs bh hm d (k + 1) (by omega))
      rw [nI_add, bits_succ, hf, if_neg (by decide), Nat.or_zero]
      rfl
theorem cC_who (hK : ho_K (C_to S) ≤ 5) (hL : MoL (C_nw S)) (hB : MoB (C_nw S)) (hs : (C_ss S).length = 6) (hh : (C_sh S).length = 6) (bs : ∀ i, ssC S i < 8) (bh : ∀ i, shC S i < 2) (hm : C_sm S ≤ 6) : Cl mX8_who [.ref 0] (hpC S ++ T) (some (.int (nI (whC S)))) (hpC S ++ T) :=
  a_run_ev 4 rfl (cC_who_loop S T hK hL hB hs hh bs bh hm (ho_K (C_to S)) 0 (by omega))
theorem c_worst_loop {left sign : Nat} (hl : left < 32) (hs : sign < 8) (hK : ho_K (C_to S) ≤ 5) (hL : MoL (C_nw S)) (hB : MoB (C_nw S)) : ∀ (d k : Nat), k + d = ho_K (C_to S) → Ev [] mX8_worstLeft (5, [some (.ref 0), some (.int (nI left)), some (.int (nI sign)), some (.int (nI (wi left (sgC S) sign k))), some (.int (nI k))], [], hpC S ++ T) (some (.int (wo (wi left (sgC S) sign (ho_K (C_to S))) (pop left)))) (hpC S ++ T)
  | 0, k, h => by
    have e : k = ho_K (C_to S) := by omega
    subst e
    refine Ev_br rfl (fun _ => ?_) (fun hc => ?_)
    · refine Ev_ca rfl (c_bitCount _ (by omega)) ?_
      exact Ev_ck rfl rfl (Ev_rt rfl rfl rfl rfl)
    · exact absurd (nI_le (Nat.le_refl _) (by omega)) hc
  | d + 1, k, h => by
    have hx : sgC S k < 256 := hB.1 k
    have h1 := bt_lt left k
    have h2 := bt_lt (sgC S k) sign
    have hw : wi left (sgC S) sign (k + 1) = wi left (sgC S) sign k + bt left k * bt (sgC S k) sign := rfl
    refine Ev_br rfl (fun hc => absurd hc (nI_ge (show k < ho_K (C_to S) by omega) (by omega))) (fun _ => ?_)
    refine Ev_ca rfl (c_has _ (by omega) (by omega)) ?_
    by_cases hb : bt left k = 1
    · rw [hb]
      refine Ev_br rfl (fun hc => absurd hc b1z) (fun _ => ?_)
      refine Ev_ca rfl (c_signsOf S T hL (by omega)) ?_
      refine Ev_ca rfl (c_has _ (by omega) (by omega)) ?_
      by_cases hb2 : bt (sgC S k) sign = 1
      · rw [hb2]
        refine Ev_br rfl (fun hc => absurd hc b1z) (fun _ => ?_)
        refine Ev_jpe rfl ?_ (c_worst_loop hl hs hK hL hB d (k + 1) (by omega))
        rw [nI_add, nI_add, hw, hb, hb2]
        rfl
      · rw [show bt (sgC S k) sign = 0 by omega]
        refine Ev_br rfl (fun _ => ?_) (fun hc => absurd nI_0 hc)
        refine Ev_jpe rfl ?_ (c_worst_loop hl hs hK hL hB d (k + 1) (by omega))
        rw [nI_add, hw, show bt (sgC S k) sign = 0 by omega, Nat.mul_zero]
        rfl
    · rw [show bt left k = 0 by omega]
      refine Ev_br rfl (fun _ => ?_) (fun hc => absurd nI_0 hc)
      refine Ev_jpe rfl ?_ (c_worst_loop hl hs hK hL hB d (k + 1) (by omega))
      rw [nI_add, hw, show bt left k = 0 by omega, Nat.zero_mul]
      rfl
abbrev woC (sign : Nat) : Int32 := wo (wi (whC S) (sgC S) sign (ho_K (C_to S))) (pop (whC S))
theorem c_worst {left sign : Nat} (hl : left < 32) (hs : sign < 8) (hK : ho_K (C_to S) ≤ 5) (hL : MoL (C_nw S)) (hB : MoB (C_nw S)) : Cl mX8_worstLeft [.ref 0, .int (nI left), .int (nI sign)] (hpC S ++ T) (some (.int (wo (wi left (sgC S) sign (ho_K (C_to S))) (pop left)))) (hpC S ++ T) :=
  a_run_ev 4 rfl (c_worst_loop S T hl hs hK hL hB (ho_K (C_to S)) 0 (by omega))
/-- the least of the first n with the least f -/
def argm (f : Nat → Int32) : Nat → Nat
  | 0 => 0
  | n + 1 => if f n < f (argm f n) then n else argm f n
theorem argm_lt (f : Nat → Int32) : ∀ n, argm f (n + 1) < n + 1
  | 0 => by
    show (if f 0 < f 0 then 0 else 0) < 1
    split <;> decide
  | n + 1 => by
    have := argm_lt f n
    show (if f (n + 1) < f (argm f (n + 1)) then n + 1 else argm f (n + 1)) < n + 2
    split <;> omega
theorem cC_tell_bad {x : Int32} (h0 : ¬ x = nI 0) (h1 : ¬ x = nI 1) : Cl mX8_tell [.ref 0, .int x] (hpC S ++ T) (some (.int kM1)) (hpC S ++ T) := by
  refine Ev_ca rfl (c_isBit_f _ h0 h1) ?_
  exact Ev_br rfl (fun hc => absurd nI_0 hc) (fun _ => Ev_rt rfl rfl rfl rfl)
theorem cC_tell_loop {w : Nat} (hw : w < 2) (hK : ho_K (C_to S) ≤ 5) (hL : MoL (C_nw S)) (hB : MoB (C_nw S)) : ∀ (d n : Nat), n + d = 8 → 0 < n → Ev [] mX8_tell (26, [some (.ref 0), some (.int (nI w)), some (.int (nI (whC S))), some (.int (nI (argm (woC S) n))), some (.int (nI n))], [], hpC S ++ T) (some (.int (if w = 0 then nI (argm (woC S) 8) else woC S (argm (woC S) 8)))) (hpC S ++ T)
  | 0, n, h, hn => by
    have e : n = 8 := by omega
    subst e
    have ha := argm_lt (woC S) 7
    have hl : whC S < 32 := bits32 _ hK
    refine Ev_br rfl (fun _ => ?_) (fun hc => absurd (nI_le (Nat.le_refl _) (by decide)) hc)
    match w, hw with
    | 0, _ => exact Ev_br rfl (fun hc => absurd nI_0 hc) (fun _ => Ev_jp rfl (Ev_rt rfl rfl rfl rfl))
    | 1, _ =>
      refine Ev_br rfl (fun _ => ?_) (fun hc => absurd b1z hc)
      exact Ev_ca rfl (c_worst S T hl (by omega) hK hL hB) (Ev_rt rfl rfl rfl rfl)
  | d + 1, n, h, hn => by
    have hl : whC S < 32 := bits32 _ hK
    obtain ⟨n', rfl⟩ : ∃ n', n = n' + 1 := ⟨n - 1, by omega⟩
    have ha := argm_lt (woC S) n'
    have hs : argm (woC S) (n' + 2) = if woC S (n' + 1) < woC S (argm (woC S) (n' + 1)) then n' + 1 else argm (woC S) (n' + 1) := rfl
    refine Ev_br rfl (fun hc => absurd hc (nI_ge (show n' + 1 < 8 by omega) (by decide))) (fun _ => ?_)
    refine Ev_ca rfl (c_worst S T hl (by omega) hK hL hB) ?_
    refine Ev_ca rfl (c_worst S T hl (by omega) hK hL hB) ?_
    refine Ev_br rfl (fun hc => ?_) (fun hc => ?_)
    · have hc : woC S (argm (woC S) (n' + 1)) ≤ woC S (n' + 1) := hc
      refine Ev_jpe rfl ?_ (cC_tell_loop hw hK hL hB d (n' + 2) (by omega) (by omega))
      rw [nI_add, hs, if_neg (Int32.not_lt.mpr hc)]
      rfl
    · have hc : ¬ woC S (argm (woC S) (n' + 1)) ≤ woC S (n' + 1) := hc
      refine Ev_jpe rfl ?_ (cC_tell_loop hw hK hL hB d (n' + 2) (by omega) (by omega))
      rw [nI_add, hs, if_pos (by
        rcases Decidable.em (woC S (n' + 1) < woC S (argm (woC S) (n' + 1))) with q | q
        · exact q
        · exact absurd (Int32.not_lt.mp q) hc)]
      rfl
theorem cC_tell_none {w : Nat} (hw : w < 2) (hK : ho_K (C_to S) ≤ 5) (hL : MoL (C_nw S)) (hB : MoB (C_nw S)) (hs : (C_ss S).length = 6) (hh : (C_sh S).length = 6) (bs : ∀ i, ssC S i < 8) (bh : ∀ i, shC S i < 2) (hm : C_sm S ≤ 6) (h0 : whC S = 0) : Cl mX8_tell [.ref 0, .int (nI w)] (hpC S ++ T) (some (.int kM9)) (hpC S ++ T) := by
  refine Ev_ca rfl (c_isBit_t _ hw) ?_
  refine Ev_br rfl (fun _ => ?_) (fun hc => absurd b1z hc)
  refine Ev_ca rfl (cC_who S T hK hL hB hs hh bs bh hm) ?_
  rw [h0]
  exact Ev_br rfl (fun hc => absurd nI_0 hc) (fun _ => Ev_rt rfl rfl rfl rfl)
theorem cC_tell {w : Nat} (hw : w < 2) (hK : ho_K (C_to S) ≤ 5) (hL : MoL (C_nw S)) (hB : MoB (C_nw S)) (hs : (C_ss S).length = 6) (hh : (C_sh S).length = 6) (bs : ∀ i, ssC S i < 8) (bh : ∀ i, shC S i < 2) (hm : C_sm S ≤ 6) (h0 : whC S ≠ 0) : Cl mX8_tell [.ref 0, .int (nI w)] (hpC S ++ T) (some (.int (if w = 0 then nI (argm (woC S) 8) else woC S (argm (woC S) 8)))) (hpC S ++ T) := by
  have hl : whC S < 32 := bits32 _ hK
  refine Ev_ca rfl (c_isBit_t _ hw) ?_
  refine Ev_br rfl (fun _ => ?_) (fun hc => absurd b1z hc)
  refine Ev_ca rfl (cC_who S T hK hL hB hs hh bs bh hm) ?_
  refine Ev_br rfl (fun _ => ?_) (fun hc => absurd hc (fun q => q (nI_ne0 (Nat.pos_of_ne_zero h0) (by omega))))
  refine a_run_ev 4 rfl ?_
  have e1 : argm (woC S) 1 = 0 := by
    show (if woC S 0 < woC S 0 then 0 else 0) = 0
    split <;> rfl
  refine Ev_eq ?_ (cC_tell_loop S T hw hK hL hB 7 1 rfl (by decide))
  rw [e1]
  rfl
end

/-! the reference's who, tell -/
theorem bt_and {a b k s : Nat} (ha : a < 2 ^ 31) (hb : b < 2 ^ 31) (hk : k < 31) (hs : s < 31) : ((nI a >>> (nI k &&& 31)) &&& (nI b >>> (nI s &&& 31))) &&& nI 1 = nI (bt a k * bt b s) := by
  have h1 : a / 2 ^ k ≤ a := Nat.div_le_self _ _
  have h2 : b / 2 ^ s ≤ b := Nat.div_le_self _ _
  have h3 : a / 2 ^ k &&& b / 2 ^ s ≤ a / 2 ^ k := Nat.and_le_left
  rw [pk_shrN ha _ k (nI_sh31 k hk).2, pk_shrN hb _ s (nI_sh31 s hs).2, nI_and (by omega) (by omega), pk_andN (by omega) 1 (by decide), Nat.and_mod_two_pow]
  have t1 := bt_lt a k
  have t2 := bt_lt b s
  have key : ∀ x, x < 2 → ∀ y, y < 2 → nI (x &&& y) = nI (x * y) := by decide
  exact key _ t1 _ t2
def MS (M : mS) : Prop := M_sm M ≤ 6 ∧ ∀ i, i < 6 → gd (M_ss M) i < 8 ∧ gd (M_sh M) i < 2
section
variable (S : cS) (M : mS)
abbrev fiM (k : Nat) : Bool := fit (sgM M k) (gd (M_ss M)) (gd (M_sh M)) (M_sm M)
abbrev whM : Nat := bits (fiM M) (M_kn M)
theorem r_fits_in {k X : Nat} {v : Option Value} {h' : aH} (hL : ML M) (hB : MB M) (hS : MS M) (hk : k < 5) (kk : ∀ z, Ev [] mX9_whoFits (68, [some (.ref 104), some (.int (nI X)), some (.int (nI k)), some (.int (nI (fiM M k).toNat)), z], [], hp S M) v h') : ∀ (d i : Nat), i + d = M_sm M → Ev [] mX9_whoFits (17, [some (.ref 104), some (.int (nI X)), some (.int (nI k)), some (.int (nI (fit (sgM M k) (gd (M_ss M)) (gd (M_sh M)) i).toNat)), some (.int (nI i))], [], hp S M) v h'
  | 0, i, e => by
    have h6 := hS.1
    have e : i = M_sm M := by omega
    subst e
    exact Ev_br rfl (fun _ => kk _) (fun hc => absurd (nI_le (Nat.le_refl _) (by omega)) hc)
  | d + 1, i, e => by
    have h6 := hS.1
    obtain ⟨b1, b2⟩ := hS.2 i (by omega)
    have ls := hL.2.2.2.2.2.1
    have l1 := hL.2.2.2.2.2.2.2.2.2.1
    have l2 := hL.2.2.2.2.2.2.2.2.2.2
    have b3 : gd (M_s M) k < 256 := (hB.1 k hk).1
    have ih := r_fits_in (X := X) hL hB hS hk kk d (i + 1) (by omega)
    have hf : fit (sgM M k) (gd (M_ss M)) (gd (M_sh M)) (i + 1) = (fit (sgM M k) (gd (M_ss M)) (gd (M_sh M)) i && (bt (gd (M_s M) k) (gd (M_ss M) i) == gd (M_sh M) i)) := rfl
    rw [hf] at ih
    have hb := bt_lt (gd (M_s M) k) (gd (M_ss M) i)
    refine Ev_br rfl (fun hc => absurd hc (nI_ge (show i < M_sm M by omega) (by omega))) (fun _ => ?_)
    cases h1 : fit (sgM M k) (gd (M_ss M)) (gd (M_sh M)) i with
    | false =>
      rw [h1] at ih
      refine Ev_br rfl (fun _ => ?_) (fun hc => absurd nI_0 hc)
      refine Ev_jpe rfl ?_ ih
      rw [nI_add]
      rfl
    | true =>
      rw [h1, Bool.true_and] at ih
      refine Ev_br rfl (fun hc => absurd hc b1z) (fun _ => ?_)
      refine Ev_ial rfl (i := k) rfl (by omega) (by omega) ?_
      refine Ev_ial rfl (i := i) rfl (by omega) (by omega) ?_
      refine Ev_ial rfl (i := i) rfl (by omega) (by omega) ?_
      refine Ev_br rfl (fun hc => ?_) (fun hc => ?_)
      · have hc : ¬ ((nI (gd (M_s M) k) >>> (nI (gd (M_ss M) i) &&& 31)) &&& nI 1) = nI (gd (M_sh M) i) := hc
        rw [nI_bt (by omega) (by omega), nI_eq (by omega) (by omega)] at hc
        rw [beq_eq_false_iff_ne.mpr hc] at ih
        refine Ev_jpe rfl ?_ ih
        rw [nI_add]
        rfl
      · have hc : ¬ ¬ ((nI (gd (M_s M) k) >>> (nI (gd (M_ss M) i) &&& 31)) &&& nI 1) = nI (gd (M_sh M) i) := hc
        rw [nI_bt (by omega) (by omega), nI_eq (by omega) (by omega), Decidable.not_not] at hc
        rw [beq_iff_eq.mpr hc] at ih
        refine Ev_jp rfl ?_
        refine Ev_jpe rfl ?_ ih
        rw [nI_add]
        rfl
theorem r_fits_loop (hL : ML M) (hB : MB M) (hS : MS M) : ∀ (d k : Nat) (z1 z2 : Option Value), k + d = M_kn M → Ev [] mX9_whoFits (4, [some (.ref 104), some (.int (nI (bits (fiM M) k))), some (.int (nI k)), z1, z2], [], hp S M) (some (.int (nI (whM M)))) (hp S M)
  | 0, k, z1, z2, e => by
    have hK := hB.2.2.2.2.1
    have e : k = M_kn M := by omega
    subst e
    exact Ev_br rfl (fun _ => Ev_rt rfl rfl rfl rfl) (fun hc => absurd (nI_le (Nat.le_refl _) (by omega)) hc)
  | d + 1, k, z1, z2, e => by
    have hK := hB.2.2.2.2.1
    have hb := bits_lt (fiM M) k
    have hpw := pow_lt31 (n := k) (k := 30) (by omega) (by omega)
    refine Ev_br rfl (fun hc => absurd hc (nI_ge (show k < M_kn M by omega) (by omega))) (fun _ => ?_)
    refine a_run_ev 4 rfl (r_fits_in S M hL hB hS (by omega) (fun z => ?_) (M_sm M) 0 (by omega))
    cases hm : fiM M k with
    | true =>
      refine Ev_br rfl (fun hc => absurd hc b1z) (fun _ => ?_)
      refine Ev_jp rfl ?_
      refine Ev_jpe rfl ?_ (r_fits_loop hL hB hS d (k + 1) (some (.int (nI 1))) z (by omega))
      rw [nI_shl1 (by omega), nI_or (by omega) (by omega), nI_add, bits_succ, hm]
      rfl
    | false =>
      refine Ev_br rfl (fun _ => ?_) (fun hc => absurd nI_0 hc)
      refine Ev_jpe rfl ?_ (r_fits_loop hL hB hS d (k + 1) (some (.int (nI 0))) z (by omega))
      rw [nI_or (by omega) (show 0 < 2 ^ 31 by decide), nI_add, bits_succ, hm, if_neg (by decide)]
      rfl
theorem r_fits (hL : ML M) (hB : MB M) (hS : MS M) : Cl mX9_whoFits [.ref 104] (hp S M) (some (.int (nI (whM M)))) (hp S M) :=
  a_run_ev 4 rfl (r_fits_loop S M hL hB hS (M_kn M) 0 none none (by omega))
theorem cM_who (hL : ML M) (hB : MB M) (hS : MS M) : Cl mX9_who [.ref 104] (hp S M) (some (.int (nI (whM M)))) (hp S M) := by
  refine a_run_ev 3 rfl (Ev_h (h2 := hp S M) rfl ?_)
  exact Ev_ca rfl (r_fits S M hL hB hS) (Ev_rt rfl rfl rfl rfl)
theorem cM_tell_bad {x : Int32} (h0 : ¬ x = nI 0) (h1 : ¬ x = nI 1) : Cl mX9_tell [.ref 104, .int x] (hp S M) (some (.int kM1)) (hp S M) := by
  refine a_run_ev 3 rfl (Ev_h (h2 := hp S M) rfl ?_)
  refine Ev_ca rfl (r_in_f _ (bad01 h0 h1)) ?_
  exact Ev_br rfl (fun hc => absurd nI_0 hc) (fun _ => Ev_rt rfl rfl rfl rfl)
abbrev woM (sign : Nat) : Int32 := wo (wi (whM M) (sgM M) sign (M_kn M)) (pop (whM M))
theorem r_tell_in {w n : Nat} {b g : Int32} {z8 : Option Value} {v : Option Value} {h' : aH} (hL : ML M) (hB : MB M) (hn : n < 8) (kk : ∀ z6 z7, Ev [] mX9_tell (110, [some (.ref 104), some (.int (nI w)), some (.int (nI (whM M))), some (.int b), some (.int g), some (.int (nI n)), some (.int z6), some (.int z7), some (.int (woM M n))], [], hp S M) v h') : ∀ (d k : Nat), k + d = M_kn M → Ev [] mX9_tell (48, [some (.ref 104), some (.int (nI w)), some (.int (nI (whM M))), some (.int b), some (.int g), some (.int (nI n)), some (.int (nI (wi (whM M) (sgM M) n k))), some (.int (nI k)), z8], [], hp S M) v h'
  | 0, k, e => by
    have hK := hB.2.2.2.2.1
    have h256 : whM M < 256 := bits256 (fiM M) hK
    have e : k = M_kn M := by omega
    subst e
    refine Ev_br rfl (fun _ => ?_) (fun hc => absurd (nI_le (Nat.le_refl _) (by omega)) hc)
    refine Ev_ca rfl (r_ones _ h256) ?_
    refine Ev_br rfl (fun hc => ?_) (fun hc => ?_)
    · have hc : nI (wi (whM M) (sgM M) n (M_kn M)) ≤ nI (pop (whM M)) - nI (wi (whM M) (sgM M) n (M_kn M)) := hc
      have e9 : woM M n = nI (pop (whM M)) - nI (wi (whM M) (sgM M) n (M_kn M)) := by
        unfold woM wo
        by_cases q : nI (wi (whM M) (sgM M) n (M_kn M)) < nI (pop (whM M)) - nI (wi (whM M) (sgM M) n (M_kn M))
        · rw [if_pos q]
        · rw [if_neg q]
          exact Int32.le_antisymm hc (Int32.not_lt.mp q)
      have kk2 := kk (nI (wi (whM M) (sgM M) n (M_kn M))) (nI (pop (whM M)) - nI (wi (whM M) (sgM M) n (M_kn M)))
      rw [e9] at kk2
      exact a_run_ev 2 rfl kk2
    · have hc : ¬ nI (wi (whM M) (sgM M) n (M_kn M)) ≤ nI (pop (whM M)) - nI (wi (whM M) (sgM M) n (M_kn M)) := hc
      have e9 : woM M n = nI (wi (whM M) (sgM M) n (M_kn M)) := by
        unfold woM wo
        rw [if_neg (fun q => hc (Int32.le_of_lt q))]
      have kk2 := kk (nI (wi (whM M) (sgM M) n (M_kn M))) (nI (pop (whM M)) - nI (wi (whM M) (sgM M) n (M_kn M)))
      rw [e9] at kk2
      exact Ev_jp rfl (a_run_ev 1 rfl kk2)
  | d + 1, k, e => by
    have hK := hB.2.2.2.2.1
    have ls := hL.2.2.2.2.2.1
    have h256 : whM M < 256 := bits256 (fiM M) hK
    have b3 : gd (M_s M) k < 256 := (hB.1 k (by omega)).1
    have ih := r_tell_in (b := b) (g := g) (z8 := z8) hL hB hn kk d (k + 1) (by omega)
    have hs : wi (whM M) (sgM M) n (k + 1) = wi (whM M) (sgM M) n k + bt (whM M) k * bt (gd (M_s M) k) n := rfl
    refine Ev_br rfl (fun hc => absurd hc (nI_ge (show k < M_kn M by omega) (by omega))) (fun _ => ?_)
    refine Ev_ial rfl (i := k) rfl (by omega) (by omega) ?_
    refine Ev_jpe rfl ?_ ih
    rw [bt_and (by omega) (by omega) (by omega) (by omega), nI_add, nI_add, hs]
theorem cM_tell_loop {w : Nat} (hw : w < 2) (hL : ML M) (hB : MB M) (h0 : whM M ≠ 0) : ∀ (d n : Nat) (z6 z7 z8 : Option Value), n + d = 8 → 0 < n → Ev [] mX9_tell (31, [some (.ref 104), some (.int (nI w)), some (.int (nI (whM M))), some (.int (nI (argm (woM M) n))), some (.int (woM M (argm (woM M) n))), some (.int (nI n)), z6, z7, z8], [], hp S M) (some (.int (if w = 0 then nI (argm (woM M) 8) else woM M (argm (woM M) 8)))) (hp S M)
  | 0, n, z6, z7, z8, e, hn => by
    have e : n = 8 := by omega
    subst e
    refine Ev_br rfl (fun _ => ?_) (fun hc => absurd (nI_le (Nat.le_refl _) (by decide)) hc)
    match w, hw with
    | 0, _ => exact Ev_br rfl (fun hc => absurd nI_0 hc) (fun _ => Ev_jp rfl (Ev_rt rfl rfl rfl rfl))
    | 1, _ => exact Ev_br rfl (fun _ => Ev_rt rfl rfl rfl rfl) (fun hc => absurd b1z hc)
  | d + 1, n, z6, z7, z8, e, hn => by
    have hK := hB.2.2.2.2.1
    have h256 : whM M < 256 := bits256 (fiM M) hK
    obtain ⟨n', rfl⟩ : ∃ n', n = n' + 1 := ⟨n - 1, by omega⟩
    have ha := argm_lt (woM M) n'
    have hs : argm (woM M) (n' + 2) = if woM M (n' + 1) < woM M (argm (woM M) (n' + 1)) then n' + 1 else argm (woM M) (n' + 1) := rfl
    refine Ev_br rfl (fun hc => absurd hc (nI_ge (show n' + 1 < 8 by omega) (by decide))) (fun _ => ?_)
    refine Ev_br rfl (fun hc => absurd hc (nI_ne0 (Nat.pos_of_ne_zero h0) (by omega))) (fun _ => ?_)
    refine a_run_ev 4 rfl (r_tell_in S M hL hB (by omega) (fun y6 y7 => ?_) (M_kn M) 0 (by omega))
    refine Ev_br rfl (fun hc => absurd hc (kM9_ne _ (by omega))) (fun _ => ?_)
    have ih := fun y8 => cM_tell_loop hw hL hB h0 d (n' + 2) (some (.int y6)) (some (.int y7)) y8 (by omega) (by omega)
    refine Ev_br rfl (fun hc => ?_) (fun hc => ?_)
    · have hc : woM M (argm (woM M) (n' + 1)) ≤ woM M (n' + 1) := hc
      rw [if_neg (Int32.not_lt.mpr hc)] at hs
      rw [hs] at ih
      refine Ev_br rfl (fun _ => ?_) (fun hc2 => ?_)
      · refine a_run_ev 1 rfl ?_
        refine Ev_jpe rfl ?_ (ih (some (.int (woM M (n' + 1)))))
        rw [nI_add]
      · have hc2 : ¬ nI (argm (woM M) (n' + 1)) ≠ nI (n' + 1) := hc2
        rw [Decidable.not_not, nI_eq (by omega) (by omega)] at hc2
        omega
    · have hc : ¬ woM M (argm (woM M) (n' + 1)) ≤ woM M (n' + 1) := hc
      have hlt : woM M (n' + 1) < woM M (argm (woM M) (n' + 1)) := by
        rcases Decidable.em (woM M (n' + 1) < woM M (argm (woM M) (n' + 1))) with q | q
        · exact q
        · exact absurd (Int32.not_lt.mp q) hc
      rw [if_pos hlt] at hs
      rw [hs] at ih
      refine Ev_jp rfl ?_
      refine Ev_br rfl (fun hc2 => absurd rfl hc2) (fun _ => ?_)
      refine Ev_jp rfl ?_
      refine Ev_jpe rfl ?_ (ih (some (.int (woM M (n' + 1)))))
      rw [nI_add]
theorem cM_tell_head {w : Nat} {v : Option Value} {h' : aH} (hw : w < 2) (hL : ML M) (hB : MB M) (hS : MS M) (kk : Ev [] mX9_tell (31, [some (.ref 104), some (.int (nI w)), some (.int (nI (whM M))), some (.int kM9), some (.int kM9), some (.int (nI 0)), none, none, none], [], hp S M) v h') : Cl mX9_tell [.ref 104, .int (nI w)] (hp S M) v h' := by
  refine a_run_ev 3 rfl (Ev_h (h2 := hp S M) rfl ?_)
  refine Ev_ca rfl (r_in_t _ (Nat.zero_le _) (show w ≤ 1 by omega) (by decide)) ?_
  refine Ev_br rfl (fun _ => ?_) (fun hc => absurd b1z hc)
  refine Ev_ca rfl (r_fits S M hL hB hS) ?_
  exact a_run_ev 7 rfl kk
theorem cM_tell_none {w : Nat} (hw : w < 2) (hL : ML M) (hB : MB M) (hS : MS M) (h0 : whM M = 0) : Cl mX9_tell [.ref 104, .int (nI w)] (hp S M) (some (.int kM9)) (hp S M) := by
  refine cM_tell_head S M hw hL hB hS ?_
  rw [h0]
  refine Ev_br rfl (fun hc => absurd hc (show ¬ nI 8 ≤ nI 0 by decide)) (fun _ => ?_)
  refine Ev_br rfl (fun _ => ?_) (fun hc => absurd nI_0 hc)
  match w, hw with
  | 0, _ => exact Ev_br rfl (fun hc => absurd nI_0 hc) (fun _ => Ev_jp rfl (Ev_rt rfl rfl rfl rfl))
  | 1, _ => exact Ev_br rfl (fun _ => Ev_rt rfl rfl rfl rfl) (fun hc => absurd b1z hc)
theorem cM_tell {w : Nat} (hw : w < 2) (hL : ML M) (hB : MB M) (hS : MS M) (h0 : whM M ≠ 0) : Cl mX9_tell [.ref 104, .int (nI w)] (hp S M) (some (.int (if w = 0 then nI (argm (woM M) 8) else woM M (argm (woM M) 8)))) (hp S M) := by
  have hK := hB.2.2.2.2.1
  have h256 : whM M < 256 := bits256 (fiM M) hK
  have e1 : argm (woM M) 1 = 0 := by
    show (if woM M 0 < woM M 0 then 0 else 0) = 0
    split <;> rfl
  refine cM_tell_head S M hw hL hB hS ?_
  refine Ev_br rfl (fun hc => absurd hc (show ¬ nI 8 ≤ nI 0 by decide)) (fun _ => ?_)
  refine Ev_br rfl (fun hc => absurd hc (nI_ne0 (Nat.pos_of_ne_zero h0) (by omega))) (fun _ => ?_)
  refine a_run_ev 4 rfl (r_tell_in S M hL hB (by omega) (fun y6 y7 => ?_) (M_kn M) 0 (by omega))
  refine Ev_br rfl (fun _ => ?_) (fun hc => absurd rfl hc)
  refine Ev_jp rfl ?_
  refine Ev_br rfl (fun hc2 => absurd rfl hc2) (fun _ => ?_)
  refine Ev_jp rfl ?_
  have ih := cM_tell_loop S M hw hL hB h0 7 1 (some (.int y6)) (some (.int y7)) (some (.int (woM M 0))) (by omega) (by decide)
  rw [e1] at ih
  refine Ev_jpe rfl ?_ ih
  rw [nI_add]
end

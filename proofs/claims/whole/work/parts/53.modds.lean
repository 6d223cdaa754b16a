/-! the reference's type, gcd, odds -/
theorem byte_eq (y : Int64) : (y.toInt32.toInt8.toInt32 &&& 255) = (y &&& 255).toInt32 := by
  apply Int32.toBitVec_inj.mp
  apply BitVec.eq_of_getLsbD_eq
  intro i hi
  simp only [Int32.toBitVec_and, Int8.toBitVec_toInt32, Int32.toBitVec_toInt8, Int64.toBitVec_toInt32, Int64.toBitVec_and]
  simp only [BitVec.getLsbD_and, BitVec.getLsbD_signExtend]
  have h1 : (255 : Int32).toBitVec.getLsbD i = decide (i < 8) := by
    have : ∀ i, i < 32 → (255 : Int32).toBitVec.getLsbD i = decide (i < 8) := by decide
    exact this i hi
  have h2 : (255 : Int64).toBitVec.getLsbD i = decide (i < 8) := by
    have : ∀ i, i < 32 → (255 : Int64).toBitVec.getLsbD i = decide (i < 8) := by decide
    exact this i hi
  rw [h1, h2]
  by_cases h : i < 8
  · simp [h, hi, show i < 64 by omega]
  · simp [h]
    omega
/-- what a byte is, read without its sign -/
def bN (z : Int32) : Nat := z.toBitVec.toNat % 256
theorem bN_lt (z : Int32) : bN z < 256 := Nat.mod_lt _ (by decide)
theorem byte_nat (z : Int32) : z &&& 255 = nI (bN z) := by
  apply Int32.toBitVec_inj.mp
  apply BitVec.eq_of_toNat_eq
  rw [Int32.toBitVec_and, BitVec.toNat_and]
  show z.toBitVec.toNat &&& 255 = (BitVec.ofNat 32 (z.toBitVec.toNat % 256)).toNat
  have h := Nat.mod_lt z.toBitVec.toNat (show 0 < 256 by decide)
  rw [BitVec.toNat_ofNat, Nat.mod_eq_of_lt (show z.toBitVec.toNat % 256 < 2 ^ 32 by omega)]
  exact Nat.and_two_pow_sub_one_eq_mod z.toBitVec.toNat 8
/-- the byte of v that is typed, a number -/
def byN (v : Int64) (i : Nat) : Nat := bN (byI v i).toInt8.toInt32
theorem byN_eq (v : Int64) (i : Nat) : ((v >>> ((nI 8 * nI i).toInt64 &&& 63)) &&& 255).toInt32 = nI (byN v i) := by
  rw [← byte_eq]
  exact byte_nat _
def addM (M : mS) (x : Nat) : mS := Ms_ty (Ms_tx M ((M_tx M).set (M_ty M) x)) (M_ty M + 1)
def tyM (v : Int64) : Nat → mS → mS
  | 0, M => M
  | i + 1, M => tyM v i (addM M (byN v i))
section
variable (S : cS)
theorem cM_type_loop (v : Int64) {m : Int32} : ∀ (i : Nat) (M : mS), (M_tx M).length = 300 → M_ty M + i ≤ 300 → i ≤ 8 → Ev [] mX9_type (37, [some (.ref 104), some (.long v), none, some (.int m), some (.int (nI i + kM1))], [], hp S M) (some (.int (nI (M_ty M + i)))) (hp S (tyM v i M))
  | 0, M, hl, h, _ => by
    refine Ev_br rfl (fun _ => Ev_rt rfl rfl rfl rfl) (fun hc => absurd (show nI 0 + kM1 < 0 by decide) hc)
  | i + 1, M, hl, h, h8 => by
    have e : nI (i + 1) + kM1 = nI i := pk_m1 i
    rw [e]
    refine Ev_br rfl (fun hc => absurd hc (nI_pos (by omega))) (fun _ => ?_)
    have ih := cM_type_loop v (m := m) i (addM M (byN v i)) (by show ((M_tx M).set _ _).length = 300; rw [List.length_set]; exact hl) (by show M_ty M + 1 + i ≤ 300; omega) (by omega)
    rw [show M_ty (addM M (byN v i)) + i = M_ty M + (i + 1) by show M_ty M + 1 + i = _; omega] at ih
    refine Ev_isl rfl (i := M_ty M) (y := byN v i) rfl (byN_eq v i) (by omega) (by omega) (h2 := hp S (Ms_tx M ((M_tx M).set (M_ty M) (byN v i)))) rfl ?_
    refine a_run_ev 6 rfl ?_
    refine Ev_h (h2 := hp S (addM M (byN v i))) (by rw [nI_add]; rfl) ?_
    exact Ev_jp rfl ih
variable (M : mS)
theorem cM_type_bad {v : Int64} {n : Int32} (hn : n < nI 1 ∨ nI 8 < n) : Cl mX9_type [.ref 104, .long v, .int n] (hp S M) (some (.int kM1)) (hp S M) := by
  refine a_run_ev 3 rfl (Ev_h (h2 := hp S M) rfl ?_)
  refine Ev_ca rfl (r_in_f _ hn) ?_
  exact Ev_br rfl (fun hc => absurd nI_0 hc) (fun _ => Ev_rt rfl rfl rfl rfl)
theorem cM_type_full {v : Int64} {n : Nat} (h1 : 1 ≤ n) (h8 : n ≤ 8) (hl : M_ty M ≤ 300) (h : 300 < M_ty M + n) : Cl mX9_type [.ref 104, .long v, .int (nI n)] (hp S M) (some (.int kM3)) (hp S M) := by
  refine a_run_ev 3 rfl (Ev_h (h2 := hp S M) rfl ?_)
  refine Ev_ca rfl (r_in_t _ h1 h8 (by decide)) ?_
  refine Ev_br rfl (fun _ => ?_) (fun hc => absurd b1z hc)
  refine Ev_br rfl (fun hc => ?_) (fun _ => Ev_rt rfl rfl rfl rfl)
  have hc : nI (M_ty M) + nI n ≤ nI 300 := hc
  rw [nI_add, nI_leI (by omega) (by decide)] at hc
  omega
theorem cM_type {v : Int64} {n : Nat} (h1 : 1 ≤ n) (h8 : n ≤ 8) (hL : ML M) (h : M_ty M + n ≤ 300) : Cl mX9_type [.ref 104, .long v, .int (nI n)] (hp S M) (some (.int (nI (M_ty M + n)))) (hp S (tyM v n M)) := by
  refine a_run_ev 3 rfl (Ev_h (h2 := hp S M) rfl ?_)
  refine Ev_ca rfl (r_in_t _ h1 h8 (by decide)) ?_
  refine Ev_br rfl (fun _ => ?_) (fun hc => absurd b1z hc)
  refine Ev_br rfl (fun _ => ?_) (fun hc => ?_)
  · refine a_run_ev 4 rfl ?_
    refine Ev_eq ?_ (cM_type_loop S v (m := nI n) n M hL.1 h h8)
    rw [show nI n + kM1 = nI n - nI 1 by
      obtain ⟨k, rfl⟩ : ∃ k, n = k + 1 := ⟨n - 1, by omega⟩
      rw [pk_sub (by omega)]
      exact pk_m1 k]
    rfl
  · have hc : ¬ nI (M_ty M) + nI n ≤ nI 300 := hc
    rw [nI_add, nI_leI (by omega) (by decide)] at hc
    omega
end
/-- Euclid's way ends within so many steps -/
def euT : Nat → Nat → Nat → Prop
  | 0, _, b => b = 0
  | n + 1, a, b => b = 0 ∨ euT n b (a % b)
theorem euT_lt : ∀ (k a b : Nat), b < 2 ^ k → euT (k + k) a b
  | 0, a, b, h => by
    show b = 0
    omega
  | k + 1, a, b, h => by
    rw [show k + 1 + (k + 1) = (k + k + 1) + 1 by omega]
    show b = 0 ∨ (a % b = 0 ∨ euT (k + k) (a % b) (b % (a % b)))
    by_cases h0 : b = 0
    · exact Or.inl h0
    refine Or.inr ?_
    by_cases h1 : a % b = 0
    · exact Or.inl h1
    refine Or.inr (euT_lt k _ _ ?_)
    have hr := Nat.mod_lt a (show 0 < b by omega)
    generalize a % b = r at h1 hr ⊢
    have h2 := Nat.mod_lt b (show 0 < r by omega)
    have h4 : 2 ^ (k + 1) = 2 ^ k * 2 := Nat.pow_succ 2 k
    by_cases h3 : 2 * r ≤ b
    · omega
    · rw [Nat.mod_eq_sub_mod (by omega), Nat.mod_eq_of_lt (show b - r < r by omega)]
      omega
theorem eu_0 : ∀ (n a : Nat), eu n a 0 = a
  | 0, _ => rfl
  | _ + 1, _ => rfl
theorem r_gcd_loop (h : aH) {u v : Value} : ∀ (n a b : Nat) (z : Option Value), euT n a b → a < 2 ^ 62 → b < 2 ^ 62 → Ev [] mX9_gcd (6, [some u, none, some v, none, some (.long (lN a)), none, some (.long (lN b)), none, z, none], [], h) (some (.long (lN (eu n a b)))) h
  | n, a, b, z, e, ha, hb => by
    by_cases h0 : b = 0
    · subst h0
      rw [eu_0]
      exact Ev_br rfl (fun _ => Ev_rt rfl rfl rfl rfl) (fun hc => absurd ((lg_cmp0 (b := 0) (by decide)).mpr rfl) hc)
    match n, e with
    | 0, e => exact absurd e h0
    | n + 1, e =>
      have hr : a % b < 2 ^ 62 := Nat.lt_of_le_of_lt (Nat.mod_le _ _) ha
      have e2 : eu (n + 1) a b = eu n b (a % b) := if_neg h0
      have e3 : euT n b (a % b) := Or.resolve_left e h0
      have hne : ¬ lN b = 0 := fun q => h0 ((pk_lEQ (b := 0) (by omega) (by decide)).mp q)
      have hrem := pk_lRem (a := a) (b := b) (by omega) (by omega) (by omega)
      rw [e2]
      refine Ev_br rfl (fun hc => absurd ((lg_cmp0 hb).mp hc) h0) (fun _ => ?_)
      refine Ev_ck rfl (decide_eq_true hne) ?_
      rw [hrem]
      exact Ev_jp rfl (r_gcd_loop h n b (a % b) (some (.long (lN (a % b)))) e3 hb hr)
theorem r_gcd (h : aH) {a b : Nat} (ha : a < 2 ^ 62) (hb : b < 2 ^ 50) : Cl mX9_gcd [.long (lN a), .long (lN b)] h (some (.long (lN (eu 100 a b)))) h :=
  a_run_ev 4 rfl (r_gcd_loop h 100 a b none (euT_lt 50 a b hb) ha (by omega))
/-- how likely: c SIGNS stay, then others don't -/
def lk (p c e : Nat) : Nat := (10 - p) ^ (min e c) * p ^ (e - c)
theorem lk_succ (p c e : Nat) : lk p c (e + 1) = lk p c e * (if e < c then 10 - p else p) := by
  unfold lk
  by_cases h : e < c
  · rw [if_pos h, Nat.min_eq_left (by omega), Nat.min_eq_left (by omega), show e + 1 - c = 0 by omega, show e - c = 0 by omega, Nat.pow_succ, Nat.pow_zero, Nat.mul_one, Nat.mul_one]
  · rw [if_neg h, Nat.min_eq_right (by omega), Nat.min_eq_right (by omega), show e + 1 - c = (e - c) + 1 by omega, Nat.pow_succ, Nat.mul_assoc]
theorem lk_0 (p c : Nat) : lk p c 0 = 1 := by
  unfold lk
  rw [Nat.min_eq_left (Nat.zero_le _), Nat.zero_sub, Nat.pow_zero, Nat.pow_zero]
theorem lk_end {p c t : Nat} (h : c ≤ t) : lk p c t = (10 - p) ^ c * p ^ (t - c) := by
  unfold lk
  rw [Nat.min_eq_right h]
section
variable (S : cS) (M : mS)
theorem r_likely {k p w n : Nat} {u d : Nat} {v : Option Value} {h' : aH} (hL : ML M) (hB : MB M) (hk : k < 5) (hp10 : p ≤ 10) (hn : n < 256) (kk : Ev [] mX9_odds (158, [some (.ref 104), some (.int (nI k)), some (.int (nI p)), some (.int (nI w)), some (.long (lN u)), none, some (.long (lN d)), none, some (.int (nI n)), some (.long (lN (lk p (pop n) (pop (sgM M k))))), none, some (.int (nI (pop (sgM M k))))], [], hp S M) v h') : ∀ (q e : Nat), e + q = pop (sgM M k) → Ev [] mX9_odds (113, [some (.ref 104), some (.int (nI k)), some (.int (nI p)), some (.int (nI w)), some (.long (lN u)), none, some (.long (lN d)), none, some (.int (nI n)), some (.long (lN (lk p (pop n) e))), none, some (.int (nI e))], [], hp S M) v h'
  | 0, e, he => by
    have ls := hL.2.2.2.2.2.1
    have b3 : gd (M_s M) k < 256 := (hB.1 k hk).1
    have p8 := pop_le (gd (M_s M) k)
    have he : e = pop (gd (M_s M) k) := by omega
    subst he
    refine Ev_ial rfl (i := k) rfl (by omega) (by omega) ?_
    refine Ev_ca rfl (r_ones _ b3) ?_
    exact Ev_br rfl (fun _ => kk) (fun hc => absurd (nI_le (Nat.le_refl _) (by omega)) hc)
  | q + 1, e, he => by
    have ls := hL.2.2.2.2.2.1
    have b3 : gd (M_s M) k < 256 := (hB.1 k hk).1
    have p8 := pop_le (gd (M_s M) k)
    have pn8 := pop_le n
    have he : e + (q + 1) = pop (gd (M_s M) k) := he
    have ih := r_likely (w := w) (u := u) (d := d) (h' := h') hL hB hk hp10 hn kk q (e + 1) (by omega)
    rw [lk_succ] at ih
    refine Ev_ial rfl (i := k) rfl (by omega) (by omega) ?_
    refine Ev_ca rfl (r_ones _ b3) ?_
    refine Ev_br rfl (fun hc => absurd hc (nI_ge (show e < pop (gd (M_s M) k) by omega) (by omega))) (fun _ => ?_)
    refine Ev_ca rfl (r_ones _ hn) ?_
    refine Ev_br rfl (fun hc => ?_) (fun hc => ?_)
    · have hc : nI (pop n) ≤ nI e := hc
      rw [nI_leI (by omega) (by omega)] at hc
      rw [if_neg (by omega)] at ih
      refine Ev_jpe rfl ?_ ih
      rw [nI_l (show p < 2 ^ 31 by omega), lN_mul, nI_add]
    · have hc : ¬ nI (pop n) ≤ nI e := hc
      rw [nI_leI (by omega) (by omega)] at hc
      rw [if_pos (by omega)] at ih
      refine Ev_jp rfl ?_
      refine Ev_jpe rfl ?_ ih
      rw [show nI 10 - nI p = nI (10 - p) from pk_sub hp10, nI_l (show 10 - p < 2 ^ 31 by omega), lN_mul, nI_add]
theorem cM_odds_loop {k p w : Nat} (hL : ML M) (hB : MB M) (hk : k < 5) (hp10 : p ≤ 10) (hw : w < 2) : ∀ (d n : Nat) (z9 z11 : Option Value), n + d = 256 → Ev [] mX9_odds (76, [some (.ref 104), some (.int (nI k)), some (.int (nI p)), some (.int (nI w)), some (.long (lN (od (leM M) (sgM M k) p n))), none, some (.long (lN (10 ^ pop (sgM M k)))), none, some (.int (nI n)), z9, none, z11], [], hp S M) (some (.long (lN (odV (od (leM M) (sgM M k) p 256) (10 ^ pop (sgM M k)) w)))) (hp S M)
  | 0, n, z9, z11, e => by
    have e : n = 256 := by omega
    subst e
    have b3 : gd (M_s M) k < 256 := (hB.1 k hk).1
    have hps := pop_le (gd (M_s M) k)
    have hup : od (leM M) (gd (M_s M) k) p 256 ≤ 256 * 100000000 := od_le hp10 b3 256 (Nat.le_refl _)
    have hlow : 10 ^ pop (gd (M_s M) k) ≤ 10 ^ 8 := Nat.pow_le_pow_right (by decide) hps
    have hlow0 : 0 < 10 ^ pop (gd (M_s M) k) := Nat.pow_pos (by decide)
    generalize hlw : 10 ^ pop (gd (M_s M) k) = low at hlow hlow0 ⊢
    generalize od (leM M) (gd (M_s M) k) p 256 = up at hup ⊢
    have hg0 : 0 < eu 100 up low := eu_pos2 99 up low hlow0
    have hg1 : eu 100 up low ≤ 256 * 100000000 := eu_le 100 up low _ hup (by omega)
    have hne : ¬ lN (eu 100 up low) = 0 := fun q => by
      have := (pk_lEQ (b := 0) (by omega) (by decide)).mp q
      omega
    refine Ev_br rfl (fun _ => ?_) (fun hc => absurd (nI_le (Nat.le_refl 256) (by decide)) hc)
    refine Ev_ca rfl (r_gcd _ (by omega) (by omega)) ?_
    match w, hw with
    | 0, _ =>
      refine Ev_br rfl (fun hc => absurd nI_0 hc) (fun _ => ?_)
      refine Ev_ck rfl (decide_eq_true hne) ?_
      rw [pk_lDiv (by omega) hg0 (by omega)]
      exact Ev_jp rfl (Ev_rt rfl rfl rfl rfl)
    | 1, _ =>
      refine Ev_br rfl (fun _ => ?_) (fun hc => absurd b1z hc)
      refine Ev_ck rfl (decide_eq_true hne) ?_
      rw [pk_lDiv (by omega) hg0 (by omega)]
      exact Ev_rt rfl rfl rfl rfl
  | d + 1, n, z9, z11, e => by
    have ls := hL.2.2.2.2.2.1
    have b3 : gd (M_s M) k < 256 := (hB.1 k hk).1
    have hle : n &&& (255 ^^^ gd (M_s M) k) ≤ n := Nat.and_le_left
    have hod : od (leM M) (gd (M_s M) k) p (n + 1) = od (leM M) (gd (M_s M) k) p n + if n &&& (255 ^^^ gd (M_s M) k) = 0 ∧ leM M n = true then (10 - p) ^ pop n * p ^ (pop (gd (M_s M) k) - pop n) else 0 := rfl
    have ih := fun z9 z11 => cM_odds_loop hL hB hk hp10 hw d (n + 1) z9 z11 (by omega)
    have hand := andN n (by omega) (gd (M_s M) k) b3
    refine Ev_br rfl (fun hc => absurd hc (nI_ge (show n < 256 by omega) (by decide))) (fun _ => ?_)
    refine Ev_ial rfl (i := k) rfl (by omega) (by omega) ?_
    refine Ev_br rfl (fun hc => ?_) (fun hc => ?_)
    · have hc : (nI n &&& (nI (gd (M_s M) k) ^^^ kM1)) ≠ 0 := hc
      rw [hand] at hc
      refine Ev_jpe rfl ?_ (ih z9 z11)
      rw [nI_add, hod, if_neg (fun q => hc (by rw [q.1]; exact nI_0))]
      rfl
    · have hc : ¬ (nI n &&& (nI (gd (M_s M) k) ^^^ kM1)) ≠ 0 := hc
      rw [hand, ← nI_0, Decidable.not_not, nI_eq (by omega) (by decide)] at hc
      refine Ev_ca rfl (r_isLetIn S M hL hB (show n < 256 by omega)) ?_
      cases hl : leM M n with
      | false =>
        refine Ev_br rfl (fun _ => ?_) (fun q => absurd nI_0 q)
        refine Ev_jpe rfl ?_ (ih z9 z11)
        rw [nI_add, hod, hl, if_neg (fun q => by cases q.2), Nat.add_zero]
        rfl
      | true =>
        have h1 := pop_sub n (by omega) (gd (M_s M) k) b3 hc
        refine Ev_br rfl (fun q => absurd q b1z) (fun _ => ?_)
        refine a_run_ev 4 rfl ?_
        refine Ev_eq ?_ (r_likely (w := w) (u := od (leM M) (sgM M k) p n) (d := 10 ^ pop (sgM M k)) S M hL hB hk hp10 (show n < 256 by omega) ?_ (pop (sgM M k)) 0 (by omega))
        · rw [lk_0]
          rfl
        · refine Ev_jpe rfl ?_ (ih (some (.long (lN (lk p (pop n) (pop (sgM M k)))))) (some (.int (nI (pop (sgM M k))))))
          rw [nI_add, hod, hl, if_pos ⟨hc, rfl⟩, ← lN_add, ← lk_end h1]
theorem cM_odds_down {k p w : Nat} {v : Option Value} {h' : aH} (hL : ML M) (hB : MB M) (hk : k < 5) (kk : Ev [] mX9_odds (73, [some (.ref 104), some (.int (nI k)), some (.int (nI p)), some (.int (nI w)), some (.long (lN 0)), none, some (.long (lN (10 ^ pop (sgM M k)))), none, some (.int (nI (pop (sgM M k)))), none, none, none], [], hp S M) v h') : ∀ (q e : Nat), e + q = pop (sgM M k) → Ev [] mX9_odds (45, [some (.ref 104), some (.int (nI k)), some (.int (nI p)), some (.int (nI w)), some (.long (lN 0)), none, some (.long (lN (10 ^ e))), none, some (.int (nI e)), none, none, none], [], hp S M) v h'
  | 0, e, he => by
    have ls := hL.2.2.2.2.2.1
    have b3 : gd (M_s M) k < 256 := (hB.1 k hk).1
    have p8 := pop_le (gd (M_s M) k)
    have he : e = pop (gd (M_s M) k) := by omega
    subst he
    refine Ev_ial rfl (i := k) rfl (by omega) (by omega) ?_
    refine Ev_ca rfl (r_ones _ b3) ?_
    exact Ev_br rfl (fun _ => kk) (fun hc => absurd (nI_le (Nat.le_refl _) (by omega)) hc)
  | q + 1, e, he => by
    have ls := hL.2.2.2.2.2.1
    have b3 : gd (M_s M) k < 256 := (hB.1 k hk).1
    have p8 := pop_le (gd (M_s M) k)
    have he : e + (q + 1) = pop (gd (M_s M) k) := he
    have ih := cM_odds_down hL hB hk kk q (e + 1) (by omega)
    refine Ev_ial rfl (i := k) rfl (by omega) (by omega) ?_
    refine Ev_ca rfl (r_ones _ b3) ?_
    refine Ev_br rfl (fun hc => absurd hc (nI_ge (show e < pop (gd (M_s M) k) by omega) (by omega))) (fun _ => ?_)
    refine Ev_jpe rfl ?_ ih
    rw [nI_add, Nat.pow_succ, ← lN_mul]
theorem cM_odds_bad {x y z : Int32} (hB : MB M) (hx : x < 0 ∨ nI (M_kn M) ≤ x) : Cl mX9_odds [.ref 104, .int x, .int y, .int z] (hp S M) (some (.long (a_kl (-1)))) (hp S M) := by
  refine a_run_ev 3 rfl (Ev_h (h2 := hp S M) rfl ?_)
  refine Ev_ca rfl (r_isK_f S M hB.2.2.2.2.1 hx) ?_
  exact Ev_br rfl (fun _ => Ev_rt rfl rfl rfl rfl) (fun hc => absurd nI_0 hc)
theorem cM_odds_bad2 {k : Nat} {y z : Int32} (hB : MB M) (hk : k < M_kn M) (hy : y < 0 ∨ nI 10 < y) : Cl mX9_odds [.ref 104, .int (nI k), .int y, .int z] (hp S M) (some (.long (a_kl (-1)))) (hp S M) := by
  refine a_run_ev 3 rfl (Ev_h (h2 := hp S M) rfl ?_)
  refine Ev_ca rfl (r_isK_t S M hk hB.2.2.2.2.1) ?_
  refine Ev_br rfl (fun hc => absurd hc b1z) (fun _ => ?_)
  refine Ev_ca rfl (r_in_f _ (by rw [nI_0]; exact hy)) ?_
  exact Ev_br rfl (fun _ => Ev_rt rfl rfl rfl rfl) (fun hc => absurd nI_0 hc)
theorem cM_odds_bad3 {k p : Nat} {z : Int32} (hB : MB M) (hk : k < M_kn M) (hp10 : p ≤ 10) (h0 : ¬ z = nI 0) (h1 : ¬ z = nI 1) : Cl mX9_odds [.ref 104, .int (nI k), .int (nI p), .int z] (hp S M) (some (.long (a_kl (-1)))) (hp S M) := by
  refine a_run_ev 3 rfl (Ev_h (h2 := hp S M) rfl ?_)
  refine Ev_ca rfl (r_isK_t S M hk hB.2.2.2.2.1) ?_
  refine Ev_br rfl (fun hc => absurd hc b1z) (fun _ => ?_)
  refine Ev_ca rfl (r_in_t _ (Nat.zero_le _) hp10 (by decide)) ?_
  refine Ev_br rfl (fun hc => absurd hc b1z) (fun _ => ?_)
  refine Ev_ca rfl (r_in_f _ (bad01 h0 h1)) ?_
  exact Ev_br rfl (fun hc => absurd nI_0 hc) (fun _ => Ev_rt rfl rfl rfl rfl)
theorem cM_odds {k p w : Nat} (hL : ML M) (hB : MB M) (hk : k < M_kn M) (hp10 : p ≤ 10) (hw : w < 2) : Cl mX9_odds [.ref 104, .int (nI k), .int (nI p), .int (nI w)] (hp S M) (some (.long (lN (odV (od (leM M) (sgM M k) p 256) (10 ^ pop (sgM M k)) w)))) (hp S M) := by
  have hK := hB.2.2.2.2.1
  refine a_run_ev 3 rfl (Ev_h (h2 := hp S M) rfl ?_)
  refine Ev_ca rfl (r_isK_t S M hk hB.2.2.2.2.1) ?_
  refine Ev_br rfl (fun hc => absurd hc b1z) (fun _ => ?_)
  refine Ev_ca rfl (r_in_t _ (Nat.zero_le _) hp10 (by decide)) ?_
  refine Ev_br rfl (fun hc => absurd hc b1z) (fun _ => ?_)
  refine Ev_ca rfl (r_in_t _ (Nat.zero_le _) (show w ≤ 1 by omega) (by decide)) ?_
  refine Ev_br rfl (fun _ => ?_) (fun hc => absurd b1z hc)
  refine a_run_ev 6 rfl ?_
  refine cM_odds_down (p := p) (w := w) S M hL hB (show k < 5 by omega) ?_ (pop (sgM M k)) 0 (by omega)
  refine a_run_ev 2 rfl ?_
  exact cM_odds_loop S M hL hB (show k < 5 by omega) hp10 hw 256 0 none none (by omega)
end

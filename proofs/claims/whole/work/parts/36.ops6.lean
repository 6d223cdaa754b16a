/-! the class's methods: what they answer (6): type, power, the common divisor -/
/-- the byte of v that is typed -/
def byI (v : Int64) (i : Nat) : Int32 := (v >>> ((nI 8 * nI i).toInt64 &&& 63)).toInt32
theorem i8_idem (z : Int32) : z.toInt8.toInt32.toInt8.toInt32 = z.toInt8.toInt32 := by
  have h := pk_vb z
  rw [vp_nar_byte] at h
  exact h
section
variable (S : cS) (T : aH)
def addS (x : Int32) : cS := Cs_tl (Cs_tb S ((C_tb S).set (C_tl S) x.toInt8.toInt32)) (C_tl S + 1)
theorem c_Tadd_tail {a b : Value} (h : C_tl S < 300) : Ev [] mX5_add (31, [some a, some b], [], hpC S ++ T) none (hpC (Cs_tl S (C_tl S + 1)) ++ T) → True := fun _ => trivial
theorem c_Tadd {x : Int32} (hl : (C_tb S).length = 300) (h : C_tl S < 300) : Cl mX5_add [.ref 1, .int x] (hpC S ++ T) none (hpC (addS S x) ++ T) := by
  refine Ev_br rfl (fun hc => absurd hc (nI_pos (by omega))) (fun _ => ?_)
  refine Ev_br rfl (fun _ => ?_) (fun hc => ?_)
  · refine Ev_ck rfl (a_inN (by rw [hl]; exact h) (by rw [hl]; decide)) ?_
    refine Ev_h (h2 := hpC (Cs_tb S ((C_tb S).set (C_tl S) x.toInt8.toInt32)) ++ T) ?_ ?_
    · rw [nI_clamp (by omega), i8_idem]
      rfl
    · refine a_run_ev 6 rfl ?_
      refine Ev_h (h2 := hpC (addS S x) ++ T) (by rw [nI_add]; rfl) ?_
      exact Ev_rt rfl rfl rfl rfl
  · exact absurd (show nI (C_tl S) < nI (C_tb S).length by rw [hl]; exact nI_lt h (by decide)) hc
end
/-- behind the lowest n bytes of v -/
def tyS (v : Int64) : Nat → cS → cS
  | 0, S => S
  | i + 1, S => tyS v i (addS S (byI v i))
theorem tyS_tl (v : Int64) : ∀ (n : Nat) (S : cS), C_tl (tyS v n S) = C_tl S + n
  | 0, _ => rfl
  | n + 1, S => by
    show C_tl (tyS v n (addS S (byI v n))) = _
    rw [tyS_tl v n]
    show C_tl S + 1 + n = _
    omega
section
variable (T : aH)
theorem cC_type_loop (v : Int64) {m : Int32} : ∀ (i : Nat) (S : cS), (C_tb S).length = 300 → C_tl S + i ≤ 300 → i ≤ 8 → Ev [] mX8_type (36, [some (.ref 0), some (.long v), none, some (.int m), some (.int (nI i + kM1))], [], hpC S ++ T) (some (.int (nI (C_tl S + i)))) (hpC (tyS v i S) ++ T)
  | 0, S, hl, h, _ => by
    refine Ev_br rfl (fun _ => Ev_rt rfl rfl rfl rfl) (fun hc => absurd (show nI 0 + kM1 < 0 by decide) hc)
  | i + 1, S, hl, h, h8 => by
    have e : nI (i + 1) + kM1 = nI i := pk_m1 i
    rw [e]
    refine Ev_br rfl (fun hc => absurd hc (nI_pos (by omega))) (fun _ => ?_)
    refine Ev_ca rfl (c_Tadd S T (x := byI v i) hl (by omega)) ?_
    have := cC_type_loop v (m := m) i (addS S (byI v i)) (by show ((C_tb S).set _ _).length = 300; rw [List.length_set]; exact hl) (by show C_tl S + 1 + i ≤ 300; omega) (by omega)
    rw [show C_tl (addS S (byI v i)) + i = C_tl S + (i + 1) by show C_tl S + 1 + i = _; omega] at this
    exact Ev_jp rfl this
theorem cC_type_bad (S : cS) {v : Int64} {n : Int32} (hn : n < nI 1 ∨ nI 8 < n) : Cl mX8_type [.ref 0, .long v, .int n] (hpC S ++ T) (some (.int kM1)) (hpC S ++ T) := by
  refine Ev_br rfl (fun _ => Ev_rt rfl rfl rfl rfl) (fun h1 => ?_)
  refine Ev_br rfl (fun h2 => ?_) (fun _ => Ev_rt rfl rfl rfl rfl)
  exact absurd hn (fun q => q.elim h1 (fun h => Int32.not_lt.mpr h2 h))
theorem cC_type_full (S : cS) {v : Int64} {n : Nat} (h1 : 1 ≤ n) (h8 : n ≤ 8) (hl : C_tl S ≤ 300) (h : 300 < C_tl S + n) : Cl mX8_type [.ref 0, .long v, .int (nI n)] (hpC S ++ T) (some (.int kM3)) (hpC S ++ T) := by
  refine Ev_br rfl (fun hc => absurd hc (nI_nlt h1 (by omega))) (fun _ => ?_)
  refine Ev_br rfl (fun _ => ?_) (fun hc => absurd (nI_le h8 (by decide)) hc)
  refine Ev_br rfl (fun hc => ?_) (fun _ => Ev_rt rfl rfl rfl rfl)
  have hc : nI (C_tl S) + nI n ≤ nI 300 := hc
  rw [nI_add, nI_leI (by omega) (by decide)] at hc
  omega
theorem cC_type (S : cS) {v : Int64} {n : Nat} (h1 : 1 ≤ n) (h8 : n ≤ 8) (hb : (C_tb S).length = 300) (h : C_tl S + n ≤ 300) : Cl mX8_type [.ref 0, .long v, .int (nI n)] (hpC S ++ T) (some (.int (nI (C_tl S + n)))) (hpC (tyS v n S) ++ T) := by
  refine Ev_br rfl (fun hc => absurd hc (nI_nlt h1 (by omega))) (fun _ => ?_)
  refine Ev_br rfl (fun _ => ?_) (fun hc => absurd (nI_le h8 (by decide)) hc)
  refine Ev_br rfl (fun _ => ?_) (fun hc => ?_)
  · refine a_run_ev 4 rfl ?_
    refine Ev_eq ?_ (cC_type_loop T v (m := nI n) n S hb h h8)
    rw [show nI n + kM1 = nI n - nI 1 by
      obtain ⟨k, rfl⟩ : ∃ k, n = k + 1 := ⟨n - 1, by omega⟩
      rw [pk_sub (by omega)]
      exact pk_m1 k]
    rfl
  · have hc : ¬ nI (C_tl S) + nI n ≤ nI 300 := hc
    rw [nI_add, nI_leI (by omega) (by decide)] at hc
    omega
theorem c_power_loop (h : aH) {b t : Nat} (hb : b < 2 ^ 31) (ht : t < 2 ^ 30) : ∀ (d i : Nat), i + d = t → Ev [] mX8_power (5, [some (.int (nI b)), some (.int (nI t)), some (.long (lN (b ^ i))), none, some (.int (nI i))], [], h) (some (.long (lN (b ^ t)))) h
  | 0, i, e => by
    have e : i = t := by omega
    subst e
    exact Ev_br rfl (fun _ => Ev_rt rfl rfl rfl rfl) (fun hc => absurd (nI_le (Nat.le_refl _) (by omega)) hc)
  | d + 1, i, e => by
    refine Ev_br rfl (fun hc => absurd hc (nI_ge (show i < t by omega) (by omega))) (fun _ => ?_)
    refine Ev_jpe rfl ?_ (c_power_loop h hb ht d (i + 1) (by omega))
    rw [nI_l hb, lN_mul, nI_add, Nat.pow_succ]
theorem c_power (h : aH) {b t : Nat} (hb : b < 2 ^ 31) (ht : t < 2 ^ 30) : Cl mX8_power [.int (nI b), .int (nI t)] h (some (.long (lN (b ^ t)))) h := by
  refine a_run_ev 4 rfl ?_
  exact c_power_loop h hb ht t 0 (by omega)
/-- Euclid's way, n steps at the most -/
def eu : Nat → Nat → Nat → Nat
  | 0, a, _ => a
  | n + 1, a, b => if b = 0 then a else eu n b (a % b)
theorem lg_cmp0 {b : Nat} (hb : b < 2 ^ 62) : lg_cmp (lN b) (lN 0) = 0 ↔ b = 0 := by
  unfold lg_cmp
  constructor
  · intro h
    by_cases h1 : lN b > lN 0
    · rw [if_pos h1] at h
      exact absurd h (by decide)
    · rw [if_neg h1] at h
      by_cases h2 : lN b = lN 0
      · exact (pk_lEQ (by omega) (by decide)).mp h2
      · rw [if_neg h2] at h
        exact absurd h (by decide)
  · intro h
    subst h
    decide
theorem c_cd_loop (h : aH) : ∀ (d i a b : Nat) (z : aL), i + d = 100 → a < 2 ^ 62 → b < 2 ^ 62 → (z = [none, none] ∨ ∃ w, z = [some (.long w), none]) → Ev [] mX8_commonDivisor (3, [some (.long (lN a)), none, some (.long (lN b)), none, some (.int (nI i))] ++ z, [], h) (some (.long (lN (eu d a b)))) h
  | 0, i, a, b, z, e, _, _, hz => by
    have e : i = 100 := by omega
    subst e
    rcases hz with rfl | ⟨w, rfl⟩
    · exact Ev_br rfl (fun _ => Ev_rt rfl rfl rfl rfl) (fun hc => absurd (nI_le (Nat.le_refl _) (by decide)) hc)
    · exact Ev_br rfl (fun _ => Ev_rt rfl rfl rfl rfl) (fun hc => absurd (nI_le (Nat.le_refl _) (by decide)) hc)
  | d + 1, i, a, b, z, e, ha, hb, hz => by
    have hr : a % b < 2 ^ 62 := Nat.lt_of_le_of_lt (Nat.mod_le _ _) ha
    by_cases h0 : b = 0
    · subst h0
      have e2 : eu (d + 1) a 0 = a := if_pos rfl
      rw [e2]
      rcases hz with rfl | ⟨w, rfl⟩
      · refine Ev_br rfl (fun hc => absurd hc (nI_ge (show i < 100 by omega) (by decide))) (fun _ => ?_)
        exact Ev_br rfl (fun _ => Ev_rt rfl rfl rfl rfl) (fun hc => absurd ((lg_cmp0 (b := 0) (by decide)).mpr rfl) hc)
      · refine Ev_br rfl (fun hc => absurd hc (nI_ge (show i < 100 by omega) (by decide))) (fun _ => ?_)
        exact Ev_br rfl (fun _ => Ev_rt rfl rfl rfl rfl) (fun hc => absurd ((lg_cmp0 (b := 0) (by decide)).mpr rfl) hc)
    · have e2 : eu (d + 1) a b = eu d b (a % b) := if_neg h0
      rw [e2]
      have hne : ¬ lN b = 0 := fun q => h0 ((pk_lEQ (b := 0) (by omega) (by decide)).mp q)
      have hrem := pk_lRem (a := a) (b := b) (by omega) (by omega) (by omega)
      rcases hz with rfl | ⟨w, rfl⟩
      · refine Ev_br rfl (fun hc => absurd hc (nI_ge (show i < 100 by omega) (by decide))) (fun _ => ?_)
        refine Ev_br rfl (fun hc => absurd ((lg_cmp0 hb).mp hc) h0) (fun _ => ?_)
        refine Ev_ck rfl (decide_eq_true hne) ?_
        rw [hrem]
        refine Ev_jpe rfl ?_ (c_cd_loop h d (i + 1) b (a % b) [some (.long (lN (a % b))), none] (by omega) hb hr (Or.inr ⟨_, rfl⟩))
        rw [nI_add]
        rfl
      · refine Ev_br rfl (fun hc => absurd hc (nI_ge (show i < 100 by omega) (by decide))) (fun _ => ?_)
        refine Ev_br rfl (fun hc => absurd ((lg_cmp0 hb).mp hc) h0) (fun _ => ?_)
        refine Ev_ck rfl (decide_eq_true hne) ?_
        rw [hrem]
        refine Ev_jpe rfl ?_ (c_cd_loop h d (i + 1) b (a % b) [some (.long (lN (a % b))), none] (by omega) hb hr (Or.inr ⟨_, rfl⟩))
        rw [nI_add]
        rfl
theorem c_cd (h : aH) {a b : Nat} (ha : a < 2 ^ 62) (hb : b < 2 ^ 62) : Cl mX8_commonDivisor [.long (lN a), .long (lN b)] h (some (.long (lN (eu 100 a b)))) h :=
  a_run_ev 2 rfl (c_cd_loop h 100 0 a b [none, none] (by omega) ha hb (Or.inl rfl))
end

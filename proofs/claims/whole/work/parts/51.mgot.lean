/-! the reference's gotBy, hoursOf, soonestBy, soonest, bar -/
/-- one pass over the ERRANDS from e on, d of them -/
def pas (g n : Nat → Nat) : Nat → Nat → Nat × Nat × Bool → Nat × Nat × Bool
  | 0, _, st => st
  | d + 1, e, st => if (bt st.2.1 e == 1 && canR (g e) (n e) st.1) = true then pas g n d (e + 1) (st.1 ||| 2 ^ g e, st.2.1 - 2 ^ e, true) else pas g n d (e + 1) st
def gob (g n : Nat → Nat) (E : Nat) : Nat → Nat × Nat × Bool → Option Nat
  | 0, _ => none
  | f + 1, st => if st.2.1 = 0 then some st.1 else if st.2.2 = false then none else gob g n E f (pas g n E 0 (st.1, st.2.1, false))
theorem gob_succ (g n : Nat → Nat) (E f : Nat) (st : Nat × Nat × Bool) : gob g n E (f + 1) st = if st.2.1 = 0 then some st.1 else if st.2.2 = false then none else gob g n E f (pas g n E 0 (st.1, st.2.1, false)) := rfl
theorem sub_bt : ∀ l, l < 64 → ∀ e, e < 6 → bt l e = 1 → 2 ^ e ≤ l := by decide +kernel
theorem pas_ok {g n : Nat → Nat} (hg : ∀ e, e < 6 → g e < 8) : ∀ (d e : Nat) (st : Nat × Nat × Bool), e + d ≤ 6 → st.1 < 256 → st.2.1 < 64 → (pas g n d e st).1 < 256 ∧ (pas g n d e st).2.1 ≤ st.2.1 ∧ ((pas g n d e st).2.2 = true → st.2.2 = true ∨ (pas g n d e st).2.1 < st.2.1)
  | 0, e, st, _, h1, h2 => ⟨h1, Nat.le_refl _, fun h => Or.inl h⟩
  | d + 1, e, st, he, h1, h2 => by
    unfold pas
    split
    · rename_i hc
      rw [Bool.and_eq_true, beq_iff_eq] at hc
      have h3 := sub_bt st.2.1 h2 e (by omega) hc.1
      have hp : 0 < 2 ^ e := Nat.two_pow_pos _
      have hor : st.1 ||| 2 ^ g e < 256 := Nat.or_lt_two_pow (n := 8) h1 (Nat.pow_lt_pow_right (by decide) (hg e (by omega)))
      obtain ⟨i1, i2, -⟩ := pas_ok (n := n) hg d (e + 1) (st.1 ||| 2 ^ g e, st.2.1 - 2 ^ e, true) (by omega) hor (show st.2.1 - 2 ^ e < 64 by omega)
      have i2 : (pas g n d (e + 1) (st.1 ||| 2 ^ g e, st.2.1 - 2 ^ e, true)).2.1 ≤ st.2.1 - 2 ^ e := i2
      exact ⟨i1, by omega, fun _ => Or.inr (by omega)⟩
    · exact pas_ok hg d (e + 1) st (by omega) h1 h2
section
variable (S : cS) (M : mS)
theorem r_pass {x0 s0 : Nat} {v : Option Value} {h' : aH} (hL : ML M) (hB : MB M) : ∀ (d e : Nat) (st : Nat × Nat × Bool), e + d = M_em M → st.1 < 256 → st.2.1 < 64 → (∀ z, Ev [] mX9_gotBy (8, [some (.ref 104), some (.int (nI x0)), some (.int (nI s0)), some (.int (nI (pas (geM M) (neM M) d e st).1)), some (.int (nI (pas (geM M) (neM M) d e st).2.1)), some (.int (nI (pas (geM M) (neM M) d e st).2.2.toNat)), z], [], hp S M) v h') → Ev [] mX9_gotBy (24, [some (.ref 104), some (.int (nI x0)), some (.int (nI s0)), some (.int (nI st.1)), some (.int (nI st.2.1)), some (.int (nI st.2.2.toNat)), some (.int (nI e))], [], hp S M) v h'
  | 0, e, st, he, h1, h2, kk => by
    have hE := hB.2.2.2.2.2.1
    have he : e = M_em M := by omega
    subst he
    exact Ev_br rfl (fun _ => Ev_jp rfl (kk _)) (fun hc => absurd (nI_le (Nat.le_refl _) (by omega)) hc)
  | d + 1, e, st, he, h1, h2, kk => by
    have hE := hB.2.2.2.2.2.1
    have le := hL.2.2.2.1
    have b1 : gd (M_er M) (3 * e) < 8 := (hB.2.2.2.1 e (by omega)).1
    have hb := bt_lt st.2.1 e
    have hpa : pas (geM M) (neM M) (d + 1) e st = if (bt st.2.1 e == 1 && canR (geM M e) (neM M e) st.1) = true then pas (geM M) (neM M) d (e + 1) (st.1 ||| 2 ^ geM M e, st.2.1 - 2 ^ e, true) else pas (geM M) (neM M) d (e + 1) st := rfl
    have no : pas (geM M) (neM M) (d + 1) e st = pas (geM M) (neM M) d (e + 1) st → Ev [] mX9_gotBy (80, [some (.ref 104), some (.int (nI x0)), some (.int (nI s0)), some (.int (nI st.1)), some (.int (nI st.2.1)), some (.int (nI st.2.2.toNat)), some (.int (nI e))], [], hp S M) v h' := by
      intro q
      rw [q] at kk
      refine Ev_jpe rfl ?_ (r_pass hL hB d (e + 1) st (by omega) h1 h2 kk)
      rw [nI_add]
    refine Ev_br rfl (fun hc => absurd hc (nI_ge (show e < M_em M by omega) (by omega))) (fun _ => ?_)
    refine Ev_br rfl (fun hc => ?_) (fun hc => ?_)
    · have hc : ¬ ((nI st.2.1 >>> (nI e &&& 31)) &&& nI 1) = nI 1 := hc
      rw [nI_bt (by omega) (by omega), nI_eq (by omega) (by decide)] at hc
      exact no (by rw [hpa, beq_eq_false_iff_ne.mpr hc, Bool.false_and, if_neg (by decide)])
    · have hc : ¬ ¬ ((nI st.2.1 >>> (nI e &&& 31)) &&& nI 1) = nI 1 := hc
      rw [nI_bt (by omega) (by omega), nI_eq (by omega) (by decide), Decidable.not_not] at hc
      refine Ev_ca rfl (r_canRun S M hL hB (show e < 6 by omega) h1) ?_
      cases hr : canR (geM M e) (neM M e) st.1 with
      | false =>
        refine Ev_br rfl (fun _ => no ?_) (fun hc => absurd nI_0 hc)
        rw [hpa, hr, Bool.and_false, if_neg (by decide)]
      | true =>
        rw [hr, hc, if_pos (by decide)] at hpa
        rw [hpa] at kk
        have h3 := sub_bt st.2.1 h2 e (by omega) hc
        have hpw := pow_lt31 (n := gd (M_er M) (3 * e)) (k := 8) b1 (by omega)
        have h0 : 0 < 2 ^ e := Nat.two_pow_pos _
        have hor : st.1 ||| 2 ^ geM M e < 256 := Nat.or_lt_two_pow (n := 8) h1 (Nat.pow_lt_pow_right (by decide) b1)
        refine Ev_br rfl (fun hc => absurd hc b1z) (fun _ => ?_)
        refine Ev_ial rfl (i := 3 * e) (pk_mul _ _) (by omega) (by omega) ?_
        refine Ev_jpe rfl ?_ (r_pass hL hB d (e + 1) (st.1 ||| 2 ^ geM M e, st.2.1 - 2 ^ e, true) (by omega) hor (show st.2.1 - 2 ^ e < 64 from Nat.lt_of_le_of_lt (Nat.sub_le _ _) h2) kk)
        rw [nI_shl1 (show gd (M_er M) (3 * e) < 31 by omega), nI_shl1 (show e < 31 by omega), nI_or (show st.1 < 2 ^ 31 by omega) (by omega), pk_sub h3, nI_add]
        rfl
theorem r_got_loop {x0 s0 : Nat} (hL : ML M) (hB : MB M) : ∀ (f : Nat) (st : Nat × Nat × Bool) (z : Option Value), st.1 < 256 → st.2.1 < 64 → (st.2.2 = true → st.2.1 + 1 < f) → 0 < f → Ev [] mX9_gotBy (8, [some (.ref 104), some (.int (nI x0)), some (.int (nI s0)), some (.int (nI st.1)), some (.int (nI st.2.1)), some (.int (nI st.2.2.toNat)), z], [], hp S M) (some (.int (nI9 (gob (geM M) (neM M) (M_em M) f st)))) (hp S M)
  | 0, st, z, h1, h2, h3, h4 => absurd h4 (Nat.lt_irrefl _)
  | f + 1, (x, l, m), z, h1, h2, h3, h4 => by
    have hE := hB.2.2.2.2.2.1
    have h2 : l < 64 := h2
    rw [gob_succ]
    by_cases h0 : l = 0
    · subst h0
      rw [if_pos rfl]
      refine Ev_br rfl (fun _ => ?_) (fun hc => absurd nI_0 hc)
      refine Ev_br rfl (fun hc => absurd nI_0 hc) (fun _ => ?_)
      exact Ev_jp rfl (Ev_rt rfl rfl rfl rfl)
    · rw [if_neg h0]
      refine Ev_br rfl (fun hc => absurd hc (nI_ne0 (Nat.pos_of_ne_zero h0) (show l < 2 ^ 31 by omega))) (fun _ => ?_)
      cases m with
      | false =>
        rw [if_pos rfl]
        refine Ev_br rfl (fun _ => ?_) (fun hc => absurd nI_0 hc)
        exact Ev_br rfl (fun _ => Ev_rt rfl rfl rfl rfl) (fun hc => absurd hc (fun q => q (nI_ne0 (Nat.pos_of_ne_zero h0) (show l < 2 ^ 31 by omega))))
      | true =>
        rw [if_neg (fun q => by cases q)]
        have h3 : l + 1 < f + 1 := h3 rfl
        refine Ev_br rfl (fun hc => absurd hc b1z) (fun _ => ?_)
        obtain ⟨p1, p2, p3⟩ := pas_ok (n := neM M) (g := geM M) (fun e he => (hB.2.2.2.1 e he).1) (M_em M) 0 (x, l, false) (by omega) h1 h2
        have p2 : (pas (geM M) (neM M) (M_em M) 0 (x, l, false)).2.1 ≤ l := p2
        refine a_run_ev 4 rfl (r_pass S M hL hB (M_em M) 0 (x, l, false) (by omega) h1 h2 (fun z => ?_))
        exact r_got_loop hL hB f (pas (geM M) (neM M) (M_em M) 0 (x, l, false)) z p1 (by omega) (fun q => by
          have := (p3 q).elim (fun q => by cases q) id
          have this : (pas (geM M) (neM M) (M_em M) 0 (x, l, false)).2.1 < l := this
          omega) (by omega)
/-- what gotBy answers -/
abbrev goM (x set : Nat) : Option Nat := gob (geM M) (neM M) (M_em M) (set + 2) (x, set, true)
theorem r_gotBy {x set : Nat} (hL : ML M) (hB : MB M) (hx : x < 256) (hs : set < 64) : Cl mX9_gotBy [.ref 104, .int (nI x), .int (nI set)] (hp S M) (some (.int (nI9 (goM M x set)))) (hp S M) :=
  a_run_ev 6 rfl (r_got_loop S M hL hB (set + 2) (x, set, true) none hx hs (fun _ => by show set + 1 < set + 2; omega) (by omega))
/-- HOURS of the ERRANDS of a set below e -/
def hs (t : Nat → Nat) (set : Nat) : Nat → Nat
  | 0 => 0
  | e + 1 => hs t set e + if bt set e = 1 then t e else 0
theorem hs_le {t : Nat → Nat} {set : Nat} : ∀ n, (∀ e, e < n → t e < 10) → hs t set n ≤ 9 * n
  | 0, _ => Nat.le_refl _
  | n + 1, h => by
    have := hs_le (t := t) (set := set) n (fun e he => h e (by omega))
    have h2 := h n (by omega)
    show hs t set n + (if bt set n = 1 then t n else 0) ≤ _
    split <;> omega
abbrev hoM (set : Nat) : Nat := hs (taM M) set (M_em M)
theorem r_hours_loop {set : Nat} (hL : ML M) (hB : MB M) (hs64 : set < 64) : ∀ (d e : Nat), e + d = M_em M → Ev [] mX9_hoursOf (4, [some (.ref 104), some (.int (nI set)), some (.int (nI (hs (taM M) set e))), some (.int (nI e))], [], hp S M) (some (.int (nI (hoM M set)))) (hp S M)
  | 0, e, he => by
    have hE := hB.2.2.2.2.2.1
    have he : e = M_em M := by omega
    subst he
    exact Ev_br rfl (fun _ => Ev_rt rfl rfl rfl rfl) (fun hc => absurd (nI_le (Nat.le_refl _) (by omega)) hc)
  | d + 1, e, he => by
    have hE := hB.2.2.2.2.2.1
    have le := hL.2.2.2.1
    have ih := r_hours_loop hL hB hs64 d (e + 1) (by omega)
    have hh : hs (taM M) set (e + 1) = hs (taM M) set e + if bt set e = 1 then gd (M_er M) (3 * e + 1) else 0 := rfl
    have hb := bt_lt set e
    refine Ev_br rfl (fun hc => absurd hc (nI_ge (show e < M_em M by omega) (by omega))) (fun _ => ?_)
    refine Ev_br rfl (fun hc => ?_) (fun hc => ?_)
    · have hc : ¬ ((nI set >>> (nI e &&& 31)) &&& nI 1) = nI 1 := hc
      rw [nI_bt (by omega) (by omega), nI_eq (by omega) (by decide)] at hc
      rw [if_neg hc] at hh
      refine Ev_jpe rfl ?_ ih
      rw [nI_add, nI_add, hh]
    · have hc : ¬ ¬ ((nI set >>> (nI e &&& 31)) &&& nI 1) = nI 1 := hc
      rw [nI_bt (by omega) (by omega), nI_eq (by omega) (by decide), Decidable.not_not] at hc
      rw [if_pos hc] at hh
      refine Ev_ial rfl (i := 3 * e + 1) (by rw [pk_mul, nI_add]) (by omega) (by omega) ?_
      refine Ev_jp rfl ?_
      refine Ev_jpe rfl ?_ ih
      rw [nI_add, nI_add, hh]
theorem r_hoursOf {set : Nat} (hL : ML M) (hB : MB M) (hs64 : set < 64) : Cl mX9_hoursOf [.ref 104, .int (nI set)] (hp S M) (some (.int (nI (hoM M set)))) (hp S M) :=
  a_run_ev 4 rfl (r_hours_loop S M hL hB hs64 (M_em M) 0 (by omega))
theorem hoM_lt {set : Nat} (hB : MB M) : hoM M set < 100 := by
  have hE := hB.2.2.2.2.2.1
  have := hs_le (t := taM M) (set := set) (M_em M) (fun e he => (hB.2.2.2.1 e (by omega)).2.1)
  show hs (taM M) set (M_em M) < 100
  omega
def ltB (ho : Nat → Nat) (B : Option Nat) (set : Nat) : Bool := match B with
  | none => true
  | some b => decide (ho set < ho b)
/-- the next best -/
def nxB (le : Nat → Bool) (ho : Nat → Nat) (B : Option Nat) (set : Nat) (got : Option Nat) : Option Nat := match got with
  | none => B
  | some y => if (le y && ltB ho B set) = true then some set else B
theorem nxB_some (le : Nat → Bool) (ho : Nat → Nat) (B : Option Nat) (set y : Nat) : nxB le ho B set (some y) = if (le y && ltB ho B set) = true then some set else B := rfl
theorem nxB_or {le : Nat → Bool} {ho : Nat → Nat} {B : Option Nat} {set b : Nat} {got : Option Nat} (h : nxB le ho B set got = some b) : B = some b ∨ b = set := by
  cases got with
  | none => exact Or.inl h
  | some y =>
    rw [nxB_some] at h
    split at h
    · cases h
      exact Or.inr rfl
    · exact Or.inl h
/-- the soonest one of the sets below m, by got -/
def sb (le : Nat → Bool) (may : Nat → Bool) (got : Nat → Option Nat) (ho : Nat → Nat) : Nat → Option Nat
  | 0 => none
  | m + 1 => nxB le ho (sb le may got ho m) m (if may m = true then got m else none)
theorem sb_succ (le may : Nat → Bool) (got : Nat → Option Nat) (ho : Nat → Nat) (m : Nat) : sb le may got ho (m + 1) = nxB le ho (sb le may got ho m) m (if may m = true then got m else none) := rfl
theorem sb_lt {le may : Nat → Bool} {got : Nat → Option Nat} {ho : Nat → Nat} {b : Nat} : ∀ m, sb le may got ho m = some b → b < m
  | 0, h => by cases h
  | m + 1, h => by
    rw [sb_succ] at h
    rcases nxB_or h with h | h
    · exact Nat.lt_succ_of_lt (sb_lt m h)
    · omega
theorem gob_lt {g n : Nat → Nat} {E : Nat} (hE : E ≤ 6) (hg : ∀ e, e < 6 → g e < 8) {y : Nat} : ∀ (f : Nat) (st : Nat × Nat × Bool), st.1 < 256 → st.2.1 < 64 → gob g n E f st = some y → y < 256
  | 0, st, _, _, h => by cases h
  | f + 1, st, h1, h2, h => by
    rw [gob_succ] at h
    split at h
    · cases h; exact h1
    · split at h
      · cases h
      · obtain ⟨p1, p2, -⟩ := pas_ok (n := n) hg E 0 (st.1, st.2.1, false) (by omega) h1 h2
        have p2 : (pas g n E 0 (st.1, st.2.1, false)).2.1 ≤ st.2.1 := p2
        exact gob_lt hE hg f _ p1 (by omega) h
theorem pow64' {E : Nat} (h : E ≤ 6) : 2 ^ E ≤ 64 := Nat.le_trans (Nat.pow_le_pow_right (by decide) h) (by decide)
/-- how the ERRAND that is left out is told -/
def wit (wx : Int32) (may : Nat → Bool) : Prop := (wx = kM9 ∧ ∀ s, may s = true) ∨ ∃ e, e < 6 ∧ wx = nI e ∧ ∀ s, may s = (bt s e == 0)
abbrev sbM (may : Nat → Bool) (k : Nat) : Option Nat := sb (leM M) may (goM M (sgM M k)) (hoM M) (2 ^ M_em M)
theorem r_soon_mid {k set : Nat} {wx q : Int32} {z6 : Option Value} {v : Option Value} {h' : aH} (hL : ML M) (hB : MB M) (hs64 : set < 64) (B : Option Nat) (hBl : ∀ b, B = some b → b < 64) (got : Option Nat) (hgl : ∀ y, got = some y → y < 256) (kk : ∀ z, Ev [] mX9_soonestBy (102, [some (.ref 104), some (.int (nI k)), some (.int wx), some (.int (nI9 (nxB (leM M) (hoM M) B set got))), some (.int (nI set)), some (.int q), z], [], hp S M) v h') : Ev [] mX9_soonestBy (61, [some (.ref 104), some (.int (nI k)), some (.int wx), some (.int (nI9 B)), some (.int (nI set)), some (.int q), z6], [.int (nI9 got)], hp S M) v h' := by
  cases got with
  | none => exact Ev_br rfl (fun _ => kk _) (fun hc => absurd rfl hc)
  | some y =>
    have hy := hgl y rfl
    refine Ev_br rfl (fun hc => absurd hc (kM9_ne y (by omega))) (fun _ => ?_)
    refine Ev_ca rfl (r_isLetIn S M hL hB hy) ?_
    rw [nxB_some] at kk
    cases hl : leM M y with
    | false =>
      rw [hl, Bool.false_and, if_neg (by decide)] at kk
      exact Ev_br rfl (fun _ => kk _) (fun hc => absurd nI_0 hc)
    | true =>
      rw [hl, Bool.true_and] at kk
      refine Ev_br rfl (fun hc => absurd hc b1z) (fun _ => ?_)
      cases B with
      | none =>
        refine Ev_br rfl (fun _ => ?_) (fun hc => absurd rfl hc)
        exact a_run_ev 2 rfl (kk _)
      | some b =>
        have hb := hBl b rfl
        have h1 := hoM_lt M (set := set) hB
        have h2 := hoM_lt M (set := b) hB
        refine Ev_br rfl (fun hc => absurd hc (kM9_ne b (by omega))) (fun _ => ?_)
        refine Ev_ca rfl (r_hoursOf S M hL hB hs64) ?_
        refine Ev_ca rfl (r_hoursOf S M hL hB hb) ?_
        refine Ev_br rfl (fun hc => ?_) (fun hc => ?_)
        · have hc : nI (hoM M b) ≤ nI (hoM M set) := hc
          rw [nI_leI (by omega) (by omega)] at hc
          have e : ltB (hoM M) (some b) set = false := decide_eq_false (by omega)
          rw [e, if_neg (by decide)] at kk
          exact kk (some (.int (nI y)))
        · have hc : ¬ nI (hoM M b) ≤ nI (hoM M set) := hc
          rw [nI_leI (by omega) (by omega)] at hc
          have e : ltB (hoM M) (some b) set = true := decide_eq_true (by omega)
          rw [e, if_pos rfl] at kk
          exact a_run_ev 2 rfl (kk (some (.int (nI y))))
theorem r_soon_loop {k : Nat} {wx : Int32} {may : Nat → Bool} (hw : wit wx may) (hL : ML M) (hB : MB M) (hk : k < 5) : ∀ (d set : Nat) (z5 z6 : Option Value), set + d = 2 ^ M_em M → Ev [] mX9_soonestBy (6, [some (.ref 104), some (.int (nI k)), some (.int wx), some (.int (nI9 (sb (leM M) may (goM M (sgM M k)) (hoM M) set))), some (.int (nI set)), z5, z6], [], hp S M) (some (.int (nI9 (sbM M may k)))) (hp S M)
  | 0, set, z5, z6, e => by
    have hE := hB.2.2.2.2.2.1
    have h64 := pow64' hE
    have e : set = 2 ^ M_em M := by omega
    subst e
    refine Ev_br rfl (fun _ => Ev_rt rfl rfl rfl rfl) (fun hc => ?_)
    have hc : ¬ (nI 1 <<< (nI (M_em M) &&& 31)) ≤ nI (2 ^ M_em M) := hc
    rw [nI_shl1 (by omega)] at hc
    exact absurd (nI_le (Nat.le_refl _) (by omega)) hc
  | d + 1, set, z5, z6, e => by
    have hE := hB.2.2.2.2.2.1
    have h64 := pow64' hE
    have ls := hL.2.2.2.2.2.1
    have b3 : gd (M_s M) k < 256 := (hB.1 k hk).1
    have hs64 : set < 64 := by omega
    have ih := fun z5 z6 => r_soon_loop hw hL hB hk d (set + 1) z5 z6 (by omega)
    have hss := sb_succ (leM M) may (goM M (sgM M k)) (hoM M) set
    have hBl : ∀ b, sb (leM M) may (goM M (sgM M k)) (hoM M) set = some b → b < 64 := fun b hb => by have := sb_lt set hb; omega
    have fin : ∀ q z, Ev [] mX9_soonestBy (102, [some (.ref 104), some (.int (nI k)), some (.int wx), some (.int (nI9 (nxB (leM M) (hoM M) (sb (leM M) may (goM M (sgM M k)) (hoM M) set) set (if may set = true then goM M (sgM M k) set else none)))), some (.int (nI set)), some (.int q), z], [], hp S M) (some (.int (nI9 (sbM M may k)))) (hp S M) := by
      intro q z
      refine Ev_jpe rfl ?_ (ih (some (.int q)) z)
      rw [nI_add, hss]
    have m1 : may set = true → Ev [] mX9_soonestBy (37, [some (.ref 104), some (.int (nI k)), some (.int wx), some (.int (nI9 (sb (leM M) may (goM M (sgM M k)) (hoM M) set))), some (.int (nI set)), z5, z6], [.int (nI 1)], hp S M) (some (.int (nI9 (sbM M may k)))) (hp S M) := by
      intro hm
      rw [hm, if_pos rfl] at fin
      refine Ev_br rfl (fun hc => absurd hc b1z) (fun _ => ?_)
      refine Ev_ial rfl (i := k) rfl (by omega) (by omega) ?_
      refine Ev_ca rfl (r_gotBy S M hL hB b3 hs64) ?_
      refine Ev_jp rfl ?_
      exact r_soon_mid S M hL hB hs64 _ hBl _ (fun y hy => gob_lt hE (fun e he => (hB.2.2.2.1 e he).1) _ (gd (M_s M) k, set, true) b3 hs64 hy) (fin _)
    have m0 : may set = false → Ev [] mX9_soonestBy (36, [some (.ref 104), some (.int (nI k)), some (.int wx), some (.int (nI9 (sb (leM M) may (goM M (sgM M k)) (hoM M) set))), some (.int (nI set)), z5, z6], [], hp S M) (some (.int (nI9 (sbM M may k)))) (hp S M) := by
      intro hm
      rw [hm, if_neg (by decide)] at fin
      refine Ev_br rfl (fun _ => ?_) (fun hc => absurd nI_0 hc)
      exact a_run_ev 1 rfl (r_soon_mid S M hL hB hs64 _ hBl none (fun y hy => by cases hy) (fin _))
    refine Ev_br rfl (fun hc => ?_) (fun _ => ?_)
    · have hc : (nI 1 <<< (nI (M_em M) &&& 31)) ≤ nI set := hc
      rw [nI_shl1 (by omega)] at hc
      exact absurd hc (nI_ge (by omega) (by omega))
    rcases hw with ⟨w1, w2⟩ | ⟨e, he, w1, w2⟩
    · subst w1
      refine Ev_br rfl (fun _ => ?_) (fun hc => absurd rfl hc)
      exact Ev_jp rfl (m1 (w2 set))
    · subst w1
      refine Ev_br rfl (fun hc => absurd hc (kM9_ne e (by omega))) (fun _ => ?_)
      have hb := bt_lt set e
      refine Ev_br rfl (fun hc => ?_) (fun hc => ?_)
      · have hc : ((nI set >>> (nI e &&& 31)) &&& nI 1) ≠ 0 := hc
        rw [nI_bt (by omega) (by omega)] at hc
        refine m0 ?_
        rw [w2 set, beq_eq_false_iff_ne]
        intro q
        exact hc (by rw [q]; exact nI_0)
      · have hc : ¬ ((nI set >>> (nI e &&& 31)) &&& nI 1) ≠ 0 := hc
        rw [nI_bt (by omega) (by omega), ← nI_0, Decidable.not_not, nI_eq (by omega) (by decide)] at hc
        refine Ev_jp rfl (m1 ?_)
        rw [w2 set, hc]
        rfl
theorem r_soonestBy {k : Nat} {wx : Int32} {may : Nat → Bool} (hw : wit wx may) (hL : ML M) (hB : MB M) (hk : k < 5) : Cl mX9_soonestBy [.ref 104, .int (nI k), .int wx] (hp S M) (some (.int (nI9 (sbM M may k)))) (hp S M) :=
  a_run_ev 4 rfl (r_soon_loop S M hw hL hB hk (2 ^ M_em M) 0 none none (by omega))
theorem cM_soonest_bad {x w : Int32} (hb : M_kn M ≤ 5) (hx : x < 0 ∨ nI (M_kn M) ≤ x) : Cl mX9_soonest [.ref 104, .int x, .int w] (hp S M) (some (.int kM1)) (hp S M) := by
  refine a_run_ev 3 rfl (Ev_h (h2 := hp S M) rfl ?_)
  refine Ev_ca rfl (r_isK_f S M hb hx) ?_
  exact Ev_br rfl (fun _ => Ev_rt rfl rfl rfl rfl) (fun hc => absurd nI_0 hc)
theorem cM_soonest_bad2 {k : Nat} {w : Int32} (hb : M_kn M ≤ 5) (hk : k < M_kn M) (h0 : ¬ w = nI 0) (h1 : ¬ w = nI 1) : Cl mX9_soonest [.ref 104, .int (nI k), .int w] (hp S M) (some (.int kM1)) (hp S M) := by
  refine a_run_ev 3 rfl (Ev_h (h2 := hp S M) rfl ?_)
  refine Ev_ca rfl (r_isK_t S M hk hb) ?_
  refine Ev_br rfl (fun hc => absurd hc b1z) (fun _ => ?_)
  refine Ev_ca rfl (r_in_f _ (bad01 h0 h1)) ?_
  exact Ev_br rfl (fun hc => absurd nI_0 hc) (fun _ => Ev_rt rfl rfl rfl rfl)
abbrev sb0 (k : Nat) : Option Nat := sbM M (fun _ => true) k
abbrev sbE (e k : Nat) : Option Nat := sbM M (fun s => bt s e == 0) k
theorem r_soonestBy0 {k : Nat} (hL : ML M) (hB : MB M) (hk : k < 5) : Cl mX9_soonestBy [.ref 104, .int (nI k), .int kM9] (hp S M) (some (.int (nI9 (sb0 M k)))) (hp S M) := r_soonestBy S M (may := fun _ => true) (Or.inl ⟨rfl, fun _ => rfl⟩) hL hB hk
theorem r_soonestByE {k e : Nat} (hL : ML M) (hB : MB M) (hk : k < 5) (he : e < 6) : Cl mX9_soonestBy [.ref 104, .int (nI k), .int (nI e)] (hp S M) (some (.int (nI9 (sbE M e k)))) (hp S M) := r_soonestBy S M (may := fun s => bt s e == 0) (Or.inr ⟨e, he, rfl, fun _ => rfl⟩) hL hB hk
def soM (ho : Nat → Nat) (x : Option Nat) (what : Nat) : Int32 := match x with
  | none => kM9
  | some b => if what = 0 then nI (ho b) else nI b
theorem sb64 {le may : Nat → Bool} {got : Nat → Option Nat} {ho : Nat → Nat} {b E : Nat} (hE : E ≤ 6) (h : sb le may got ho (2 ^ E) = some b) : b < 64 := Nat.lt_of_lt_of_le (sb_lt _ h) (pow64' hE)
theorem cM_soonest {k what : Nat} (hw : what < 2) (hL : ML M) (hB : MB M) (hk : k < M_kn M) : Cl mX9_soonest [.ref 104, .int (nI k), .int (nI what)] (hp S M) (some (.int (soM (hoM M) (sb0 M k) what))) (hp S M) := by
  have hb := hB.2.2.2.2.1
  have hE := hB.2.2.2.2.2.1
  refine a_run_ev 3 rfl (Ev_h (h2 := hp S M) rfl ?_)
  refine Ev_ca rfl (r_isK_t S M hk hb) ?_
  refine Ev_br rfl (fun hc => absurd hc b1z) (fun _ => ?_)
  refine Ev_ca rfl (r_in_t _ (Nat.zero_le _) (show what ≤ 1 by omega) (by decide)) ?_
  refine Ev_br rfl (fun _ => ?_) (fun hc => absurd b1z hc)
  refine Ev_ca rfl (r_soonestBy0 S M hL hB (show k < 5 by omega)) ?_
  cases h : sb0 M k with
  | none => exact Ev_br rfl (fun _ => Ev_jp rfl (Ev_rt rfl rfl rfl rfl)) (fun hc => absurd rfl hc)
  | some b =>
    have h64 := sb64 hE h
    refine Ev_br rfl (fun hc => absurd hc (kM9_ne b (by omega))) (fun _ => ?_)
    match what, hw with
    | 0, _ =>
      refine Ev_br rfl (fun _ => ?_) (fun hc => absurd (show nI 0 ≠ nI 1 by decide) hc)
      exact Ev_ca rfl (r_hoursOf S M hL hB h64) (Ev_rt rfl rfl rfl rfl)
    | 1, _ => exact Ev_br rfl (fun hc => absurd rfl hc) (fun _ => Ev_jp rfl (Ev_rt rfl rfl rfl rfl))
/-- whether the set is there by h HOURS -/
def isM (ho : Nat → Nat) (x : Option Nat) (h : Nat) : Bool := match x with
  | none => false
  | some b => decide (ho b ≤ h)
theorem r_isLater {x : Option Nat} {h : Nat} (hh : h < 100) (hx : ∀ b, x = some b → b < 64) (hL : ML M) (hB : MB M) : Cl mX9_isLater [.ref 104, .int (nI9 x), .int (nI h)] (hp S M) (some (.int (nI (!isM (hoM M) x h).toNat))) (hp S M) := by
  cases x with
  | none => exact Ev_br rfl (fun _ => Ev_jp rfl (Ev_rt rfl rfl rfl rfl)) (fun hc => absurd rfl hc)
  | some b =>
    have hb := hx b rfl
    have h1 := hoM_lt M (set := b) hB
    refine Ev_br rfl (fun hc => absurd hc (kM9_ne b (by omega))) (fun _ => ?_)
    refine Ev_ca rfl (r_hoursOf S M hL hB hb) ?_
    refine Ev_br rfl (fun hc => ?_) (fun hc => ?_)
    · have hc : nI (hoM M b) ≤ nI h := hc
      rw [nI_leI (by omega) (by omega)] at hc
      refine Ev_rt rfl rfl ?_ rfl
      show _ = some (Value.int (nI (!decide (hoM M b ≤ h)).toNat))
      rw [decide_eq_true hc]
      rfl
    · have hc : ¬ nI (hoM M b) ≤ nI h := hc
      rw [nI_leI (by omega) (by omega)] at hc
      refine Ev_jp rfl (Ev_rt rfl rfl ?_ rfl)
      show _ = some (Value.int (nI (!decide (hoM M b ≤ h)).toNat))
      rw [decide_eq_false hc]
      rfl
theorem cM_bar_bad {x w : Int32} (hb : M_kn M ≤ 5) (hx : x < 0 ∨ nI (M_kn M) ≤ x) : Cl mX9_bar [.ref 104, .int x, .int w] (hp S M) (some (.int kM1)) (hp S M) := by
  refine a_run_ev 3 rfl (Ev_h (h2 := hp S M) rfl ?_)
  refine Ev_ca rfl (r_isK_f S M hb hx) ?_
  exact Ev_br rfl (fun _ => Ev_rt rfl rfl rfl rfl) (fun hc => absurd nI_0 hc)
theorem cM_bar_bad2 {k : Nat} {w : Int32} (hb : M_kn M ≤ 5) (hk : k < M_kn M) (hw : w < 0 ∨ nI 99 < w) : Cl mX9_bar [.ref 104, .int (nI k), .int w] (hp S M) (some (.int kM1)) (hp S M) := by
  refine a_run_ev 3 rfl (Ev_h (h2 := hp S M) rfl ?_)
  refine Ev_ca rfl (r_isK_t S M hk hb) ?_
  refine Ev_br rfl (fun hc => absurd hc b1z) (fun _ => ?_)
  refine Ev_ca rfl (r_in_f _ (by rw [nI_0]; exact hw)) ?_
  exact Ev_br rfl (fun hc => absurd nI_0 hc) (fun _ => Ev_rt rfl rfl rfl rfl)
theorem r_bar_loop {k h : Nat} (hh : h < 100) (hL : ML M) (hB : MB M) (hk : k < 5) : ∀ (d e : Nat), e + d = M_em M → Ev [] mX9_bar (45, [some (.ref 104), some (.int (nI k)), some (.int (nI h)), some (.int (nI e))], [], hp S M) (some (.int (nI9 (ff (fun e => isM (hoM M) (sbE M e k) h) d e)))) (hp S M)
  | 0, e, he => by
    have hE := hB.2.2.2.2.2.1
    have he : e = M_em M := by omega
    subst he
    exact Ev_br rfl (fun _ => Ev_rt rfl rfl rfl rfl) (fun hc => absurd (nI_le (Nat.le_refl _) (by omega)) hc)
  | d + 1, e, he => by
    have hE := hB.2.2.2.2.2.1
    have hf : ff (fun e => isM (hoM M) (sbE M e k) h) (d + 1) e = if isM (hoM M) (sbE M e k) h = true then ff (fun e => isM (hoM M) (sbE M e k) h) d (e + 1) else some e := rfl
    refine Ev_br rfl (fun hc => absurd hc (nI_ge (show e < M_em M by omega) (by omega))) (fun _ => ?_)
    refine Ev_ca rfl (r_soonestByE S M hL hB hk (show e < 6 by omega)) ?_
    refine Ev_ca rfl (r_isLater S M hh (fun b hb => sb64 hE hb) hL hB) ?_
    cases hi : isM (hoM M) (sbE M e k) h with
    | true =>
      rw [hi, if_pos rfl] at hf
      rw [hf]
      refine Ev_br rfl (fun _ => ?_) (fun hc => absurd nI_0 hc)
      refine Ev_jpe rfl ?_ (r_bar_loop hh hL hB hk d (e + 1) (by omega))
      rw [nI_add]
      rfl
    | false =>
      rw [hi, if_neg (by decide)] at hf
      rw [hf]
      exact Ev_br rfl (fun hc => absurd hc b1z) (fun _ => Ev_rt rfl rfl rfl rfl)
theorem cM_bar {k h : Nat} (hh : h < 100) (hL : ML M) (hB : MB M) (hk : k < M_kn M) : Cl mX9_bar [.ref 104, .int (nI k), .int (nI h)] (hp S M) (some (.int (baR (isM (hoM M) (sb0 M k) h) (fun e => isM (hoM M) (sbE M e k) h) (M_em M)))) (hp S M) := by
  have hb := hB.2.2.2.2.1
  have hE := hB.2.2.2.2.2.1
  refine a_run_ev 3 rfl (Ev_h (h2 := hp S M) rfl ?_)
  refine Ev_ca rfl (r_isK_t S M hk hb) ?_
  refine Ev_br rfl (fun hc => absurd hc b1z) (fun _ => ?_)
  refine Ev_ca rfl (r_in_t _ (Nat.zero_le _) (show h ≤ 99 by omega) (by decide)) ?_
  refine Ev_br rfl (fun _ => ?_) (fun hc => absurd b1z hc)
  refine Ev_ca rfl (r_soonestBy0 S M hL hB (show k < 5 by omega)) ?_
  refine Ev_ca rfl (r_isLater S M hh (fun b hb => sb64 hE hb) hL hB) ?_
  unfold baR
  cases hi : isM (hoM M) (sb0 M k) h with
  | true =>
    rw [if_pos rfl]
    refine Ev_br rfl (fun _ => ?_) (fun hc => absurd nI_0 hc)
    exact a_run_ev 2 rfl (r_bar_loop S M hh hL hB (by omega) (M_em M) 0 (by omega))
  | false =>
    rw [if_neg (by decide)]
    exact Ev_br rfl (fun hc => absurd hc b1z) (fun _ => Ev_rt rfl rfl rfl rfl)
end

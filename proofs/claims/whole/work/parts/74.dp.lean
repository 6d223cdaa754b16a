/-! THE WAYS: what the class finds by the last ERRAND of each set, the reference by running what can be run -/
theorem bt_tb (n k : Nat) : bt n k = 1 ↔ n.testBit k = true := by
  rw [Nat.testBit_eq_decide_div_mod_eq, decide_eq_true_eq]
  exact Iff.rfl
theorem bt_or1 (a b j : Nat) : bt (a ||| b) j = 1 ↔ bt a j = 1 ∨ bt b j = 1 := by
  rw [bt_tb, bt_tb, bt_tb, Nat.testBit_or, Bool.or_eq_true]
theorem bt_two (a j : Nat) : bt (2 ^ a) j = 1 ↔ a = j := by
  rw [bt_tb, Nat.testBit_two_pow, decide_eq_true_eq]
theorem bt_ext {a b : Nat} (h : ∀ j, bt a j = 1 ↔ bt b j = 1) : a = b := by
  refine Nat.eq_of_testBit_eq (fun j => ?_)
  have := h j
  rw [bt_tb, bt_tb] at this
  cases h1 : a.testBit j with
  | true => exact (this.mp h1).symm
  | false =>
    cases h2 : b.testBit j with
    | false => rfl
    | true => rw [this.mpr h2] at h1; cases h1
theorem bt_ors {f : Nat → Nat} {j : Nat} : ∀ n, bt (ors f n) j = 1 ↔ ∃ e, e < n ∧ bt (f e) j = 1
  | 0 => by
    show bt 0 j = 1 ↔ _
    rw [bt_0]
    exact ⟨(fun q => by cases q), fun ⟨e, h, _⟩ => absurd h (Nat.not_lt_zero e)⟩
  | n + 1 => by
    show bt (ors f n ||| f n) j = 1 ↔ _
    rw [bt_or1, bt_ors n]
    constructor
    · intro h
      rcases h with ⟨e, h1, h2⟩ | h
      · exact ⟨e, by omega, h2⟩
      · exact ⟨n, by omega, h⟩
    · intro ⟨e, h1, h2⟩
      by_cases q : e = n
      · subst q; exact Or.inr h2
      · exact Or.inl ⟨e, by omega, h2⟩
/-- SIGNS behind a set of ERRANDS -/
def sgn (g : Nat → Nat) (x s : Nat) : Nat := x ||| ors (fun e => if bt s e = 1 then 2 ^ g e else 0) 6
theorem bt_sgn {g : Nat → Nat} {x s j : Nat} : bt (sgn g x s) j = 1 ↔ bt x j = 1 ∨ ∃ e, e < 6 ∧ bt s e = 1 ∧ g e = j := by
  unfold sgn
  rw [bt_or1, bt_ors]
  constructor
  · intro h
    rcases h with h | ⟨e, h1, h2⟩
    · exact Or.inl h
    · refine Or.inr ⟨e, h1, ?_⟩
      by_cases q : bt s e = 1
      · rw [if_pos q, bt_two] at h2
        exact ⟨q, h2⟩
      · rw [if_neg q, bt_0] at h2
        cases h2
  · intro h
    rcases h with h | ⟨e, h1, h2, h3⟩
    · exact Or.inl h
    · refine Or.inr ⟨e, h1, ?_⟩
      rw [if_pos h2, bt_two]
      exact h3
theorem ah_bt : ∀ s, s < 64 → ∀ e, e < 6 → ∀ j, j < 6 → (bt (ah s e) j = 1 ↔ bt s j = 1 ∧ j ≠ e) := by decide +kernel
theorem ah_lt {s e : Nat} (hs : s < 64) : ah s e < 64 := Nat.lt_of_le_of_lt Nat.and_le_left hs
theorem ext6 : ∀ a, a < 64 → ∀ b, b < 64 → (∀ j, j < 6 → (bt a j = 1 ↔ bt b j = 1)) → a = b := by
  intro a ha b hb h
  refine bt_ext (fun j => ?_)
  by_cases hj : j < 6
  · exact h j hj
  · have h6 : ∀ c, c < 64 → bt c j = 0 := fun c hc => by
      have : 64 ≤ 2 ^ j := Nat.le_trans (show 64 ≤ 2 ^ 6 by decide) (Nat.pow_le_pow_right (by decide) (by omega))
      unfold bt
      rw [Nat.div_eq_of_lt (by omega)]
    rw [h6 a ha, h6 b hb]
theorem sgn_ah {g : Nat → Nat} {x s e : Nat} (hs : s < 64) (he : e < 6) (hb : bt s e = 1) : sgn g x s = sgn g x (ah s e) ||| 2 ^ g e := by
  refine bt_ext (fun j => ?_)
  rw [bt_or1, bt_sgn, bt_sgn, bt_two]
  constructor
  · intro h
    rcases h with h | ⟨i, h1, h2, h3⟩
    · exact Or.inl (Or.inl h)
    · by_cases q : i = e
      · subst q; exact Or.inr h3
      · exact Or.inl (Or.inr ⟨i, h1, (ah_bt s hs e he i h1).mpr ⟨h2, q⟩, h3⟩)
  · intro h
    rcases h with (h | ⟨i, h1, h2, h3⟩) | h
    · exact Or.inl h
    · exact Or.inr ⟨i, h1, ((ah_bt s hs e he i h1).mp h2).1, h3⟩
    · exact Or.inr ⟨e, he, hb, h⟩
theorem sgn_0 (g : Nat → Nat) (x : Nat) : sgn g x 0 = x := by
  refine bt_ext (fun j => ?_)
  rw [bt_sgn]
  constructor
  · intro h
    rcases h with h | ⟨i, _, h2, _⟩
    · exact h
    · rw [bt_0] at h2; cases h2
  · exact Or.inl
theorem sgn_lt {g : Nat → Nat} {x s : Nat} (hx : x < 256) (hg : ∀ e, g e < 8) : sgn g x s < 256 := by
  unfold sgn
  refine Nat.or_lt_two_pow (n := 8) hx (ors_lt (fun e => ?_) 6)
  show (if bt s e = 1 then 2 ^ g e else 0) < 256
  split
  · exact Nat.pow_lt_pow_right (a := 2) (by decide) (show g e < 8 from hg e)
  · decide
/-- the set can be run in some order: k ERRANDS, a last one each time -/
def DN (g n : Nat → Nat) (x : Nat) : Nat → Nat → Prop
  | 0, s => s = 0
  | k + 1, s => ∃ e, e < 6 ∧ bt s e = 1 ∧ DN g n x k (ah s e) ∧ canR (g e) (n e) (sgn g x (ah s e)) = true
def DS (g n : Nat → Nat) (x s : Nat) : Prop := ∃ k, DN g n x k s
theorem canR_iff (g n x : Nat) : canR g n x = true ↔ bt x g = 0 ∧ (n = 9 ∨ bt x n = 1) := by
  unfold canR
  rw [Bool.and_eq_true, Bool.or_eq_true, beq_iff_eq, beq_iff_eq, beq_iff_eq]
theorem DS_add {g n : Nat → Nat} {x s e : Nat} (he : e < 6) (hb : bt s e = 1) (h : DS g n x (ah s e)) (hc : canR (g e) (n e) (sgn g x (ah s e)) = true) : DS g n x s := by
  obtain ⟨k, hk⟩ := h
  exact ⟨k + 1, e, he, hb, hk, hc⟩
theorem DS_0 (g n : Nat → Nat) (x : Nat) : DS g n x 0 := ⟨0, rfl⟩
/-- no SIGN is got twice -/
theorem DN_dist {g n : Nat → Nat} {x : Nat} : ∀ (k s : Nat), s < 64 → DN g n x k s → ∀ e, e < 6 → bt s e = 1 → bt x (g e) = 0 ∧ ∀ i, i < 6 → bt s i = 1 → i ≠ e → g i ≠ g e
  | 0, s, hs, h, e, he, hb => by
    have h : s = 0 := h
    subst h
    rw [bt_0] at hb
    cases hb
  | k + 1, s, hs, h, e, he, hb => by
    obtain ⟨l, hl, hbl, hd, hc⟩ := h
    have ih := DN_dist k (ah s l) (ah_lt hs) hd
    rw [canR_iff] at hc
    have hno : ∀ j, bt x j = 1 ∨ (∃ e, e < 6 ∧ bt (ah s l) e = 1 ∧ g e = j) → j ≠ g l := by
      intro j hj q
      have := bt_sgn.mpr hj
      rw [q, hc.1] at this
      cases this
    have hx0 : ∀ i, bt x (g i) ≠ 1 → bt x (g i) = 0 := fun i q => by have := bt_lt x (g i); omega
    by_cases hel : e = l
    · subst hel
      refine ⟨hx0 e (fun q => hno _ (Or.inl q) rfl), fun i hi hbi hne q => ?_⟩
      exact hno _ (Or.inr ⟨i, hi, (ah_bt s hs e he i hi).mpr ⟨hbi, hne⟩, q⟩) rfl
    · have hbe := (ah_bt s hs l hl e he).mpr ⟨hb, hel⟩
      obtain ⟨i1, i2⟩ := ih e he hbe
      refine ⟨i1, fun i hi hbi hne q => ?_⟩
      by_cases hil : i = l
      · subst hil
        exact hno _ (Or.inr ⟨e, he, hbe, rfl⟩) q.symm
      · exact i2 i hi ((ah_bt s hs l hl i hi).mpr ⟨hbi, hil⟩) hne q
/-- who is stuck behind ran has all of each set of it that can be run, if the whole set can -/
theorem DN_stuck {g n : Nat → Nat} {x set ran : Nat} (hset : set < 64) (hd : DS g n x set) (hran : ∀ e, e < 6 → bt ran e = 1 → bt set e = 1) (hst : ∀ e, e < 6 → bt set e = 1 → bt ran e ≠ 1 → canR (g e) (n e) (sgn g x ran) = false) : ∀ (k s : Nat), s < 64 → DN g n x k s → (∀ e, e < 6 → bt s e = 1 → bt set e = 1) → ∀ e, e < 6 → bt s e = 1 → bt ran e = 1
  | 0, s, hs, h, hsub, e, he, hb => by
    have h : s = 0 := h
    subst h
    rw [bt_0] at hb
    cases hb
  | k + 1, s, hs, h, hsub, e, he, hb => by
    obtain ⟨l, hl, hbl, hdl, hc⟩ := h
    have ih := DN_stuck hset hd hran hst k (ah s l) (ah_lt hs) hdl (fun i hi hbi => hsub i hi ((ah_bt s hs l hl i hi).mp hbi).1)
    by_cases hel : e = l
    · subst hel
      by_cases hre : bt ran e = 1
      · exact hre
      exfalso
      have hno := hst e he (hsub e he hb) hre
      obtain ⟨kk, hkk⟩ := hd
      obtain ⟨d1, d2⟩ := DN_dist kk set hset hkk e he (hsub e he hb)
      rw [canR_iff] at hc
      have hyes : canR (g e) (n e) (sgn g x ran) = true := by
        rw [canR_iff]
        refine ⟨?_, ?_⟩
        · have hlt := bt_lt (sgn g x ran) (g e)
          by_cases q : bt (sgn g x ran) (g e) = 1
          · exfalso
            rcases bt_sgn.mp q with q | ⟨i, i1, i2, i3⟩
            · omega
            · exact d2 i i1 (hran i i1 i2) (fun w => hre (w ▸ i2)) i3
          · omega
        · rcases hc.2 with q | q
          · exact Or.inl q
          · refine Or.inr (bt_sgn.mpr ?_)
            rcases bt_sgn.mp q with q | ⟨i, i1, i2, i3⟩
            · exact Or.inl q
            · exact Or.inr ⟨i, i1, ih i i1 i2, i3⟩
      rw [hno] at hyes
      cases hyes
    · exact ih e he ((ah_bt s hs l hl e he).mpr ⟨hb, hel⟩)
-- the class's table
theorem lastE_none {g n : Nat → Nat} {w : Wt} {set : Nat} : ∀ (d e0 : Nat), lastE g n w set d e0 = none → ∀ e, e0 ≤ e → e < e0 + d → lastOk g n w set e = false
  | 0, e0, _, e, h1, h2 => by omega
  | d + 1, e0, h, e, h1, h2 => by
    have h : (if lastOk g n w set e0 = true then some e0 else lastE g n w set d (e0 + 1)) = none := h
    split at h
    · cases h
    · rename_i hk
      by_cases q : e = e0
      · subst q
        cases hl : lastOk g n w set e with
        | false => rfl
        | true => exact absurd hl hk
      · exact lastE_none d (e0 + 1) h e (by omega) (by omega)
theorem hs_low {t : Nat → Nat} {s i : Nat} (hs64 : s < 64) (hi : i < 6) : ∀ E, E ≤ 6 → E ≤ i → hs t (ah s i) E = hs t s E
  | 0, _, _ => rfl
  | E + 1, h6, hle => by
    show hs t (ah s i) E + (if bt (ah s i) E = 1 then t E else 0) = hs t s E + (if bt s E = 1 then t E else 0)
    rw [hs_low hs64 hi E (by omega) (by omega)]
    have := ah_bt s hs64 i hi E (by omega)
    by_cases q : bt s E = 1
    · rw [if_pos q, if_pos (this.mpr ⟨q, by omega⟩)]
    · rw [if_neg q, if_neg (fun w => q (this.mp w).1)]
theorem hs_ah {t : Nat → Nat} {s i : Nat} (hs64 : s < 64) (hi : i < 6) (hb : bt s i = 1) : ∀ E, E ≤ 6 → i < E → hs t s E = hs t (ah s i) E + t i
  | 0, _, h => by omega
  | E + 1, h6, h => by
    show hs t s E + (if bt s E = 1 then t E else 0) = hs t (ah s i) E + (if bt (ah s i) E = 1 then t E else 0) + t i
    have hbb := ah_bt s hs64 i hi E (by omega)
    by_cases q : E = i
    · subst q
      rw [hs_low hs64 hi E (by omega) (Nat.le_refl _), if_pos hb, if_neg (fun w => (hbb.mp w).2 rfl)]
      omega
    · rw [hs_ah hs64 hi hb E (by omega) (by omega)]
      by_cases q2 : bt s E = 1
      · rw [if_pos q2, if_pos (hbb.mpr ⟨q2, q⟩)]
        omega
      · rw [if_neg q2, if_neg (fun w => q2 (hbb.mp w).1)]
        omega
theorem hi_bit : ∀ E, E ≤ 6 → ∀ s, s < 2 ^ E → ∀ e, e < 6 → bt s e = 1 → e < E := by decide +kernel
theorem and_ah : ∀ s, s < 64 → ∀ b, b < 64 → ∀ e, e < 6 → s &&& b = 0 → ah s e &&& b = 0 := by decide +kernel
/-- what the table holds of a set -/
def dpP (g t n : Nat → Nat) (E x b : Nat) (w : Wt) (s : Nat) : Prop := (s &&& b = 0 → (DS g n x s → w.2 s = some (hs t s E) ∧ w.1 s = sgn g x s) ∧ (¬ DS g n x s → w.2 s = none)) ∧ (s &&& b ≠ 0 → w.2 s = none)
theorem hs_0 {t : Nat → Nat} : ∀ E, hs t 0 E = 0
  | 0 => rfl
  | E + 1 => by
    show hs t 0 E + (if bt 0 E = 1 then t E else 0) = 0
    rw [hs_0 E, bt_0]
    rfl
theorem dp_main {g t n : Nat → Nat} {E x b : Nat} (hE : E ≤ 6) (hb : b < 64) : ∀ m, m < 2 ^ E → ∀ s, s ≤ m → dpP g t n E x b (taW g t n E x b (m + 1)) s
  | 0, _, s, hsl => by
    have hsl : s = 0 := by omega
    subst hsl
    refine ⟨fun _ => ⟨fun _ => ⟨?_, ?_⟩, fun q => absurd (DS_0 g n x) q⟩, fun q => absurd (Nat.zero_and b) q⟩
    · show some 0 = some (hs t 0 E)
      rw [hs_0]
    · show x = sgn g x 0
      rw [sgn_0]
  | m + 1, hm, s, hsl => by
    have h64 := pow64' hE
    have ih := dp_main (g := g) (t := t) (n := n) (x := x) hE hb m (by omega)
    have e : taW g t n E x b (m + 1 + 1) = stW g t n E b (m + 1) (taW g t n E x b (m + 1)) := rfl
    rw [e]
    generalize taW g t n E x b (m + 1) = w at ih ⊢
    by_cases hsm : s ≤ m
    · have hne : s ≠ m + 1 := by omega
      have := ih s hsm
      unfold stW
      split
      · unfold dpP at this ⊢
        show (s &&& b = 0 → (DS g n x s → (if s = m + 1 then none else w.2 s) = some (hs t s E) ∧ w.1 s = sgn g x s) ∧ (¬ DS g n x s → (if s = m + 1 then none else w.2 s) = none)) ∧ (s &&& b ≠ 0 → (if s = m + 1 then none else w.2 s) = none)
        rw [if_neg hne]
        exact this
      · rename_i l hl
        unfold dpP at this ⊢
        show (s &&& b = 0 → (DS g n x s → (if s = m + 1 then (w.2 (ah (m + 1) l)).map (fun h => h + t l) else w.2 s) = some (hs t s E) ∧ (if s = m + 1 then w.1 (ah (m + 1) l) ||| 2 ^ g l else w.1 s) = sgn g x s) ∧ (¬ DS g n x s → (if s = m + 1 then (w.2 (ah (m + 1) l)).map (fun h => h + t l) else w.2 s) = none)) ∧ (s &&& b ≠ 0 → (if s = m + 1 then (w.2 (ah (m + 1) l)).map (fun h => h + t l) else w.2 s) = none)
        rw [if_neg hne, if_neg hne]
        exact this
    · have hse : s = m + 1 := by omega
      subst hse
      have hs64 : m + 1 < 64 := by omega
      -- an ERRAND of the set, and the set ahead of it
      have hah : ∀ l, l < 6 → bt (m + 1) l = 1 → ah (m + 1) l ≤ m := fun l hl hbl => by
        have := (ah_ok (m + 1) hs64 l hl).2.2 hbl
        omega
      unfold stW
      by_cases hbar : (m + 1) &&& b = 0
      · rw [if_pos hbar]
        cases hl : lastE g n w (m + 1) E 0 with
        | none =>
          have hno := lastE_none E 0 hl
          refine ⟨fun _ => ⟨fun hD => ?_, fun _ => if_pos rfl⟩, fun q => absurd hbar q⟩
          exfalso
          obtain ⟨k, hk⟩ := hD
          match k, hk with
          | 0, hk =>
            have hk : m + 1 = 0 := hk
            omega
          | k + 1, hk =>
            obtain ⟨l, l1, l2, l3, l4⟩ := hk
            have lE := hi_bit E hE (m + 1) hm l l1 l2
            have hP := (ih (ah (m + 1) l) (hah l l1 l2)).1 (and_ah (m + 1) hs64 b hb l l1 hbar)
            obtain ⟨p1, p2⟩ := hP.1 ⟨k, l3⟩
            have := hno l (Nat.zero_le _) (by omega)
            unfold lastOk at this
            rw [l2, p1, p2, l4] at this
            cases this
        | some l =>
          obtain ⟨l1, l2, l3⟩ := lastE_ok E 0 hl
          unfold lastOk at l3
          rw [Bool.and_eq_true, Bool.and_eq_true, beq_iff_eq] at l3
          obtain ⟨l4, l5, l6⟩ := l3
          have hl6 : l < 6 := by omega
          have hP := (ih (ah (m + 1) l) (hah l hl6 l4)).1 (and_ah (m + 1) hs64 b hb l hl6 hbar)
          have hD : DS g n x (ah (m + 1) l) := by
            refine Classical.byContradiction (fun q => ?_)
            rw [hP.2 q] at l5
            cases l5
          obtain ⟨p1, p2⟩ := hP.1 hD
          rw [p2] at l6
          have hDs : DS g n x (m + 1) := DS_add hl6 l4 hD l6
          refine ⟨fun _ => ⟨fun _ => ⟨?_, ?_⟩, fun q => absurd hDs q⟩, fun q => absurd hbar q⟩
          · show (if m + 1 = m + 1 then (w.2 (ah (m + 1) l)).map (fun h => h + t l) else w.2 (m + 1)) = some (hs t (m + 1) E)
            rw [if_pos rfl, p1, hs_ah hs64 hl6 l4 E hE (by omega)]
            rfl
          · show (if m + 1 = m + 1 then w.1 (ah (m + 1) l) ||| 2 ^ g l else w.1 (m + 1)) = sgn g x (m + 1)
            rw [if_pos rfl, p2, sgn_ah hs64 hl6 l4]
      · rw [if_neg hbar]
        exact ⟨fun q => absurd q hbar, fun _ => if_pos rfl⟩

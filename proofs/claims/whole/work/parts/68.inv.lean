/-! BOTH AT ONCE: what holds between the class's state and the reference's -/
def CW (S : cS) : Prop := ((C_tb S).length = 300 ∧ C_tl S ≤ 300 ∧ tl3 S) ∧ (HoL (C_to S) ∧ HoB (C_to S) ∧ DB S) ∧ (MoL (C_nw S) ∧ MoB (C_nw S) ∧ (∀ j, MoL (C_pm S j) ∧ MoB (C_pm S j)) ∧ (∀ j, MoL (C_im S j) ∧ MoB (C_im S j))) ∧ (C_pp S < 10 ∧ C_un S ≤ 10 ∧ C_ki S < 4) ∧ ((C_wg S).length = 64 ∧ (C_wh S).length = 64 ∧ (C_cg S).length = 256) ∧ ((C_ss S).length = 6 ∧ (C_sh S).length = 6 ∧ C_sm S ≤ 6 ∧ (∀ i, gd (C_ss S) i < 8) ∧ (∀ i, gd (C_sh S) i < 2))
/-- an entry of the reference's undo row is none that it can't undo -/
def udOK (M : mS) : Prop := ∀ m, m < M_um M → udM M m 0 < 3 ∧ (udM M m 0 = 0 → udM M m 1 < 5 ∧ udM M m 2 < 256 ∧ udM M m 3 < 100) ∧ (udM M m 0 = 1 → udM M m 1 < 4 ∧ udM M m 2 < 256 ∧ udM M m 3 < 9)
def kpOK (M : mS) : Prop := ∀ i, i < 2 → (∀ k, k < 5 → gd (M_kp M) (18 * i + k) < 256 ∧ gd (M_kp M) (18 * i + (5 + k)) < 100) ∧ (∀ k, k < 4 → gd (M_kp M) (18 * i + (10 + k)) < 256 ∧ gd (M_kp M) (18 * i + (14 + k)) < 9)
def MW (M : mS) : Prop := ML M ∧ MB M ∧ MDr M ∧ TXM M ∧ MS M ∧ M_um M ≤ 10 ∧ udOK M ∧ kpOK M
/-- an evening's numbers are the same, as far as there are KNOCKERS and RULES -/
def nowR (K U : Nat) (m : Mo) (f : Nat → Nat) : Prop := (∀ k, k < K → f k = gd m.1 k ∧ f (5 + k) = gd m.2.1 k) ∧ (∀ i, i < U → f (10 + i) = gd m.2.2.1 i ∧ f (14 + i) = gd m.2.2.2 i)
def updF (f : Nat → Nat) (i x : Nat) : Nat → Nat := fun j => if j = i then x else f j
/-- one step undone -/
def apF (kd w a b : Nat) (f : Nat → Nat) : Nat → Nat := if kd = 0 then updF (updF f w a) (5 + w) b else if kd = 1 then updF (updF f (10 + w) a) (14 + w) b else f
/-- so many steps undone -/
def sUf (M : mS) : Nat → Nat → Nat
  | 0 => gd (M_s M)
  | j + 1 => apF (udM M (M_um M - 1 - j) 0) (udM M (M_um M - 1 - j) 1) (udM M (M_um M - 1 - j) 2) (udM M (M_um M - 1 - j) 3) (sUf M j)
def JH (S : cS) (M : mS) : Prop := M_kn M = ho_K (C_to S) ∧ M_em M = ho_E (C_to S) ∧ M_ru M = ho_U (C_to S) ∧ M_ld M = ho_L (C_to S) ∧ (∀ k, k < ho_K (C_to S) → riM M k = riC S k) ∧ (∀ e, e < ho_E (C_to S) → geM M e = geC S e ∧ taM M e = taC S e ∧ neM M e = neC S e ∧ 1 ≤ taC S e)
abbrev JN (S : cS) (f : Nat → Nat) (m : Mo) : Prop := nowR (ho_K (C_to S)) (ho_U (C_to S)) m f
def JT (S : cS) (M : mS) : Prop := M_ty M = C_tl S ∧ ∀ p, p < C_tl S → gd (M_tx M) p = bN (gI (C_tb S) p)
def JU (S : cS) (M : mS) : Prop := M_um M = C_un S ∧ ∀ j, j < C_un S → JN S (sUf M (j + 1)) (C_pm S ((C_pp S + 9 - j) % 10))
def JI2 (S : cS) (M : mS) : Prop := ∀ i, i < 2 → gd (M_ik M) i = bt (C_ki S) i ∧ (bt (C_ki S) i = 1 → JN S (fun j => gd (M_kp M) (18 * i + j)) (C_im S i))
def JS (S : cS) (M : mS) : Prop := M_sm M = C_sm S ∧ ∀ i, i < C_sm S → gd (M_ss M) i = gd (C_ss S) i ∧ gd (M_sh M) i = gd (C_sh S) i
def Inv (S : cS) (M : mS) : Prop := CW S ∧ MW M ∧ JH S M ∧ JN S (gd (M_s M)) (C_nw S) ∧ JT S M ∧ JU S M ∧ JI2 S M ∧ JS S M ∧ M_tr M = C_tr S
theorem gd_setF {L : List Nat} {i x : Nat} (h : i < L.length) : gd (L.set i x) = updF (gd L) i x := by
  funext j
  unfold updF
  rw [gd_set]
  by_cases e : j = i
  · subst e
    rw [if_pos rfl, if_pos ⟨rfl, h⟩]
  · rw [if_neg e, if_neg (fun q => e q.1.symm)]
theorem unL_F {L : List Nat} {kd w a b : Nat} (hl : L.length = 18) (h0 : kd = 0 → w < 5) (h1 : kd = 1 → w < 4) : gd (unL L kd w a b) = apF kd w a b (gd L) := by
  unfold unL apF
  by_cases e0 : kd = 0
  · have := h0 e0
    rw [if_pos e0, if_pos e0, gd_setF (by rw [List.length_set]; omega), gd_setF (by omega)]
  · rw [if_neg e0, if_neg e0]
    by_cases e1 : kd = 1
    · have := h1 e1
      rw [if_pos e1, if_pos e1, gd_setF (by rw [List.length_set]; omega), gd_setF (by omega)]
    · rw [if_neg e1, if_neg e1]
theorem unL_len {L : List Nat} {kd w a b : Nat} : (unL L kd w a b).length = L.length := by
  unfold unL
  split
  · rw [List.length_set, List.length_set]
  · split
    · rw [List.length_set, List.length_set]
    · rfl
/-- the undo rows of a state behind one undo -/
theorem sUf_undo {M : mS} {m : Nat} (hm : M_um M = m + 1) (hL : (M_s M).length = 18) (h0 : udM M m 0 = 0 → udM M m 1 < 5) (h1 : udM M m 0 = 1 → udM M m 1 < 4) : ∀ j, sUf (Ms_s (Ms_um M m) (unL (M_s M) (udM M m 0) (udM M m 1) (udM M m 2) (udM M m 3))) j = sUf M (j + 1)
  | 0 => by
    show gd (unL (M_s M) (udM M m 0) (udM M m 1) (udM M m 2) (udM M m 3)) = apF (udM M (M_um M - 1 - 0) 0) (udM M (M_um M - 1 - 0) 1) (udM M (M_um M - 1 - 0) 2) (udM M (M_um M - 1 - 0) 3) (gd (M_s M))
    rw [unL_F hL h0 h1, hm]
    rfl
  | j + 1 => by
    have ih := sUf_undo hm hL h0 h1 j
    have e1 : ∀ N : mS, sUf N (j + 1) = apF (udM N (M_um N - 1 - j) 0) (udM N (M_um N - 1 - j) 1) (udM N (M_um N - 1 - j) 2) (udM N (M_um N - 1 - j) 3) (sUf N j) := fun _ => rfl
    have e2 : sUf M (j + 1 + 1) = apF (udM M (M_um M - 1 - (j + 1)) 0) (udM M (M_um M - 1 - (j + 1)) 1) (udM M (M_um M - 1 - (j + 1)) 2) (udM M (M_um M - 1 - (j + 1)) 3) (sUf M (j + 1)) := rfl
    rw [e1, ih, e2, show M_um M - 1 - (j + 1) = m - 1 - j by omega]
    rfl
theorem puN_len2 {L : List Nat} {m kd w a b : Nat} : (puN L m kd w a b).length = L.length := by
  unfold puN
  rw [List.length_set, List.length_set, List.length_set, List.length_set]
theorem puN_new {L : List Nat} {m kd w a b : Nat} (hl : L.length = 40) (hm : m < 10) : gd (puN L m kd w a b) (4 * m + 0) = kd ∧ gd (puN L m kd w a b) (4 * m + 1) = w ∧ gd (puN L m kd w a b) (4 * m + 2) = a ∧ gd (puN L m kd w a b) (4 * m + 3) = b := by
  unfold puN
  refine ⟨?_, ?_, ?_, ?_⟩
  · rw [gd_set_ne (by omega), gd_set_ne (by omega), gd_set_ne (by omega), Nat.add_zero, gd_set_eq (by omega)]
  · rw [gd_set_ne (by omega), gd_set_ne (by omega), gd_set_eq (by rw [List.length_set]; omega)]
  · rw [gd_set_ne (by omega), gd_set_eq (by rw [List.length_set, List.length_set]; omega)]
  · rw [gd_set_eq (by rw [List.length_set, List.length_set, List.length_set]; omega)]
theorem puN_old {L : List Nat} {m kd w a b i j : Nat} (h : i < m) (hj : j < 4) : gd (puN L m kd w a b) (4 * i + j) = gd L (4 * i + j) := by
  unfold puN
  rw [gd_set_ne (by omega), gd_set_ne (by omega), gd_set_ne (by omega), gd_set_ne (by omega)]
/-- the undo row behind a note -/
theorem noS_row {M : mS} {kd w a b : Nat} (hl : (M_ud M).length = 40) (hu : M_um M ≤ 10) : ∃ X m, noS M kd w a b = Ms_um (Ms_ud M X) (m + 1) ∧ X.length = 40 ∧ m + 1 = min (M_um M + 1) 10 ∧ (gd X (4 * m + 0) = kd ∧ gd X (4 * m + 1) = w ∧ gd X (4 * m + 2) = a ∧ gd X (4 * m + 3) = b) ∧ (∀ i j, i < m → j < 4 → gd X (4 * (m - 1 - i) + j) = udM M (M_um M - 1 - i) j) := by
  unfold noS
  by_cases h : M_um M = 10
  · rw [if_pos h]
    refine ⟨puN (shF (M_ud M)) 9 kd w a b, 9, rfl, by rw [puN_len2]; exact shF_len hl, by omega, puN_new (shF_len hl) (by decide), fun i j hi hj => ?_⟩
    rw [puN_old (by omega) hj, shF_gd hl _ (by omega), h]
    show gd (M_ud M) _ = gd (M_ud M) (4 * (10 - 1 - i) + j)
    exact congrArg _ (by omega)
  · rw [if_neg h]
    refine ⟨puN (M_ud M) (M_um M) kd w a b, M_um M, rfl, by rw [puN_len2]; exact hl, by omega, puN_new hl (by omega), fun i j hi hj => ?_⟩
    rw [puN_old (by omega) hj]
/-- what a note and the change behind it come to -/
theorem sUf_note {M : mS} {kd w a b : Nat} {L' : List Nat} (hl : (M_ud M).length = 40) (hu : M_um M ≤ 10) (hap : apF kd w a b (gd L') = gd (M_s M)) : M_um (Ms_s (noS M kd w a b) L') = min (M_um M + 1) 10 ∧ ∀ j, j < min (M_um M + 1) 10 → sUf (Ms_s (noS M kd w a b) L') (j + 1) = sUf M j := by
  obtain ⟨X, m, e, hX, hm, ⟨n1, n2, n3, n4⟩, ho⟩ := noS_row (M := M) (kd := kd) (w := w) (a := a) (b := b) hl hu
  rw [e]
  refine ⟨hm, fun j => ?_⟩
  induction j with
  | zero =>
    intro _
    show apF (gd X (4 * (m + 1 - 1 - 0) + 0)) (gd X (4 * (m + 1 - 1 - 0) + 1)) (gd X (4 * (m + 1 - 1 - 0) + 2)) (gd X (4 * (m + 1 - 1 - 0) + 3)) (gd L') = gd (M_s M)
    rw [show m + 1 - 1 - 0 = m by omega, n1, n2, n3, n4]
    exact hap
  | succ j ih =>
    intro hj
    have ih := ih (by omega)
    show apF (gd X (4 * (m + 1 - 1 - (j + 1)) + 0)) (gd X (4 * (m + 1 - 1 - (j + 1)) + 1)) (gd X (4 * (m + 1 - 1 - (j + 1)) + 2)) (gd X (4 * (m + 1 - 1 - (j + 1)) + 3)) (sUf (Ms_s (Ms_um (Ms_ud M X) (m + 1)) L') (j + 1)) = apF (udM M (M_um M - 1 - j) 0) (udM M (M_um M - 1 - j) 1) (udM M (M_um M - 1 - j) 2) (udM M (M_um M - 1 - j) 3) (sUf M j)
    rw [ih, show m + 1 - 1 - (j + 1) = m - 1 - j by omega, ho j 0 (by omega) (by decide), ho j 1 (by omega) (by decide), ho j 2 (by omega) (by decide), ho j 3 (by omega) (by decide)]
/-- what an entry of the undo row must be -/
def enOK (kd w a b : Nat) : Prop := kd < 3 ∧ (kd = 0 → w < 5 ∧ a < 256 ∧ b < 100) ∧ (kd = 1 → w < 4 ∧ a < 256 ∧ b < 9)
theorem udOK_note {M : mS} {kd w a b : Nat} {L' : List Nat} (hl : (M_ud M).length = 40) (hu : M_um M ≤ 10) (h : udOK M) (he : enOK kd w a b) : udOK (Ms_s (noS M kd w a b) L') := by
  obtain ⟨X, m, e, hX, hm, ⟨n1, n2, n3, n4⟩, ho⟩ := noS_row (M := M) (kd := kd) (w := w) (a := a) (b := b) hl hu
  rw [e]
  intro q hq
  have hq : q < m + 1 := hq
  show gd X (4 * q + 0) < 3 ∧ (gd X (4 * q + 0) = 0 → gd X (4 * q + 1) < 5 ∧ gd X (4 * q + 2) < 256 ∧ gd X (4 * q + 3) < 100) ∧ (gd X (4 * q + 0) = 1 → gd X (4 * q + 1) < 4 ∧ gd X (4 * q + 2) < 256 ∧ gd X (4 * q + 3) < 9)
  by_cases hqm : q = m
  · subst hqm
    rw [n1, n2, n3, n4]
    exact he
  · have h1 := fun j hj => ho (m - 1 - q) j (by omega) hj
    rw [show m - 1 - (m - 1 - q) = q by omega] at h1
    rw [h1 0 (by decide), h1 1 (by decide), h1 2 (by decide), h1 3 (by decide)]
    exact h _ (by omega)
/-- the class's ring behind a note -/
theorem ring_note {S : cS} {M : mS} {kd w a b : Nat} {L' : List Nat} {S' : cS} (hl : (M_ud M).length = 40) (hp9 : C_pp S < 10) (hu : C_un S ≤ 10) (hJ : JU S M) (hN : JN S (gd (M_s M)) (C_nw S)) (hap : apF kd w a b (gd L') = gd (M_s M)) (e1 : C_un S' = min (C_un S + 1) 10) (e2 : C_pp S' = nxt (C_pp S)) (e3 : C_pm S' = updM (C_pm S) (C_pp S) (C_nw S)) (e4 : C_to S' = C_to S) : JU S' (Ms_s (noS M kd w a b) L') := by
  obtain ⟨h1, h2⟩ := hJ
  obtain ⟨q1, q2⟩ := sUf_note (L' := L') hl (show M_um M ≤ 10 by omega) hap
  have hnx : nxt (C_pp S) = if C_pp S = 9 then 0 else C_pp S + 1 := rfl
  refine ⟨by rw [q1, e1, h1], fun j hj => ?_⟩
  rw [e1] at hj
  rw [q2 j (by omega)]
  unfold JN
  rw [e4, e3, e2]
  cases j with
  | zero =>
    have e : (nxt (C_pp S) + 9 - 0) % 10 = C_pp S := by
      rw [hnx]
      split <;> omega
    rw [e]
    show nowR _ _ (if C_pp S = C_pp S then C_nw S else _) _
    rw [if_pos rfl]
    exact hN
  | succ j =>
    have e : (nxt (C_pp S) + 9 - (j + 1)) % 10 = (C_pp S + 9 - j) % 10 := by
      rw [hnx]
      split <;> omega
    have hne : (C_pp S + 9 - j) % 10 ≠ C_pp S := by omega
    rw [e]
    show nowR _ _ (if (C_pp S + 9 - j) % 10 = C_pp S then C_nw S else C_pm S ((C_pp S + 9 - j) % 10)) _
    rw [if_neg hne]
    exact h2 j (by omega)
/-- the answer is of the method's type -/
def okV (q : Nat) (x : Value) : Bool := match x with
  | .int _ => !(Nat.beq q mX8_odds || Nat.beq q mX8_trace)
  | .long _ => Nat.beq q mX8_odds || Nat.beq q mX8_trace
  | _ => false
/-- a call of both: the same answer, and what holds between them holds again -/
def J2 (q8 q9 : Nat) (as : List Value) (S : cS) (M : mS) : Prop := ∃ (x : Value) (S' : cS) (M' : mS), okV q8 x = true ∧ Inv S' M' ∧ Cl q8 (.ref 0 :: as) (hp S M) (some x) (hp S' M) ∧ Cl q9 (.ref 104 :: as) (hp S' M) (some x) (hp S' M')
theorem J2_mk {q8 q9 : Nat} {as : List Value} {S : cS} {M : mS} (x : Value) (S' : cS) (M' : mS) (hI : Inv S' M') (h8 : ∀ T, Cl q8 (.ref 0 :: as) (hpC S ++ T) (some x) (hpC S' ++ T)) (h9 : ∀ S0, Cl q9 (.ref 104 :: as) (hp S0 M) (some x) (hp S0 M')) (hx : okV q8 x = true := by rfl) : J2 q8 q9 as S M := ⟨x, S', M', hx, hI, h8 _, h9 _⟩
theorem J2_same {q8 q9 : Nat} {as : List Value} {S : cS} {M : mS} {x : Value} (hI : Inv S M) (h8 : ∀ T, Cl q8 (.ref 0 :: as) (hpC S ++ T) (some x) (hpC S ++ T)) (h9 : ∀ S0, Cl q9 (.ref 104 :: as) (hp S0 M) (some x) (hp S0 M)) (hx : okV q8 x = true := by rfl) : J2 q8 q9 as S M := ⟨x, S, M, hx, hI, h8 _, h9 _⟩
theorem J2_eq {q8 q9 : Nat} {as : List Value} {S : cS} {M : mS} {x y : Value} (hI : Inv S M) (e : y = x) (h8 : ∀ T, Cl q8 (.ref 0 :: as) (hpC S ++ T) (some x) (hpC S ++ T)) (h9 : ∀ S0, Cl q9 (.ref 104 :: as) (hp S0 M) (some y) (hp S0 M)) (hx : okV q8 x = true := by rfl) : J2 q8 q9 as S M := by
  subst e
  exact ⟨_, S, M, hx, hI, h8 _, h9 _⟩

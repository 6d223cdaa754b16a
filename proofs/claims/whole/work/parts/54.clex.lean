/-! the words of a text: what the class's lexer answers -/
/-- a byte of the text; 256 behind its end -/
def ch (L : Nat) (t : Nat → Nat) (p : Nat) : Nat := if p < L then t p else 256
def iC (c : Nat) : Int32 := if c = 256 then kM1 else nI c
def lett (c : Nat) : Bool := decide (97 ≤ c) && decide (c ≤ 122)
def dig (c : Nat) : Bool := decide (48 ≤ c) && decide (c ≤ 57)
def adv' (c : Nat → Nat) (P : Nat → Bool) : Nat → Nat → Nat
  | 0, p => p
  | f + 1, p => if P (c p) then adv' c P f (p + 1) else p
/-- ahead while P -/
def adv (c : Nat → Nat) (P : Nat → Bool) (p : Nat) : Nat := adv' c P (300 - p) p
theorem adv_t {c : Nat → Nat} {P : Nat → Bool} {p : Nat} (hp3 : p < 300) (h : P (c p) = true) : adv c P p = adv c P (p + 1) := by
  unfold adv
  rw [show 300 - p = (300 - (p + 1)) + 1 by omega]
  exact if_pos h
theorem adv_f {c : Nat → Nat} {P : Nat → Bool} {p : Nat} (h : P (c p) = false) : adv c P p = p := by
  unfold adv
  cases h3 : 300 - p with
  | zero => rfl
  | succ n => exact if_neg (by rw [h]; decide)
theorem adv_o {c : Nat → Nat} {P : Nat → Bool} {p : Nat} (h : 300 ≤ p) : adv c P p = p := by
  unfold adv
  rw [show 300 - p = 0 by omega]
  rfl
theorem adv_ge {c : Nat → Nat} {P : Nat → Bool} : ∀ (d p : Nat), 300 - p = d → p ≤ adv c P p
  | 0, p, e => by rw [adv_o (by omega)]; exact Nat.le_refl _
  | d + 1, p, e => by
    cases h : P (c p) with
    | true =>
      rw [adv_t (by omega) h]
      exact Nat.le_trans (Nat.le_succ p) (adv_ge d (p + 1) (by omega))
    | false => rw [adv_f h]; exact Nat.le_refl _
theorem adv_le {c : Nat → Nat} {P : Nat → Bool} : ∀ (d p : Nat), 300 - p = d → adv c P p ≤ max p 300
  | 0, p, e => by rw [adv_o (by omega)]; omega
  | d + 1, p, e => by
    cases h : P (c p) with
    | true =>
      rw [adv_t (by omega) h]
      exact Nat.le_trans (adv_le d (p + 1) (by omega)) (by omega)
    | false => rw [adv_f h]; omega
/-- where the run stopped, P is not; before it, P is -/
theorem adv_stop {c : Nat → Nat} {P : Nat → Bool} (hz : P (c 300) = false) : ∀ (d p : Nat), 300 - p = d → p ≤ 300 → P (c (adv c P p)) = false
  | 0, p, e, h => by
    rw [adv_o (by omega), show p = 300 by omega]
    exact hz
  | d + 1, p, e, h => by
    cases h2 : P (c p) with
    | true =>
      rw [adv_t (by omega) h2]
      exact adv_stop hz d (p + 1) (by omega) (by omega)
    | false => rw [adv_f h2]; exact h2
theorem adv_in {c : Nat → Nat} {P : Nat → Bool} : ∀ (d p q : Nat), 300 - p = d → p ≤ q → q < adv c P p → P (c q) = true
  | 0, p, q, e, h1, h2 => by
    rw [adv_o (by omega)] at h2
    omega
  | d + 1, p, q, e, h1, h2 => by
    cases h : P (c p) with
    | true =>
      rw [adv_t (by omega) h] at h2
      by_cases hq : q = p
      · rw [hq]; exact h
      · exact adv_in d (p + 1) q (by omega) (by omega) h2
    | false =>
      rw [adv_f h] at h2
      omega
theorem iC_let : ∀ c, c < 257 → (if ¬ iC c < nI 97 ∧ ¬ nI 122 < iC c then nI 1 else nI 0) = nI (lett c).toNat := by decide +kernel
theorem iC_dig : ∀ c, c < 257 → (if ¬ iC c < nI 48 ∧ ¬ nI 57 < iC c then nI 1 else nI 0) = nI (dig c).toNat := by decide +kernel
theorem iC_eq : ∀ c, c < 257 → ∀ k, k < 128 → (iC c = nI k ↔ c = k) := by decide +kernel
theorem iC_neg : ∀ c, c < 257 → (iC c < 0 ↔ c = 256) := by decide +kernel
theorem dig_lt {c : Nat} (h : dig c = true) : 48 ≤ c ∧ c ≤ 57 := by
  unfold dig at h
  rw [Bool.and_eq_true, decide_eq_true_eq, decide_eq_true_eq] at h
  exact h
theorem lett_lt {c : Nat} (h : lett c = true) : 97 ≤ c ∧ c ≤ 122 := by
  unfold lett at h
  rw [Bool.and_eq_true, decide_eq_true_eq, decide_eq_true_eq] at h
  exact h
theorem iC_nI {c : Nat} (h : c ≠ 256) : iC c = nI c := if_neg h
theorem c_isLetter (h : aH) {c : Nat} (hc : c < 257) : Cl mX6_isLetter [.int (iC c)] h (some (.int (nI (lett c).toNat))) h := by
  rw [← iC_let c hc]
  refine Ev_br rfl (fun q => ?_) (fun q => ?_)
  · rw [if_neg (fun w => w.1 q)]
    exact Ev_rt rfl rfl rfl rfl
  refine Ev_br rfl (fun q2 => ?_) (fun q2 => ?_)
  · rw [if_neg (fun w => w.2 q2)]
    exact Ev_rt rfl rfl rfl rfl
  · rw [if_pos ⟨q, q2⟩]
    exact Ev_jp rfl (Ev_rt rfl rfl rfl rfl)
theorem c_isDigit (h : aH) {c : Nat} (hc : c < 257) : Cl mX6_isDigit [.int (iC c)] h (some (.int (nI (dig c).toNat))) h := by
  rw [← iC_dig c hc]
  refine Ev_br rfl (fun q => ?_) (fun q => ?_)
  · rw [if_neg (fun w => w.1 q)]
    exact Ev_rt rfl rfl rfl rfl
  refine Ev_br rfl (fun q2 => ?_) (fun q2 => ?_)
  · rw [if_neg (fun w => w.2 q2)]
    exact Ev_rt rfl rfl rfl rfl
  · rw [if_pos ⟨q, q2⟩]
    exact Ev_jp rfl (Ev_rt rfl rfl rfl rfl)
/-- behind a TOKEN -/
def lexE (c : Nat → Nat) (s : Nat) : Nat := if lett (c s) then adv c lett (s + 1) else if dig (c s) then adv c dig (s + 1) else s + 1
/-- a NUMBER's value -/
def numV (c : Nat → Nat) (s e : Nat) : Option Nat := if e - s = 1 then some (c s - 48) else if e - s = 2 ∧ 0 < c s - 48 then some (10 * (c s - 48) + c (s + 1) - 48) else none
def nIo (x : Option Nat) : Int32 := match x with
  | none => kM1
  | some v => nI v
/-- the four words -/
def wd (o : Nat) : List Nat := if o = 0 then [108, 111, 117, 100] else if o = 1 then [107, 110, 111, 99, 107, 101, 114] else if o = 2 then [101, 114, 114, 97, 110, 100] else [114, 117, 108, 101]
def mtch (c : Nat → Nat) (s : Nat) (w : List Nat) : Nat → Nat → Bool
  | 0, _ => true
  | d + 1, i => decide (c (s + i) = gd w i) && mtch c s w d (i + 1)
def isW (c : Nat → Nat) (s e o : Nat) : Bool := decide (e - s = (wd o).length) && mtch c s (wd o) (wd o).length 0
def kiF (c : Nat → Nat) (s e : Nat) : Nat := if c s = 256 then 0 else if c s = 59 then 2 else if dig (c s) then (if (numV c s e).isSome then 3 else 1) else if isW c s e 0 then 4 else if isW c s e 1 then 5 else if isW c s e 2 then 6 else if isW c s e 3 then 7 else 1
theorem wd_len : ∀ o, o < 4 → (wd o).length ≤ 7 := by decide
theorem wd_lt : ∀ o, o < 4 → ∀ i, i < 7 → gd (wd o) i < 128 := by decide
theorem c_len (h : aH) {o : Nat} (ho : o < 4) : Cl mJ0_length_8abf5 [.float (UInt32.ofNat o)] h (some (.int (nI (wd o).length))) h := by
  match o, ho with
  | 0, _ => exact ⟨100, rfl⟩
  | 1, _ => exact ⟨100, rfl⟩
  | 2, _ => exact ⟨100, rfl⟩
  | 3, _ => exact ⟨100, rfl⟩
theorem c_charAt (h : aH) {o i : Nat} (ho : o < 4) (hi : i < (wd o).length) : Cl mJ0_charAt_5068e [.float (UInt32.ofNat o), .int (nI i)] h (some (.int (nI (gd (wd o) i)))) h := by
  match o, ho, i, hi with
  | 0, _, 0, _ => exact ⟨200, rfl⟩
  | 0, _, 1, _ => exact ⟨200, rfl⟩
  | 0, _, 2, _ => exact ⟨200, rfl⟩
  | 0, _, 3, _ => exact ⟨200, rfl⟩
  | 0, _, i + 4, hi => exact absurd hi (by show ¬ i + 4 < 4; omega)
  | 1, _, 0, _ => exact ⟨200, rfl⟩
  | 1, _, 1, _ => exact ⟨200, rfl⟩
  | 1, _, 2, _ => exact ⟨200, rfl⟩
  | 1, _, 3, _ => exact ⟨200, rfl⟩
  | 1, _, 4, _ => exact ⟨200, rfl⟩
  | 1, _, 5, _ => exact ⟨200, rfl⟩
  | 1, _, 6, _ => exact ⟨200, rfl⟩
  | 1, _, i + 7, hi => exact absurd hi (by show ¬ i + 7 < 7; omega)
  | 2, _, 0, _ => exact ⟨200, rfl⟩
  | 2, _, 1, _ => exact ⟨200, rfl⟩
  | 2, _, 2, _ => exact ⟨200, rfl⟩
  | 2, _, 3, _ => exact ⟨200, rfl⟩
  | 2, _, 4, _ => exact ⟨200, rfl⟩
  | 2, _, 5, _ => exact ⟨200, rfl⟩
  | 2, _, i + 6, hi => exact absurd hi (by show ¬ i + 6 < 6; omega)
  | 3, _, 0, _ => exact ⟨200, rfl⟩
  | 3, _, 1, _ => exact ⟨200, rfl⟩
  | 3, _, 2, _ => exact ⟨200, rfl⟩
  | 3, _, 3, _ => exact ⟨200, rfl⟩
  | 3, _, i + 4, hi => exact absurd hi (by show ¬ i + 4 < 4; omega)
section
variable (S : cS) (T : aH)
/-- the class's text -/
def chC : Nat → Nat := ch (C_tl S) (fun p => bN (gI (C_tb S) p))
theorem chC_lt (p : Nat) : chC S p < 257 := by
  show (if p < C_tl S then bN (gI (C_tb S) p) else 256) < 257
  have := bN_lt (gI (C_tb S) p)
  split <;> omega
theorem c_byteAt (hl : (C_tb S).length = 300) (hL : C_tl S ≤ 300) {p : Nat} (hp3 : p < 2 ^ 30) : Cl mX5_byteAt [.ref 1, .int (nI p)] (hpC S ++ T) (some (.int (iC (chC S p)))) (hpC S ++ T) := by
  have e : chC S p = if p < C_tl S then bN (gI (C_tb S) p) else 256 := rfl
  refine Ev_br rfl (fun hc => absurd hc (nI_pos (by omega))) (fun _ => ?_)
  refine Ev_br rfl (fun hc => ?_) (fun hc => ?_)
  · have hc : nI (C_tl S) ≤ nI p := hc
    rw [nI_leI (by omega) (by omega)] at hc
    rw [e, if_neg (by omega)]
    exact Ev_rt rfl rfl rfl rfl
  · have hc : ¬ nI (C_tl S) ≤ nI p := hc
    rw [nI_leI (by omega) (by omega)] at hc
    refine Ev_br rfl (fun hc2 => ?_) (fun _ => ?_)
    · have hc2 : nI (C_tb S).length ≤ nI p := hc2
      rw [hl, nI_leI (by decide) (by omega)] at hc2
      omega
    refine Ev_ck rfl (a_inN (by omega) (by omega)) ?_
    refine Ev_jp rfl (Ev_rt rfl rfl ?_ rfl)
    have hb := bN_lt (gI (C_tb S) p)
    rw [e, if_pos (by omega), iC_nI (by omega), ← byte_nat, nI_clamp (by omega)]
    rfl
theorem c_pb_loop (hl : (C_tb S).length = 300) (hL : C_tl S ≤ 300) {x0 : Int32} : ∀ (d p : Nat), 300 - p = d → p < 2 ^ 20 → Ev [] mX6_passBlanks (2, [some (.ref 1), some (.int x0), some (.int (nI p))], [], hpC S ++ T) (some (.int (nI (adv (chC S) (fun c => decide (c = 32)) p)))) (hpC S ++ T)
  | 0, p, e, h => by
    rw [adv_o (by omega)]
    exact Ev_br rfl (fun _ => Ev_rt rfl rfl rfl rfl) (fun hc => absurd (nI_le (show 300 ≤ p by omega) (by omega)) hc)
  | d + 1, p, e, h => by
    have hc9 := chC_lt S p
    refine Ev_br rfl (fun hc => absurd hc (nI_ge (show p < 300 by omega) (by decide))) (fun _ => ?_)
    refine Ev_ca rfl (c_byteAt S T hl hL (p := p) (by omega)) ?_
    refine Ev_br rfl (fun hc => ?_) (fun hc => ?_)
    · have hc : ¬ iC (chC S p) = nI 32 := hc
      rw [iC_eq _ hc9 32 (by decide)] at hc
      rw [adv_f (decide_eq_false hc)]
      exact Ev_rt rfl rfl rfl rfl
    · have hc : ¬ ¬ iC (chC S p) = nI 32 := hc
      rw [Decidable.not_not, iC_eq _ hc9 32 (by decide)] at hc
      rw [adv_t (by omega) (decide_eq_true hc)]
      refine Ev_jpe rfl ?_ (c_pb_loop (x0 := x0) hl hL d (p + 1) (by omega) (by omega))
      rw [nI_add]
      all_goals rfl
theorem c_passBlanks (hl : (C_tb S).length = 300) (hL : C_tl S ≤ 300) {p : Nat} (h : p < 2 ^ 20) : Cl mX6_passBlanks [.ref 1, .int (nI p)] (hpC S ++ T) (some (.int (nI (adv (chC S) (fun c => decide (c = 32)) p)))) (hpC S ++ T) :=
  a_run_ev 2 rfl (c_pb_loop S T hl hL _ p rfl h)
theorem c_eo_let (hl : (C_tb S).length = 300) (hL : C_tl S ≤ 300) {x0 : Int32} : ∀ (d p : Nat), 300 - p = d → p < 2 ^ 20 → Ev [] mX6_endOf (15, [some (.ref 1), some (.int x0), some (.int (nI p))], [], hpC S ++ T) (some (.int (nI (adv (chC S) lett p)))) (hpC S ++ T)
  | 0, p, e, h => by
    rw [adv_o (by omega)]
    exact Ev_br rfl (fun _ => Ev_rt rfl rfl rfl rfl) (fun hc => absurd (nI_le (show 300 ≤ p by omega) (by omega)) hc)
  | d + 1, p, e, h => by
    have hc9 := chC_lt S p
    refine Ev_br rfl (fun hc => absurd hc (nI_ge (show p < 300 by omega) (by decide))) (fun _ => ?_)
    refine Ev_ca rfl (c_byteAt S T hl hL (p := p) (by omega)) ?_
    refine Ev_ca rfl (c_isLetter _ hc9) ?_
    cases hd : lett (chC S p) with
    | false =>
      rw [adv_f hd]
      exact Ev_br rfl (fun _ => Ev_rt rfl rfl rfl rfl) (fun hc => absurd nI_0 hc)
    | true =>
      rw [adv_t (by omega) hd]
      refine Ev_br rfl (fun hc => absurd hc b1z) (fun _ => ?_)
      refine Ev_jpe rfl ?_ (c_eo_let (x0 := x0) hl hL d (p + 1) (by omega) (by omega))
      rw [nI_add]
      all_goals rfl
theorem c_eo_dig (hl : (C_tb S).length = 300) (hL : C_tl S ≤ 300) {x0 : Int32} : ∀ (d p : Nat), 300 - p = d → p < 2 ^ 20 → Ev [] mX6_endOf (50, [some (.ref 1), some (.int x0), some (.int (nI p))], [], hpC S ++ T) (some (.int (nI (adv (chC S) dig p)))) (hpC S ++ T)
  | 0, p, e, h => by
    rw [adv_o (by omega)]
    exact Ev_br rfl (fun _ => Ev_rt rfl rfl rfl rfl) (fun hc => absurd (nI_le (show 300 ≤ p by omega) (by omega)) hc)
  | d + 1, p, e, h => by
    have hc9 := chC_lt S p
    refine Ev_br rfl (fun hc => absurd hc (nI_ge (show p < 300 by omega) (by decide))) (fun _ => ?_)
    refine Ev_ca rfl (c_byteAt S T hl hL (p := p) (by omega)) ?_
    refine Ev_ca rfl (c_isDigit _ hc9) ?_
    cases hd : dig (chC S p) with
    | false =>
      rw [adv_f hd]
      exact Ev_br rfl (fun _ => Ev_rt rfl rfl rfl rfl) (fun hc => absurd nI_0 hc)
    | true =>
      rw [adv_t (by omega) hd]
      refine Ev_br rfl (fun hc => absurd hc b1z) (fun _ => ?_)
      refine Ev_jpe rfl ?_ (c_eo_dig (x0 := x0) hl hL d (p + 1) (by omega) (by omega))
      rw [nI_add]
      all_goals rfl
theorem c_endOf (hl : (C_tb S).length = 300) (hL : C_tl S ≤ 300) {s : Nat} (h : s < 2 ^ 19) : Cl mX6_endOf [.ref 1, .int (nI s)] (hpC S ++ T) (some (.int (nI (lexE (chC S) s)))) (hpC S ++ T) := by
  have hc9 := chC_lt S s
  have e : lexE (chC S) s = if lett (chC S s) = true then adv (chC S) lett (s + 1) else if dig (chC S s) = true then adv (chC S) dig (s + 1) else s + 1 := rfl
  rw [e]
  refine Ev_ca rfl (c_byteAt S T hl hL (p := s) (by omega)) ?_
  refine Ev_ca rfl (c_isLetter _ hc9) ?_
  cases hd : lett (chC S s) with
  | true =>
    refine Ev_br rfl (fun hc => absurd hc b1z) (fun _ => ?_)
    refine Ev_eq ?_ (c_eo_let S T hl hL (x0 := nI s) _ (s + 1) rfl (by omega))
    rw [← nI_add]
    all_goals rfl
  | false =>
    refine Ev_br rfl (fun _ => ?_) (fun hc => absurd nI_0 hc)
    refine Ev_ca rfl (c_byteAt S T hl hL (p := s) (by omega)) ?_
    refine Ev_ca rfl (c_isDigit _ hc9) ?_
    cases hd2 : dig (chC S s) with
    | true =>
      refine Ev_br rfl (fun hc => absurd hc b1z) (fun _ => ?_)
      refine Ev_eq ?_ (c_eo_dig S T hl hL (x0 := nI s) _ (s + 1) rfl (by omega))
      rw [← nI_add]
      all_goals rfl
    | false =>
      refine Ev_br rfl (fun _ => ?_) (fun hc => absurd nI_0 hc)
      refine Ev_rt rfl rfl ?_ rfl
      rw [nI_add]
      rfl
theorem c_numberOf (hl : (C_tb S).length = 300) (hL : C_tl S ≤ 300) {s e : Nat} (h : s < 2 ^ 19) (he : s < e) (he2 : e < 2 ^ 20) (hd : dig (chC S s) = true) (hd2 : e - s = 2 → dig (chC S (s + 1)) = true) : Cl mX6_numberOf [.ref 1, .int (nI s), .int (nI e)] (hpC S ++ T) (some (.int (nIo (numV (chC S) s e)))) (hpC S ++ T) := by
  obtain ⟨d1, d2⟩ := dig_lt hd
  have ev : numV (chC S) s e = if e - s = 1 then some (chC S s - 48) else if e - s = 2 ∧ 0 < chC S s - 48 then some (10 * (chC S s - 48) + chC S (s + 1) - 48) else none := rfl
  have e1 : iC (chC S s) - nI 48 = nI (chC S s - 48) := by
    rw [iC_nI (by omega)]
    exact pk_sub d1
  have e2 : nI e - nI s = nI (e - s) := pk_sub (by omega)
  rw [ev]
  refine Ev_ca rfl (c_byteAt S T hl hL (p := s) (by omega)) ?_
  refine a_run_ev 3 rfl ?_
  rw [e1]
  generalize hf : chC S s - 48 = f
  have hf9 : f < 10 := by omega
  refine Ev_br rfl (fun hc => ?_) (fun hc => ?_)
  · have hc : ¬ nI e - nI s = nI 1 := hc
    rw [e2, nI_eq (by omega) (by decide)] at hc
    rw [if_neg hc]
    refine Ev_br rfl (fun hc2 => ?_) (fun hc2 => ?_)
    · have hc2 : ¬ nI e - nI s = nI 2 := hc2
      rw [e2, nI_eq (by omega) (by decide)] at hc2
      rw [if_neg (fun q => hc2 q.1)]
      exact Ev_rt rfl rfl rfl rfl
    · have hc2 : ¬ ¬ nI e - nI s = nI 2 := hc2
      rw [e2, Decidable.not_not, nI_eq (by omega) (by decide)] at hc2
      obtain ⟨d3, d4⟩ := dig_lt (hd2 hc2)
      refine Ev_br rfl (fun hc3 => ?_) (fun hc3 => ?_)
      · have hc3 : nI f ≤ nI 0 := hc3
        rw [nI_leI (by omega) (by decide)] at hc3
        rw [if_neg (fun q => by omega)]
        exact Ev_rt rfl rfl rfl rfl
      · have hc3 : ¬ nI f ≤ nI 0 := hc3
        rw [nI_leI (by omega) (by decide)] at hc3
        rw [if_pos ⟨hc2, by omega⟩]
        refine Ev_cae rfl (as' := [.ref 1, .int (nI (s + 1))]) ?_ (c_byteAt S T hl hL (p := s + 1) (by omega)) ?_
        · rw [← nI_add]
          all_goals rfl
        refine Ev_jp rfl (Ev_rt rfl rfl ?_ rfl)
        rw [iC_nI (by omega)]
        show some (Value.int (nI 10 * nI f + nI (chC S (s + 1)) - nI 48)) = _
        rw [pk_mul, nI_add, pk_sub (by omega)]
        rfl
  · have hc : ¬ ¬ nI e - nI s = nI 1 := hc
    rw [e2, Decidable.not_not, nI_eq (by omega) (by decide)] at hc
    rw [if_pos hc]
    exact Ev_rt rfl rfl rfl rfl
theorem isw_a1 {H : aH} {x y : Int32} {o : Nat} (ho : o < 4) : a_cac [] 99 mX6_isWord (0, a_ent (nlT mX6_isWord) [.ref 1, .int x, .int y, .float (UInt32.ofNat o)], [], H) = some (mJ0_length_8abf5, [.float (UInt32.ofNat o)], 7, [some (.ref 1), some (.int x), some (.int y), some (.float (UInt32.ofNat o)), none], [.int (y - x)], H) := by
  match o, ho with
  | 0, _ => rfl
  | 1, _ => rfl
  | 2, _ => rfl
  | 3, _ => rfl
theorem isw_a2 {H : aH} {x y i : Int32} {o : Nat} (ho : o < 4) : a_cac [] 99 mX6_isWord (15, [some (.ref 1), some (.int x), some (.int y), some (.float (UInt32.ofNat o)), some (.int i)], [], H) = some (mJ0_length_8abf5, [.float (UInt32.ofNat o)], 21, [some (.ref 1), some (.int x), some (.int y), some (.float (UInt32.ofNat o)), some (.int i)], [.int i], H) := by
  match o, ho with
  | 0, _ => rfl
  | 1, _ => rfl
  | 2, _ => rfl
  | 3, _ => rfl
theorem isw_a3 {H : aH} {x y i b : Int32} {o : Nat} (ho : o < 4) : a_cac [] 99 mX6_isWord (32, [some (.ref 1), some (.int x), some (.int y), some (.float (UInt32.ofNat o)), some (.int i)], [.int b], H) = some (mJ0_charAt_5068e, [.float (UInt32.ofNat o), .int i], 38, [some (.ref 1), some (.int x), some (.int y), some (.float (UInt32.ofNat o)), some (.int i)], [.int b], H) := by
  match o, ho with
  | 0, _ => rfl
  | 1, _ => rfl
  | 2, _ => rfl
  | 3, _ => rfl
theorem c_isW_loop (hl : (C_tb S).length = 300) (hL : C_tl S ≤ 300) {s e o : Nat} (h : s < 2 ^ 19) (ho : o < 4) : ∀ (d i : Nat), i + d = (wd o).length → Ev [] mX6_isWord (15, [some (.ref 1), some (.int (nI s)), some (.int (nI e)), some (.float (UInt32.ofNat o)), some (.int (nI i))], [], hpC S ++ T) (some (.int (nI (mtch (chC S) s (wd o) d i).toNat))) (hpC S ++ T)
  | 0, i, e2 => by
    have hw := wd_len o ho
    have e2 : i = (wd o).length := by omega
    subst e2
    refine Ev_ca (isw_a2 ho) (c_len _ ho) ?_
    exact Ev_br rfl (fun _ => Ev_rt rfl rfl rfl rfl) (fun hc => absurd (nI_le (Nat.le_refl _) (by omega)) hc)
  | d + 1, i, e2 => by
    have hw := wd_len o ho
    have hc9 := chC_lt S (s + i)
    have hk := wd_lt o ho i (by omega)
    have ih := c_isW_loop (e := e) hl hL h ho d (i + 1) (by omega)
    have em : mtch (chC S) s (wd o) (d + 1) i = (decide (chC S (s + i) = gd (wd o) i) && mtch (chC S) s (wd o) d (i + 1)) := rfl
    rw [em]
    refine Ev_ca (isw_a2 ho) (c_len _ ho) ?_
    refine Ev_br rfl (fun hc => absurd hc (nI_ge (show i < (wd o).length by omega) (by omega))) (fun _ => ?_)
    refine Ev_cae rfl (as' := [.ref 1, .int (nI (s + i))]) ?_ (c_byteAt S T hl hL (p := s + i) (by omega)) ?_
    · rw [← nI_add]
      all_goals rfl
    refine Ev_ca (isw_a3 ho) (c_charAt _ ho (by omega)) ?_
    refine Ev_br rfl (fun hc => ?_) (fun hc => ?_)
    · have hc : iC (chC S (s + i)) = nI (gd (wd o) i) := hc
      rw [iC_eq _ hc9 _ hk] at hc
      rw [decide_eq_true hc, Bool.true_and]
      refine Ev_jpe rfl ?_ ih
      rw [nI_add]
      all_goals rfl
    · have hc : ¬ iC (chC S (s + i)) = nI (gd (wd o) i) := hc
      rw [iC_eq _ hc9 _ hk] at hc
      rw [decide_eq_false hc, Bool.false_and]
      exact Ev_rt rfl rfl rfl rfl
theorem c_isWord (hl : (C_tb S).length = 300) (hL : C_tl S ≤ 300) {s e o : Nat} (h : s < 2 ^ 19) (he : s ≤ e) (he2 : e < 2 ^ 20) (ho : o < 4) : Cl mX6_isWord [.ref 1, .int (nI s), .int (nI e), .float (UInt32.ofNat o)] (hpC S ++ T) (some (.int (nI (isW (chC S) s e o).toNat))) (hpC S ++ T) := by
  have hw := wd_len o ho
  have e2 : nI e - nI s = nI (e - s) := pk_sub he
  have ei : isW (chC S) s e o = (decide (e - s = (wd o).length) && mtch (chC S) s (wd o) (wd o).length 0) := rfl
  rw [ei]
  refine Ev_ca (isw_a1 ho) (c_len _ ho) ?_
  refine Ev_br rfl (fun hc => ?_) (fun hc => ?_)
  · have hc : nI e - nI s = nI (wd o).length := hc
    rw [e2, nI_eq (by omega) (by omega)] at hc
    rw [decide_eq_true hc, Bool.true_and]
    exact a_run_ev 2 rfl (c_isW_loop S T hl hL h ho (wd o).length 0 (by omega))
  · have hc : ¬ nI e - nI s = nI (wd o).length := hc
    rw [e2, nI_eq (by omega) (by omega)] at hc
    rw [decide_eq_false hc, Bool.false_and]
    exact Ev_rt rfl rfl rfl rfl
theorem c_kindOf (hl : (C_tb S).length = 300) (hL : C_tl S ≤ 300) {s e : Nat} (h : s < 2 ^ 19) (he : s < e) (he2 : e < 2 ^ 20) (hd2 : dig (chC S s) = true → e - s = 2 → dig (chC S (s + 1)) = true) : Cl mX6_kindOf [.ref 1, .int (nI s), .int (nI e)] (hpC S ++ T) (some (.int (nI (kiF (chC S) s e)))) (hpC S ++ T) := by
  have hc9 := chC_lt S s
  have ek : kiF (chC S) s e = if chC S s = 256 then 0 else if chC S s = 59 then 2 else if dig (chC S s) = true then (if (numV (chC S) s e).isSome = true then 3 else 1) else if isW (chC S) s e 0 = true then 4 else if isW (chC S) s e 1 = true then 5 else if isW (chC S) s e 2 = true then 6 else if isW (chC S) s e 3 = true then 7 else 1 := rfl
  rw [ek]
  refine Ev_ca rfl (c_byteAt S T hl hL (p := s) (by omega)) ?_
  refine Ev_br rfl (fun hc => ?_) (fun hc => ?_)
  · have hc : ¬ iC (chC S s) < 0 := Int32.not_lt.mpr hc
    rw [iC_neg _ hc9] at hc
    rw [if_neg hc]
    refine Ev_br rfl (fun hc2 => ?_) (fun hc2 => ?_)
    · have hc2 : ¬ iC (chC S s) = nI 59 := hc2
      rw [iC_eq _ hc9 59 (by decide)] at hc2
      rw [if_neg hc2]
      refine Ev_ca rfl (c_isDigit _ hc9) ?_
      cases hd : dig (chC S s) with
      | true =>
        rw [if_pos rfl]
        refine Ev_br rfl (fun q => absurd q b1z) (fun _ => ?_)
        refine Ev_ca rfl (c_numberOf S T hl hL h he he2 hd (hd2 hd)) ?_
        have hn : ∀ v, numV (chC S) s e = some v → v < 1000 := by
          intro v q
          obtain ⟨d1, d2⟩ := dig_lt hd
          unfold numV at q
          split at q
          · cases q; omega
          · split at q
            · rename_i q2
              obtain ⟨d3, d4⟩ := dig_lt (hd2 hd q2.1)
              cases q; omega
            · cases q
        cases hv : numV (chC S) s e with
        | none =>
          refine Ev_br rfl (fun q => absurd (show kM1 ≥ 0 from q) (by decide)) (fun _ => ?_)
          exact Ev_jp rfl (Ev_rt rfl rfl rfl rfl)
        | some v =>
          have := hn v hv
          refine Ev_br rfl (fun _ => ?_) (fun q => absurd (nI_le (Nat.zero_le _) (by omega)) q)
          exact Ev_rt rfl rfl rfl rfl
      | false =>
        rw [if_neg (by decide)]
        refine Ev_br rfl (fun _ => ?_) (fun q => absurd nI_0 q)
        refine Ev_ca rfl (c_isWord S T hl hL h (Nat.le_of_lt he) he2 (o := 0) (by decide)) ?_
        cases isW (chC S) s e 0 with
        | true => exact Ev_br rfl (fun q => absurd q b1z) (fun _ => Ev_rt rfl rfl rfl rfl)
        | false =>
        refine Ev_br rfl (fun _ => ?_) (fun q => absurd nI_0 q)
        refine Ev_ca rfl (c_isWord S T hl hL h (Nat.le_of_lt he) he2 (o := 1) (by decide)) ?_
        cases isW (chC S) s e 1 with
        | true => exact Ev_br rfl (fun q => absurd q b1z) (fun _ => Ev_rt rfl rfl rfl rfl)
        | false =>
        refine Ev_br rfl (fun _ => ?_) (fun q => absurd nI_0 q)
        refine Ev_ca rfl (c_isWord S T hl hL h (Nat.le_of_lt he) he2 (o := 2) (by decide)) ?_
        cases isW (chC S) s e 2 with
        | true => exact Ev_br rfl (fun q => absurd q b1z) (fun _ => Ev_rt rfl rfl rfl rfl)
        | false =>
        refine Ev_br rfl (fun _ => ?_) (fun q => absurd nI_0 q)
        refine Ev_ca rfl (c_isWord S T hl hL h (Nat.le_of_lt he) he2 (o := 3) (by decide)) ?_
        cases isW (chC S) s e 3 with
        | true => exact Ev_br rfl (fun q => absurd q b1z) (fun _ => Ev_jp rfl (Ev_rt rfl rfl rfl rfl))
        | false => exact Ev_br rfl (fun _ => Ev_rt rfl rfl rfl rfl) (fun q => absurd nI_0 q)
    · have hc2 : ¬ ¬ iC (chC S s) = nI 59 := hc2
      rw [Decidable.not_not, iC_eq _ hc9 59 (by decide)] at hc2
      rw [if_pos hc2]
      exact Ev_rt rfl rfl rfl rfl
  · have hc : iC (chC S s) < 0 := Int32.not_le.mp hc
    rw [iC_neg _ hc9] at hc
    rw [if_pos hc]
    exact Ev_rt rfl rfl rfl rfl
end

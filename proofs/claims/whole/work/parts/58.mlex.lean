/-! the reference's lexer -/
def nmS (c : Nat → Nat) (s : Nat) : Nat → Nat
  | 0 => 0
  | n + 1 => 256 * nmS c s n + c (s + n)
def wdN (o : Nat) : Nat := nmS (gd (wd o)) 0 (wd o).length
theorem nmS_lt {c : Nat → Nat} {s : Nat} : ∀ n, (∀ i, i < n → c (s + i) < 256) → nmS c s n < 256 ^ n
  | 0, _ => Nat.one_pos
  | n + 1, h => by
    have ih := nmS_lt n (fun i hi => h i (by omega))
    have h2 := h n (by omega)
    show 256 * nmS c s n + c (s + n) < 256 ^ (n + 1)
    rw [Nat.pow_succ]
    omega
theorem nmS_ge {c : Nat → Nat} {s : Nat} : ∀ n, (∀ i, i < n + 1 → 0 < c (s + i)) → 256 ^ n ≤ nmS c s (n + 1)
  | 0, h => by
    have := h 0 (by omega)
    show 1 ≤ 256 * 0 + c (s + 0)
    omega
  | n + 1, h => by
    have ih := nmS_ge n (fun i hi => h i (by omega))
    show 256 ^ (n + 1) ≤ 256 * nmS c s (n + 1) + c (s + (n + 1))
    rw [Nat.pow_succ]
    omega
theorem nmS_inj {c : Nat → Nat} {s : Nat} {w : Nat → Nat} : ∀ n, (∀ i, i < n → c (s + i) < 256) → (∀ i, i < n → w i < 256) → (nmS c s n = nmS w 0 n ↔ ∀ i, i < n → c (s + i) = w i)
  | 0, _, _ => ⟨fun _ i hi => by omega, fun _ => rfl⟩
  | n + 1, h, h2 => by
    have ih := nmS_inj n (fun i hi => h i (by omega)) (fun i hi => h2 i (by omega))
    have a1 := h n (by omega)
    have a2 := h2 n (by omega)
    have e1 : nmS c s (n + 1) = 256 * nmS c s n + c (s + n) := rfl
    have e2 : nmS w 0 (n + 1) = 256 * nmS w 0 n + w (0 + n) := rfl
    rw [e1, e2, Nat.zero_add]
    constructor
    · intro q i hi
      have q1 : nmS c s n = nmS w 0 n := by omega
      by_cases e : i = n
      · subst e; omega
      · exact ih.mp q1 i (by omega)
    · intro q
      have q1 := ih.mpr (fun i hi => q i (by omega))
      have q2 := q n (by omega)
      omega
theorem mtch_iff {c : Nat → Nat} {s : Nat} {w : List Nat} : ∀ d i, mtch c s w d i = true ↔ ∀ j, i ≤ j → j < i + d → c (s + j) = gd w j
  | 0, i => ⟨fun _ j h1 h2 => by omega, fun _ => rfl⟩
  | d + 1, i => by
    have e : mtch c s w (d + 1) i = (decide (c (s + i) = gd w i) && mtch c s w d (i + 1)) := rfl
    rw [e, Bool.and_eq_true, decide_eq_true_eq, mtch_iff d (i + 1)]
    constructor
    · intro ⟨q1, q2⟩ j h1 h2
      by_cases h : j = i
      · rw [h]; exact q1
      · exact q2 j (by omega) (by omega)
    · intro q
      exact ⟨q i (Nat.le_refl i) (by omega), fun j h1 h2 => q j (by omega) (by omega)⟩
/-- the word's number, as long as it is no longer than 7 -/
def vvW (c : Nat → Nat) (s n : Nat) : Nat := if n ≤ 7 then nmS c s n else 0
theorem wd_pos : ∀ o, o < 4 → (∀ i, i < (wd o).length → 0 < gd (wd o) i ∧ gd (wd o) i < 256) ∧ 0 < (wd o).length := by decide
theorem wdN_pos : ∀ o, o < 4 → 0 < wdN o ∧ wdN o < 2 ^ 60 := by decide +kernel
theorem word_iff {c : Nat → Nat} {s e o : Nat} (ho : o < 4) (he : s < e) (hl : ∀ q, s ≤ q → q < e → lett (c q) = true) : vvW c s (e - s) = wdN o ↔ isW c s e o = true := by
  have hw7 := wd_len o ho
  obtain ⟨w1, w2⟩ := wd_pos o ho
  have hlt : ∀ i, i < e - s → 97 ≤ c (s + i) ∧ c (s + i) ≤ 122 := fun i hi => lett_lt (hl (s + i) (by omega) (by omega))
  unfold isW vvW
  rw [Bool.and_eq_true, decide_eq_true_eq, mtch_iff]
  by_cases h7 : e - s ≤ 7
  · rw [if_pos h7]
    constructor
    · intro q
      have hlen : e - s = (wd o).length := by
        obtain ⟨k, hk⟩ : ∃ k, e - s = k + 1 := ⟨e - s - 1, by omega⟩
        obtain ⟨k2, hk2⟩ : ∃ k, (wd o).length = k + 1 := ⟨(wd o).length - 1, by omega⟩
        have a1 := nmS_lt (c := c) (s := s) (e - s) (fun i hi => by have := hlt i hi; omega)
        have a2 := nmS_ge (c := c) (s := s) k (fun i hi => by have := hlt i (by omega); omega)
        have b1 := nmS_lt (c := gd (wd o)) (s := 0) (wd o).length (fun i hi => by rw [Nat.zero_add]; exact (w1 i hi).2)
        have b2 := nmS_ge (c := gd (wd o)) (s := 0) k2 (fun i hi => by rw [Nat.zero_add]; exact (w1 i (by omega)).1)
        have q : nmS c s (e - s) = nmS (gd (wd o)) 0 (wd o).length := q
        rw [hk] at a1 q
        rw [hk2] at b1 q
        rw [hk, hk2]
        by_cases c1 : k < k2
        · have := Nat.pow_le_pow_right (n := 256) (by decide) (show k + 1 ≤ k2 from c1)
          omega
        · by_cases c2 : k2 < k
          · have := Nat.pow_le_pow_right (n := 256) (by decide) (show k2 + 1 ≤ k from c2)
            omega
          · omega
      refine ⟨hlen, fun j _ hj => ?_⟩
      have q : nmS c s (e - s) = nmS (gd (wd o)) 0 (wd o).length := q
      rw [← hlen] at q
      exact (nmS_inj (e - s) (fun i hi => by have := hlt i hi; omega) (fun i hi => (w1 i (by omega)).2)).mp q j (by omega)
    · intro ⟨q1, q2⟩
      show nmS c s (e - s) = nmS (gd (wd o)) 0 (wd o).length
      rw [← q1]
      exact (nmS_inj (e - s) (fun i hi => by have := hlt i hi; omega) (fun i hi => (w1 i (by omega)).2)).mpr (fun i hi => q2 i (Nat.zero_le _) (by omega))
  · rw [if_neg h7]
    have := (wdN_pos o ho).1
    constructor
    · intro q; omega
    · intro ⟨q1, _⟩; omega
def woI (n : Nat) : Int32 := if n = wdN 0 then nI 0 else if n = wdN 1 then nI 1 else if n = wdN 2 then nI 2 else if n = wdN 3 then nI 3 else kM9
theorem lg_cmpE {a b : Int64} : lg_cmp a b = 0 ↔ a = b := by
  unfold lg_cmp
  constructor
  · intro h
    by_cases h1 : a > b
    · rw [if_pos h1] at h
      exact absurd h (by decide)
    · rw [if_neg h1] at h
      by_cases h2 : a = b
      · exact h2
      · rw [if_neg h2] at h
        exact absurd h (by decide)
  · intro h
    subst h
    rw [if_neg (show ¬ a > a from Int64.lt_irrefl), if_pos rfl]
theorem r_named0 (h : aH) : Cl mX9_named [.int (nI 108), .int (nI 111), .int (nI 117), .int (nI 100), .int (nI 0), .int (nI 0), .int (nI 0)] h (some (.long (lN (wdN 0)))) h := ⟨300, rfl⟩
theorem r_named1 (h : aH) : Cl mX9_named [.int (nI 107), .int (nI 110), .int (nI 111), .int (nI 99), .int (nI 107), .int (nI 101), .int (nI 114)] h (some (.long (lN (wdN 1)))) h := ⟨300, rfl⟩
theorem r_named2 (h : aH) : Cl mX9_named [.int (nI 101), .int (nI 114), .int (nI 114), .int (nI 97), .int (nI 110), .int (nI 100), .int (nI 0)] h (some (.long (lN (wdN 2)))) h := ⟨300, rfl⟩
theorem r_named3 (h : aH) : Cl mX9_named [.int (nI 114), .int (nI 117), .int (nI 108), .int (nI 101), .int (nI 0), .int (nI 0), .int (nI 0)] h (some (.long (lN (wdN 3)))) h := ⟨300, rfl⟩
theorem r_wordOf (h : aH) {n : Nat} (hn : n < 2 ^ 60) : Cl mX9_wordOf [.long (lN n)] h (some (.int (woI n))) h := by
  have key : ∀ o, o < 4 → (lg_cmp (lN n) (lN (wdN o)) = 0 ↔ n = wdN o) := fun o ho => by
    rw [lg_cmpE]
    exact pk_lEQ (by omega) (by have := (wdN_pos o ho).2; omega)
  unfold woI
  refine Ev_ca rfl (r_named0 h) ?_
  refine Ev_br rfl (fun hc => ?_) (fun hc => ?_)
  · have hc : ¬ lg_cmp (lN n) (lN (wdN 0)) = 0 := hc
    rw [key 0 (by decide)] at hc
    rw [if_neg hc]
    refine Ev_ca rfl (r_named1 h) ?_
    refine Ev_br rfl (fun hc1 => ?_) (fun hc1 => ?_)
    · have hc1 : ¬ lg_cmp (lN n) (lN (wdN 1)) = 0 := hc1
      rw [key 1 (by decide)] at hc1
      rw [if_neg hc1]
      refine Ev_br rfl (fun _ => ?_) (fun q => absurd rfl q)
      refine Ev_ca rfl (r_named2 h) ?_
      refine Ev_br rfl (fun hc2 => ?_) (fun hc2 => ?_)
      · have hc2 : ¬ lg_cmp (lN n) (lN (wdN 2)) = 0 := hc2
        rw [key 2 (by decide)] at hc2
        rw [if_neg hc2]
        refine Ev_ca rfl (r_named3 h) ?_
        refine Ev_br rfl (fun hc3 => ?_) (fun hc3 => ?_)
        · have hc3 : ¬ lg_cmp (lN n) (lN (wdN 3)) = 0 := hc3
          rw [key 3 (by decide)] at hc3
          rw [if_neg hc3]
          exact Ev_rt rfl rfl rfl rfl
        · have hc3 : ¬ ¬ lg_cmp (lN n) (lN (wdN 3)) = 0 := hc3
          rw [Decidable.not_not, key 3 (by decide)] at hc3
          rw [if_pos hc3]
          exact Ev_jp rfl (Ev_rt rfl rfl rfl rfl)
      · have hc2 : ¬ ¬ lg_cmp (lN n) (lN (wdN 2)) = 0 := hc2
        rw [Decidable.not_not, key 2 (by decide)] at hc2
        rw [if_pos hc2]
        exact Ev_jp rfl (Ev_rt rfl rfl rfl rfl)
    · have hc1 : ¬ ¬ lg_cmp (lN n) (lN (wdN 1)) = 0 := hc1
      rw [Decidable.not_not, key 1 (by decide)] at hc1
      rw [if_pos hc1]
      refine Ev_jp rfl ?_
      refine Ev_br rfl (fun q => absurd (show nI 1 = kM9 from q) (by decide)) (fun _ => ?_)
      exact Ev_jp rfl (Ev_rt rfl rfl rfl rfl)
  · have hc : ¬ ¬ lg_cmp (lN n) (lN (wdN 0)) = 0 := hc
    rw [Decidable.not_not, key 0 (by decide)] at hc
    rw [if_pos hc]
    refine Ev_jp rfl ?_
    refine Ev_br rfl (fun q => absurd (show nI 0 = kM9 from q) (by decide)) (fun _ => ?_)
    exact Ev_jp rfl (Ev_rt rfl rfl rfl rfl)
theorem r_add (h : aH) {a b : Nat} (hb : 0 < b) (hb2 : b < 2 ^ 30) : Cl mX9_add [.long (lN a), .int (nI b)] h (some (.long (lN (256 * a + b)))) h := by
  refine Ev_br rfl (fun _ => ?_) (fun hc => ?_)
  · refine Ev_rt rfl rfl ?_ rfl
    rw [nI_l (show b < 2 ^ 31 by omega), ← lN_add, ← lN_mul]
    all_goals rfl
  · have hc : ¬ ¬ nI b = 0 := hc
    rw [Decidable.not_not] at hc
    exact absurd hc (nI_ne0 (by omega) (by omega))
theorem r_inL (h : aH) {c : Nat} (hc : c < 257) : Cl mX9_in [.int (iC c), .int (nI 97), .int (nI 122)] h (some (.int (nI (lett c).toNat))) h := by
  rw [← iC_let c hc]
  refine Ev_br rfl (fun q => ?_) (fun q => ?_)
  · rw [if_neg (fun w => w.1 q)]
    exact Ev_rt rfl rfl rfl rfl
  refine Ev_br rfl (fun q2 => ?_) (fun q2 => ?_)
  · rw [if_neg (fun w => w.2 q2)]
    exact Ev_rt rfl rfl rfl rfl
  · rw [if_pos ⟨q, q2⟩]
    exact Ev_jp rfl (Ev_rt rfl rfl rfl rfl)
theorem r_inD (h : aH) {c : Nat} (hc : c < 257) : Cl mX9_in [.int (iC c), .int (nI 48), .int (nI 57)] h (some (.int (nI (dig c).toNat))) h := by
  rw [← iC_dig c hc]
  refine Ev_br rfl (fun q => ?_) (fun q => ?_)
  · rw [if_neg (fun w => w.1 q)]
    exact Ev_rt rfl rfl rfl rfl
  refine Ev_br rfl (fun q2 => ?_) (fun q2 => ?_)
  · rw [if_neg (fun w => w.2 q2)]
    exact Ev_rt rfl rfl rfl rfl
  · rw [if_pos ⟨q, q2⟩]
    exact Ev_jp rfl (Ev_rt rfl rfl rfl rfl)
/-- the digits' value, as it stops growing -/
def dvN (c : Nat → Nat) (s : Nat) : Nat → Nat
  | 0 => 0
  | n + 1 => if 99 < dvN c s n then dvN c s n else 10 * dvN c s n + c (s + n) - 48
theorem dvN_le {c : Nat → Nat} {s : Nat} : ∀ n, (∀ i, i < n → dig (c (s + i)) = true) → dvN c s n ≤ 999
  | 0, _ => by show 0 ≤ 999; decide
  | n + 1, h => by
    have ih := dvN_le n (fun i hi => h i (by omega))
    obtain ⟨d1, d2⟩ := dig_lt (h n (by omega))
    show (if 99 < dvN c s n then dvN c s n else 10 * dvN c s n + c (s + n) - 48) ≤ 999
    split <;> omega
theorem dvN_big {c : Nat → Nat} {s : Nat} (h : 99 < dvN c s 3) : ∀ n, 3 ≤ n → 99 < dvN c s n
  | 0, h2 => by omega
  | n + 1, h2 => by
    by_cases e : n + 1 = 3
    · rw [e]; exact h
    · have ih := dvN_big h n (by omega)
      show 99 < (if 99 < dvN c s n then dvN c s n else 10 * dvN c s n + c (s + n) - 48)
      rw [if_pos ih]
      exact ih
/-- the reference's number of a KIND -/
def tokM (k : Nat) : Nat := if k = 0 then 0 else if k = 1 then 4 else if k = 2 then 3 else if k = 3 then 2 else 1
/-- what the digits come to -/
theorem num_iff {c : Nat → Nat} {s e : Nat} (he : s < e) (hd : ∀ q, s ≤ q → q < e → dig (c q) = true) : ((99 < dvN c s (e - s) ∨ (c s = 48 ∧ 1 < e - s)) ↔ numV c s e = none) ∧ ∀ v, numV c s e = some v → dvN c s (e - s) = v := by
  obtain ⟨a1, a2⟩ := dig_lt (hd s (Nat.le_refl s) he)
  have e1 : dvN c s 1 = c s - 48 := by
    have h0 : dvN c s 0 = 0 := rfl
    show (if 99 < dvN c s 0 then dvN c s 0 else 10 * dvN c s 0 + c (s + 0) - 48) = _
    rw [h0, if_neg (by decide), Nat.add_zero]
    omega
  unfold numV
  by_cases h1 : e - s = 1
  · rw [if_pos h1, h1, e1]
    refine ⟨⟨fun q => by omega, fun q => by cases q⟩, fun v q => ?_⟩
    cases q
    rfl
  · rw [if_neg h1]
    obtain ⟨b1, b2⟩ := dig_lt (hd (s + 1) (by omega) (by omega))
    have e2 : dvN c s 2 = 10 * (c s - 48) + c (s + 1) - 48 := by
      show (if 99 < dvN c s 1 then dvN c s 1 else 10 * dvN c s 1 + c (s + 1) - 48) = _
      rw [e1, if_neg (by omega)]
    by_cases h2 : e - s = 2
    · rw [h2, e2]
      by_cases h3 : 0 < c s - 48
      · rw [if_pos ⟨rfl, h3⟩]
        refine ⟨⟨fun q => by omega, fun q => by cases q⟩, fun v q => ?_⟩
        cases q
        rfl
      · rw [if_neg (fun q => h3 q.2)]
        refine ⟨⟨fun _ => rfl, fun _ => Or.inr ⟨by omega, by decide⟩⟩, fun v q => by cases q⟩
    · rw [if_neg (fun q => h2 q.1)]
      refine ⟨⟨fun _ => rfl, fun _ => ?_⟩, fun v q => by cases q⟩
      by_cases h3 : c s = 48
      · exact Or.inr ⟨h3, by omega⟩
      · refine Or.inl (dvN_big ?_ (e - s) (by omega))
        obtain ⟨d1, d2⟩ := dig_lt (hd (s + 2) (by omega) (by omega))
        show 99 < (if 99 < dvN c s 2 then dvN c s 2 else 10 * dvN c s 2 + c (s + 2) - 48)
        rw [e2, if_neg (by omega)]
        omega

/-! the class's Crowd -/
/-- one of the first m has all of x -/
def cov (f : Nat → Nat) (x : Nat) : Nat → Bool
  | 0 => false
  | m + 1 => cov f x m || (x &&& (255 ^^^ f m) == 0)
theorem cov_iff {f : Nat → Nat} {x : Nat} : ∀ m, cov f x m = true ↔ ∃ i, i < m ∧ x &&& (255 ^^^ f i) = 0
  | 0 => ⟨fun h => (by cases h), fun h => (by obtain ⟨i, h1, -⟩ := h; omega)⟩
  | m + 1 => by
    show (cov f x m || (x &&& (255 ^^^ f m) == 0)) = true ↔ _
    rw [Bool.or_eq_true, cov_iff m, beq_iff_eq]
    constructor
    · intro h
      rcases h with h | h
      · obtain ⟨i, h1, h2⟩ := h
        exact ⟨i, by omega, h2⟩
      · exact ⟨m, by omega, h⟩
    · intro h
      obtain ⟨i, h1, h2⟩ := h
      by_cases e : i = m
      · subst e
        exact Or.inr h2
      · exact Or.inl ⟨i, by omega, h2⟩
theorem cov_mono {f : Nat → Nat} {x m : Nat} (h : cov f x m = true) (d : Nat) : cov f x (m + d) = true := by
  obtain ⟨i, h1, h2⟩ := (cov_iff m).mp h
  exact (cov_iff (m + d)).mpr ⟨i, by omega, h2⟩
/-- so many that differ, below n -/
theorem pig : ∀ (n m : Nat) (f : Nat → Nat), (∀ i, i < m → f i < n) → (∀ i j, i < m → j < m → f i = f j → i = j) → m ≤ n
  | 0, m, f, hf, _ => by
    by_cases hm : m = 0
    · omega
    · have := hf 0 (by omega)
      omega
  | n + 1, m, f, hf, hi => by
    by_cases h : ∃ i, i < m ∧ f i = n
    · obtain ⟨i, h1, h2⟩ := h
      have := pig n (m - 1) (fun j => if j = i then f (m - 1) else f j) (by
        intro j hj
        show (if j = i then f (m - 1) else f j) < n
        split
        · have a1 := hf (m - 1) (by omega)
          have a2 : f (m - 1) ≠ n := fun q => by
            have := hi i (m - 1) h1 (by omega) (h2.trans q.symm)
            omega
          omega
        · have a1 := hf j (by omega)
          have a2 : f j ≠ n := fun q => by
            have := hi i j h1 (by omega) (h2.trans q.symm)
            omega
          omega) (by
        intro a b ha hb e
        have e : (if a = i then f (m - 1) else f a) = (if b = i then f (m - 1) else f b) := e
        split at e
        · split at e
          · omega
          · have := hi (m - 1) b (by omega) (by omega) e
            omega
        · split at e
          · have := hi a (m - 1) (by omega) (by omega) e
            omega
          · exact hi a b (by omega) (by omega) e)
      omega
    · have := pig n m f (fun i hi2 => by
        have a1 := hf i hi2
        have a2 : f i ≠ n := fun q => h ⟨i, hi2, q⟩
        omega) hi
      omega
/-- the most of the first n -/
def mx (f : Nat → Nat) : Nat → Nat
  | 0 => 0
  | n + 1 => max (mx f n) (f n)
theorem mx_le {f : Nat → Nat} {t : Nat} : ∀ n, mx f n ≤ t ↔ ∀ i, i < n → f i ≤ t
  | 0 => ⟨fun _ i h => by omega, fun _ => Nat.zero_le _⟩
  | n + 1 => by
    show max (mx f n) (f n) ≤ t ↔ _
    rw [Nat.max_le, mx_le n]
    constructor
    · intro h i hi
      by_cases e : i = n
      · subst e; exact h.2
      · exact h.1 i (by omega)
    · intro h
      exact ⟨fun i hi => h i (by omega), h n (by omega)⟩
def addF (c : (Nat → Nat) × Nat) (x : Nat) : (Nat → Nat) × Nat := if cov c.1 x c.2 = true then c else (fun i => if i = c.2 then x else c.1 i, c.2 + 1)
def crS (S : cS) (g : List Int32) (m : Nat) : cS := Cs_cm (Cs_cg S g) m
/-- the crowd's row holds it -/
def CI (g : List Int32) (c : (Nat → Nat) × Nat) : Prop := g.length = 256 ∧ (∀ i, i < c.2 → gI g i = nI (c.1 i) ∧ c.1 i < 256) ∧ ∀ i j, i < c.2 → j < c.2 → c.1 i = c.1 j → i = j
theorem CI_le {g : List Int32} {c : (Nat → Nat) × Nat} (h : CI g c) : c.2 ≤ 256 := pig 256 c.2 c.1 (fun i hi => (h.2.1 i hi).2) h.2.2
theorem sub_self : ∀ x, x < 256 → x &&& (255 ^^^ x) = 0 := by decide +kernel
theorem CI_add {g : List Int32} {c : (Nat → Nat) × Nat} (h : CI g c) {x : Nat} (hx : x < 256) (hc : cov c.1 x c.2 = false) : CI (g.set c.2 (nI x)) (fun i => if i = c.2 then x else c.1 i, c.2 + 1) ∧ c.2 < 256 := by
  have hne : ∀ i, i < c.2 → c.1 i ≠ x := by
    intro i hi e
    have : cov c.1 x c.2 = true := (cov_iff _).mpr ⟨i, hi, by rw [e]; exact sub_self x hx⟩
    rw [hc] at this
    cases this
  have hinj : ∀ i j, i < c.2 + 1 → j < c.2 + 1 → (if i = c.2 then x else c.1 i) = (if j = c.2 then x else c.1 j) → i = j := by
    intro i j hi hj e
    split at e
    · split at e
      · omega
      · exact absurd e.symm (hne j (by omega))
    · split at e
      · exact absurd e (hne i (by omega))
      · exact h.2.2 i j (by omega) (by omega) e
  have hlt : c.2 + 1 ≤ 256 := pig 256 (c.2 + 1) (fun i => if i = c.2 then x else c.1 i) (fun i hi => by
    show (if i = c.2 then x else c.1 i) < 256
    split
    · exact hx
    · exact (h.2.1 i (by omega)).2) hinj
  refine ⟨⟨by rw [List.length_set]; exact h.1, ?_, hinj⟩, hlt⟩
  intro i hi
  have hi : i < c.2 + 1 := hi
  rw [gI_set]
  show _ = nI (if i = c.2 then x else c.1 i) ∧ (if i = c.2 then x else c.1 i) < 256
  by_cases e : i = c.2
  · rw [if_pos ⟨e.symm, by rw [h.1]; omega⟩, if_pos e]
    exact ⟨rfl, hx⟩
  · rw [if_neg (fun q => e q.1.symm), if_neg e]
    exact h.2.1 i (by omega)
section
variable (S : cS) (T : aH)
theorem c_Cadd_loop {x : Nat} (hx : x < 256) {c : (Nat → Nat) × Nat} (h : CI (C_cg S) c) (hm : C_cm S = c.2) : ∀ (d i : Nat), i + d = c.2 → cov c.1 x i = false → ∃ g, CI g (addF c x) ∧ Ev [] mX0_add (2, [some (.ref 100), some (.int (nI x)), some (.int (nI i))], [], hpC S ++ T) none (hpC (crS S g (addF c x).2) ++ T)
  | 0, i, e, hc => by
    have e9 : i = c.2 := by omega
    subst e9
    have hle := CI_le h
    obtain ⟨k1, k2⟩ := CI_add h hx hc
    have ha : addF c x = (fun i => if i = c.2 then x else c.1 i, c.2 + 1) := if_neg (by rw [hc]; decide)
    rw [ha]
    have hg := h.1
    refine ⟨_, k1, ?_⟩
    rw [← hm] at k2 ⊢
    refine Ev_br rfl (fun _ => ?_) (fun hc => absurd (nI_le (Nat.le_refl _) (by omega)) hc)
    refine Ev_ca rfl (c_putI (hpC S ++ T) 101 (C_cg S) (C_cm S) (nI x) rfl (by omega) (by omega)) ?_
    refine Ev_h (h2 := hpC (Cs_cg S ((C_cg S).set (C_cm S) (nI x))) ++ T) rfl ?_
    refine a_run_ev 6 rfl ?_
    refine Ev_h (h2 := hpC (crS S ((C_cg S).set (C_cm S) (nI x)) (C_cm S + 1)) ++ T) (by rw [nI_add]; rfl) ?_
    exact Ev_rt rfl rfl rfl rfl
  | d + 1, i, e, hc => by
    have hle := CI_le h
    have hg := h.1
    have hi := h.2.1 i (by omega)
    have hm31 : C_cm S < 2 ^ 31 := by omega
    have hb : a_cp .ge (nI i) (nI (C_cm S)) → False := fun hc => absurd hc (nI_ge (show i < C_cm S by omega) hm31)
    by_cases hcv : x &&& (255 ^^^ c.1 i) = 0
    · have ha : addF c x = c := if_pos ((cov_iff c.2).mpr ⟨i, by omega, hcv⟩)
      rw [ha]
      refine ⟨C_cg S, h, ?_⟩
      rw [← hm]
      refine Ev_br rfl (fun hc => absurd (hb hc) id) (fun _ => ?_)
      refine Ev_ca rfl (c_atI _ 101 (C_cg S) i rfl (by omega) (by omega)) ?_
      rw [show (C_cg S).getD i 0 = nI (c.1 i) from hi.1]
      refine Ev_br rfl (fun hc => ?_) (fun _ => Ev_rt rfl rfl rfl rfl)
      have hc : (nI x &&& (nI (c.1 i) ^^^ kM1)) ≠ 0 := hc
      rw [andN x hx _ hi.2, hcv] at hc
      exact absurd nI_0 hc
    · have hc2 : cov c.1 x (i + 1) = false := by
        show (cov c.1 x i || (x &&& (255 ^^^ c.1 i) == 0)) = false
        rw [hc, Bool.false_or, beq_eq_false_iff_ne]
        exact hcv
      obtain ⟨g, g1, g2⟩ := c_Cadd_loop hx h hm d (i + 1) (by omega) hc2
      refine ⟨g, g1, ?_⟩
      refine Ev_br rfl (fun hc => absurd (hb hc) id) (fun _ => ?_)
      refine Ev_ca rfl (c_atI _ 101 (C_cg S) i rfl (by omega) (by omega)) ?_
      rw [show (C_cg S).getD i 0 = nI (c.1 i) from hi.1]
      refine Ev_br rfl (fun _ => ?_) (fun hc => ?_)
      · refine Ev_jpe rfl ?_ g2
        rw [nI_add]
      · have hc : ¬ (nI x &&& (nI (c.1 i) ^^^ kM1)) ≠ 0 := hc
        have hle2 : x &&& (255 ^^^ c.1 i) ≤ x := Nat.and_le_left
        rw [andN x hx _ hi.2, ← nI_0, Decidable.not_not, nI_eq (by omega) (by decide)] at hc
        exact absurd hc hcv
theorem c_Cadd {x : Nat} (hx : x < 256) {c : (Nat → Nat) × Nat} (h : CI (C_cg S) c) (hm : C_cm S = c.2) : ∃ g, CI g (addF c x) ∧ Cl mX0_add [.ref 100, .int (nI x)] (hpC S ++ T) none (hpC (crS S g (addF c x).2) ++ T) := by
  obtain ⟨g, g1, g2⟩ := c_Cadd_loop S T hx h hm c.2 0 (by omega) rfl
  exact ⟨g, g1, a_run_ev 2 rfl g2⟩
/-- the most that one of the crowd has of the set -/
abbrev moR (c : (Nat → Nat) × Nat) (set : Nat) : Nat := mx (fun i => pop (c.1 i &&& set)) c.2
theorem mx_pop (f : Nat → Nat) (n : Nat) (h : ∀ i, f i ≤ 8) : mx f n ≤ 8 := (mx_le n).mpr (fun i _ => h i)
theorem c_mostOf_loop {set : Nat} (hs : set < 256) {c : (Nat → Nat) × Nat} (h : CI (C_cg S) c) (hm : C_cm S = c.2) : ∀ (d i : Nat), i + d = c.2 → Ev [] mX0_mostOf (4, [some (.ref 100), some (.int (nI set)), some (.int (nI (mx (fun i => pop (c.1 i &&& set)) i))), some (.int (nI i))], [], hpC S ++ T) (some (.int (nI (moR c set)))) (hpC S ++ T)
  | 0, i, e => by
    have hle := CI_le h
    have e9 : i = C_cm S := by omega
    have e8 : moR c set = mx (fun i => pop (c.1 i &&& set)) i := by
      unfold moR
      rw [e9, hm]
    rw [e8, e9]
    exact Ev_br rfl (fun _ => Ev_rt rfl rfl rfl rfl) (fun hc => absurd (nI_le (Nat.le_refl _) (by omega)) hc)
  | d + 1, i, e => by
    have hle := CI_le h
    have hg := h.1
    have hi := h.2.1 i (by omega)
    have hle2 : c.1 i &&& set ≤ c.1 i := Nat.and_le_left
    have hx8 := mx_pop (fun i => pop (c.1 i &&& set)) i (fun i => pop_le _)
    have hp8 := pop_le (c.1 i &&& set)
    have hs2 : mx (fun i => pop (c.1 i &&& set)) (i + 1) = max (mx (fun i => pop (c.1 i &&& set)) i) (pop (c.1 i &&& set)) := rfl
    refine Ev_br rfl (fun hc => absurd hc (nI_ge (show i < C_cm S by omega) (by omega))) (fun _ => ?_)
    refine Ev_ca rfl (c_atI _ 101 (C_cg S) i rfl (by omega) (by omega)) ?_
    rw [show (C_cg S).getD i 0 = nI (c.1 i) from hi.1]
    refine Ev_cae rfl (as' := [.int (nI (c.1 i &&& set))]) ?_ (c_bitCount _ (by omega)) ?_
    · rw [← nI_and (by omega) (by omega)]
    refine Ev_ck rfl rfl ?_
    refine Ev_jpe rfl ?_ (c_mostOf_loop hs h hm d (i + 1) (by omega))
    rw [nI_add, hs2]
    by_cases hlt : mx (fun i => pop (c.1 i &&& set)) i < pop (c.1 i &&& set)
    · rw [Nat.max_eq_right (by omega), if_pos (nI_lt hlt (by omega))]
    · rw [Nat.max_eq_left (by omega), if_neg (nI_nlt (by omega) (by omega))]
theorem c_mostOf {set : Nat} (hs : set < 256) {c : (Nat → Nat) × Nat} (h : CI (C_cg S) c) (hm : C_cm S = c.2) : Cl mX0_mostOf [.ref 100, .int (nI set)] (hpC S ++ T) (some (.int (nI (moR c set)))) (hpC S ++ T) :=
  a_run_ev 4 rfl (c_mostOf_loop S T hs h hm c.2 0 (by omega))
/-- all RIGHT ones have so many of the set -/
def enR (r sg : Nat → Nat) (set t : Nat) : Nat → Bool
  | 0 => true
  | k + 1 => enR r sg set t k && !(r k == 1 && decide (pop (sg k &&& set) < t))
theorem enR_mono {r sg : Nat → Nat} {set t k : Nat} (h : enR r sg set t k = false) : ∀ d, enR r sg set t (k + d) = false
  | 0 => h
  | d + 1 => by
    show (enR r sg set t (k + d) && _) = false
    rw [enR_mono h d]
    rfl
/-- the least number of the set, or 0 -/
def leN (r sg : Nat → Nat) (K M set : Nat) : Nat := if pop set < M + 1 then 0 else if enR r sg set (M + 1) K = true then M + 1 else 0
theorem c_least_loop {set t : Nat} (hs : set < 256) (ht : t < 100) (hL : HoL (C_to S)) (hB : HoB (C_to S)) (hL2 : MoL (C_nw S)) (hB2 : MoB (C_nw S)) : ∀ (d k : Nat), k + d = ho_K (C_to S) → enR (riC S) (sgC S) set t k = true → Ev [] mX8_leastNumber (23, [some (.ref 0), some (.int (nI set)), some (.int (nI t)), some (.int (nI k))], [], hpC S ++ T) (some (.int (nI (if enR (riC S) (sgC S) set t (ho_K (C_to S)) = true then t else 0)))) (hpC S ++ T)
  | 0, k, e, he => by
    have hK := hB.2.2.2.2.2.2.1
    have e9 : k = ho_K (C_to S) := by omega
    subst e9
    rw [if_pos he]
    exact Ev_br rfl (fun _ => Ev_rt rfl rfl rfl rfl) (fun hc => absurd (nI_le (Nat.le_refl _) (by omega)) hc)
  | d + 1, k, e, he => by
    have hK := hB.2.2.2.2.2.2.1
    have hr : riC S k < 2 := hB.2.1 k
    have hl := hL.2.1
    have hx : sgC S k < 256 := hB2.1 k
    have hle : sgC S k &&& set ≤ sgC S k := Nat.and_le_left
    have hp := pop_le (sgC S k &&& set)
    have hs1 : enR (riC S) (sgC S) set t (k + 1) = (enR (riC S) (sgC S) set t k && !(riC S k == 1 && decide (pop (sgC S k &&& set) < t))) := rfl
    rw [he, Bool.true_and] at hs1
    have go : enR (riC S) (sgC S) set t (k + 1) = true → Ev [] mX8_leastNumber (65, [some (.ref 0), some (.int (nI set)), some (.int (nI t)), some (.int (nI k))], [], hpC S ++ T) (some (.int (nI (if enR (riC S) (sgC S) set t (ho_K (C_to S)) = true then t else 0)))) (hpC S ++ T) := by
      intro h9
      refine Ev_jpe rfl ?_ (c_least_loop hs ht hL hB hL2 hB2 d (k + 1) (by omega) h9)
      rw [nI_add]
    refine Ev_br rfl (fun hc => absurd hc (nI_ge (show k < ho_K (C_to S) by omega) (by omega))) (fun _ => ?_)
    refine Ev_ca rfl (c_at _ 9 (ho_R (C_to S)) k rfl (by omega) (by omega)) ?_
    refine Ev_br rfl (fun hc => ?_) (fun hc => ?_)
    · have hc : ¬ nI (riC S k) = nI 1 := hc
      rw [nI_eq (by omega) (by decide)] at hc
      exact go (by rw [hs1, beq_eq_false_iff_ne.mpr hc]; rfl)
    · have hc : ¬ ¬ nI (riC S k) = nI 1 := hc
      rw [nI_eq (by omega) (by decide), Decidable.not_not] at hc
      refine Ev_ca rfl (c_signsOf S T hL2 (by omega)) ?_
      refine Ev_cae rfl (as' := [.int (nI (sgC S k &&& set))]) ?_ (c_bitCount _ (by omega)) ?_
      · rw [← nI_and (by omega) (by omega)]
      refine Ev_br rfl (fun hc2 => ?_) (fun hc2 => ?_)
      · have hc2 : nI t ≤ nI (pop (sgC S k &&& set)) := hc2
        rw [nI_leI (by omega) (by omega)] at hc2
        exact go (by rw [hs1, decide_eq_false (by omega), Bool.and_false]; rfl)
      · have hc2 : ¬ nI t ≤ nI (pop (sgC S k &&& set)) := hc2
        rw [nI_leI (by omega) (by omega)] at hc2
        have h0 : enR (riC S) (sgC S) set t (k + 1) = false := by
          rw [hs1, decide_eq_true (by omega), hc]
          rfl
        have h1 := enR_mono h0 d
        rw [show k + 1 + d = ho_K (C_to S) by omega] at h1
        rw [h1, if_neg (by decide)]
        exact Ev_rt rfl rfl rfl rfl
theorem c_least {set : Nat} (hs : set < 256) {c : (Nat → Nat) × Nat} (h : CI (C_cg S) c) (hm : C_cm S = c.2) (hL : HoL (C_to S)) (hB : HoB (C_to S)) (hL2 : MoL (C_nw S)) (hB2 : MoB (C_nw S)) : Cl mX8_leastNumber [.ref 0, .int (nI set)] (hpC S ++ T) (some (.int (nI (leN (riC S) (sgC S) (ho_K (C_to S)) (moR c set) set)))) (hpC S ++ T) := by
  have hx8 : moR c set ≤ 8 := mx_pop _ _ (fun i => pop_le _)
  have hp := pop_le set
  refine Ev_ca rfl (c_mostOf S T hs h hm) ?_
  refine a_run_ev 4 rfl ?_
  refine Ev_eq (c' := (12, [some (.ref 0), some (.int (nI set)), some (.int (nI (moR c set + 1))), none], [.int (nI (moR c set + 1))], hpC S ++ T)) (by rw [← nI_add]; rfl) ?_
  refine Ev_ca rfl (c_bitCount _ hs) ?_
  unfold leN
  refine Ev_br rfl (fun hc => ?_) (fun hc => ?_)
  · have hc : nI (moR c set + 1) ≤ nI (pop set) := hc
    rw [nI_leI (by omega) (by omega)] at hc
    rw [if_neg (by omega)]
    exact a_run_ev 2 rfl (c_least_loop S T hs (by omega) hL hB hL2 hB2 (ho_K (C_to S)) 0 (by omega) rfl)
  · have hc : ¬ nI (moR c set + 1) ≤ nI (pop set) := hc
    rw [nI_leI (by omega) (by omega)] at hc
    rw [if_pos (by omega)]
    exact Ev_rt rfl rfl rfl rfl
end

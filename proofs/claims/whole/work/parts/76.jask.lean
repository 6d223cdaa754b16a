/-! ask, safe of both -/
theorem bt_and1 (a b j : Nat) : bt (a &&& b) j = 1 ↔ bt a j = 1 ∧ bt b j = 1 := by
  rw [bt_tb, bt_tb, bt_tb, Nat.testBit_and, Bool.and_eq_true]
theorem tb255 : ∀ j, j < 8 → Nat.testBit 255 j = true := by decide
theorem bt_lt8 {a j : Nat} (ha : a < 256) (h : bt a j = 1) : j < 8 := by
  by_cases hj : j < 8
  · exact hj
  · have : 256 ≤ 2 ^ j := Nat.le_trans (show 256 ≤ 2 ^ 8 by decide) (Nat.pow_le_pow_right (by decide) (by omega))
    unfold bt at h
    rw [Nat.div_eq_of_lt (by omega)] at h
    cases h
theorem sub_iff {a b : Nat} (ha : a < 256) : a &&& (255 ^^^ b) = 0 ↔ ∀ j, bt a j = 1 → bt b j = 1 := by
  constructor
  · intro h j hj
    have h8 := bt_lt8 ha hj
    have h2 : (a &&& (255 ^^^ b)).testBit j = false := by rw [h, Nat.zero_testBit]
    rw [Nat.testBit_and, Nat.testBit_xor, tb255 j h8] at h2
    rw [bt_tb] at hj ⊢
    rw [hj] at h2
    cases hb : b.testBit j with
    | true => rfl
    | false => rw [hb] at h2; cases h2
  · intro h
    refine bt_ext (fun j => ?_)
    rw [bt_0]
    constructor
    · intro q
      rw [bt_and1] at q
      have hb := h j q.1
      have h8 := bt_lt8 ha q.1
      have q2 := q.2
      rw [bt_tb, Nat.testBit_xor, tb255 j h8] at q2
      rw [bt_tb] at hb
      rw [hb] at q2
      cases q2
    · intro q; cases q
theorem pop_mono {a b s : Nat} (ha : a < 256) (hb : b < 256) (h : a &&& (255 ^^^ b) = 0) : pop (a &&& s) ≤ pop (b &&& s) := by
  have h1 : a &&& s < 256 := Nat.lt_of_le_of_lt Nat.and_le_left ha
  have h2 : b &&& s < 256 := Nat.lt_of_le_of_lt Nat.and_le_left hb
  refine pop_sub _ h1 _ h2 ((sub_iff h1).mpr (fun j hj => ?_))
  rw [bt_and1] at hj ⊢
  exact ⟨(sub_iff ha).mp h j hj.1, hj.2⟩
theorem mx_congr {f g : Nat → Nat} : ∀ n, (∀ i, i < n → f i = g i) → mx f n = mx g n
  | 0, _ => rfl
  | n + 1, h => by
    show max (mx f n) (f n) = max (mx g n) (g n)
    rw [mx_congr n (fun i hi => h i (by omega)), h n (by omega)]
def c256 (c : (Nat → Nat) × Nat) : Prop := ∀ i, i < c.2 → c.1 i < 256
theorem c256_add {c : (Nat → Nat) × Nat} {x : Nat} (hc : c256 c) (hx : x < 256) : c256 (addF c x) := by
  unfold addF
  split
  · exact hc
  · intro i hi
    show (if i = c.2 then x else c.1 i) < 256
    have hi : i < c.2 + 1 := hi
    split
    · exact hx
    · exact hc i (by omega)
theorem moR_add {c : (Nat → Nat) × Nat} {x s : Nat} (hc : c256 c) (hx : x < 256) : moR (addF c x) s = max (moR c s) (pop (x &&& s)) := by
  unfold addF
  by_cases h : cov c.1 x c.2 = true
  · rw [if_pos h]
    obtain ⟨i, h1, h2⟩ := (cov_iff c.2).mp h
    have h3 := pop_mono (s := s) hx (hc i h1) h2
    have h4 : pop (c.1 i &&& s) ≤ moR c s := (mx_le (f := fun i => pop (c.1 i &&& s)) (t := moR c s) c.2).mp (Nat.le_refl _) i h1
    rw [Nat.max_eq_left (by omega)]
  · rw [if_neg h]
    show max (mx (fun i => pop ((if i = c.2 then x else c.1 i) &&& s)) c.2) (pop ((if c.2 = c.2 then x else c.1 c.2) &&& s)) = max (mx (fun i => pop (c.1 i &&& s)) c.2) (pop (x &&& s))
    rw [if_pos rfl, mx_congr (f := fun i => pop ((if i = c.2 then x else c.1 i) &&& s)) (g := fun i => pop (c.1 i &&& s)) c.2 (fun i hi => by
      show pop ((if i = c.2 then x else c.1 i) &&& s) = pop (c.1 i &&& s)
      rw [if_neg (by omega)])]
/-- how many of the set one has by this way, if it is there by h HOURS -/
def fK (w : Wt) (h s i : Nat) : Nat := match w.2 i with
  | none => 0
  | some y => if y ≤ h then pop (w.1 i &&& s) else 0
theorem gaS_main {w : Wt} {h s : Nat} : ∀ (j : Nat) (c : (Nat → Nat) × Nat), c256 c → (∀ i y, i < j → w.2 i = some y → w.1 i < 256) → c256 (gaS w h j c) ∧ moR (gaS w h j c) s = max (moR c s) (mx (fK w h s) j)
  | 0, c, hc, _ => ⟨hc, (Nat.max_eq_left (Nat.zero_le _)).symm⟩
  | j + 1, c, hc, hw => by
    have e : gaS w h (j + 1) c = gaS w h j (match w.2 j with
      | none => c
      | some x => if x ≤ h then addF c (w.1 j) else c) := rfl
    have e2 : mx (fK w h s) (j + 1) = max (mx (fK w h s) j) (fK w h s j) := rfl
    have ef : fK w h s j = match w.2 j with
      | none => 0
      | some y => if y ≤ h then pop (w.1 j &&& s) else 0 := rfl
    have ih := fun c hc => gaS_main (w := w) (h := h) (s := s) j c hc (fun i y hi => hw i y (by omega))
    rw [e, e2, ef]
    cases hj : w.2 j with
    | none =>
      obtain ⟨i1, i2⟩ := ih c hc
      refine ⟨i1, ?_⟩
      show moR (gaS w h j c) s = max (moR c s) (max (mx (fK w h s) j) 0)
      rw [i2]
      omega
    | some y =>
      by_cases hy : y ≤ h
      · have hx := hw j y (by omega) hj
        obtain ⟨i1, i2⟩ := ih (addF c (w.1 j)) (c256_add hc hx)
        show c256 (gaS w h j (if y ≤ h then addF c (w.1 j) else c)) ∧ moR (gaS w h j (if y ≤ h then addF c (w.1 j) else c)) s = max (moR c s) (max (mx (fK w h s) j) (if y ≤ h then pop (w.1 j &&& s) else 0))
        rw [if_pos hy, if_pos hy]
        refine ⟨i1, ?_⟩
        rw [i2, moR_add hc hx]
        omega
      · obtain ⟨i1, i2⟩ := ih c hc
        show c256 (gaS w h j (if y ≤ h then addF c (w.1 j) else c)) ∧ moR (gaS w h j (if y ≤ h then addF c (w.1 j) else c)) s = max (moR c s) (max (mx (fK w h s) j) (if y ≤ h then pop (w.1 j &&& s) else 0))
        rw [if_neg hy, if_neg hy]
        refine ⟨i1, ?_⟩
        rw [i2]
        omega
theorem gaK_main {r : Nat → Nat} {wt : Nat → Wt} {W h s : Nat} (hr : ∀ k, r k < 2) (hw : ∀ k i y, i < W → (wt k).2 i = some y → (wt k).1 i < 256) : ∀ K, c256 (gaK r wt W h K) ∧ moR (gaK r wt W h K) s = mst r (fun k => mx (fK (wt k) h s) W) K
  | 0 => ⟨fun i hi => absurd hi (Nat.not_lt_zero i), rfl⟩
  | K + 1 => by
    obtain ⟨i1, i2⟩ := gaK_main hr hw K
    have e : gaK r wt W h (K + 1) = if r K = 1 then gaK r wt W h K else gaS (wt K) h W (gaK r wt W h K) := rfl
    have e2 : mst r (fun k => mx (fK (wt k) h s) W) (K + 1) = if r K = 0 ∧ mst r (fun k => mx (fK (wt k) h s) W) K < mx (fK (wt K) h s) W then mx (fK (wt K) h s) W else mst r (fun k => mx (fK (wt k) h s) W) K := rfl
    have hrk := hr K
    rw [e, e2]
    by_cases h1 : r K = 1
    · rw [if_pos h1, if_neg (by omega)]
      exact ⟨i1, i2⟩
    · rw [if_neg h1]
      obtain ⟨j1, j2⟩ := gaS_main (w := wt K) (h := h) (s := s) W (gaK r wt W h K) i1 (fun i y hi => hw K i y hi)
      refine ⟨j1, ?_⟩
      rw [j2, i2]
      generalize mst r (fun k => mx (fK (wt k) h s) W) K = A
      generalize mx (fK (wt K) h s) W = B
      by_cases hAB : A < B
      · rw [if_pos ⟨by omega, hAB⟩]
        omega
      · rw [if_neg (fun q => hAB q.2)]
        omega
theorem mst_congr {r r2 nn nn2 : Nat → Nat} : ∀ K, (∀ k, k < K → r k = r2 k ∧ (r k = 0 → nn k = nn2 k)) → mst r nn K = mst r2 nn2 K
  | 0, _ => rfl
  | K + 1, h => by
    obtain ⟨h1, h2⟩ := h K (by omega)
    show (if r K = 0 ∧ mst r nn K < nn K then nn K else mst r nn K) = (if r2 K = 0 ∧ mst r2 nn2 K < nn2 K then nn2 K else mst r2 nn2 K)
    rw [mst_congr K (fun k hk => h k (by omega)), h1]
    by_cases q : r2 K = 0
    · rw [h2 (h1.trans q)]
    · rw [if_neg (fun w => q w.1), if_neg (fun w => q w.1)]
theorem lst_iff {r nn : Nat → Nat} {p t : Nat} : ∀ K, t ≤ lst r nn p K ↔ t ≤ p ∧ ∀ k, k < K → r k = 1 → t ≤ nn k
  | 0 => ⟨fun q => ⟨q, fun k hk => absurd hk (Nat.not_lt_zero k)⟩, fun q => q.1⟩
  | K + 1 => by
    have ih := lst_iff (r := r) (nn := nn) (p := p) (t := t) K
    have e : lst r nn p (K + 1) = if r K = 1 ∧ nn K < lst r nn p K then nn K else lst r nn p K := rfl
    rw [e]
    by_cases h : r K = 1 ∧ nn K < lst r nn p K
    · rw [if_pos h]
      constructor
      · intro q
        obtain ⟨i1, i2⟩ := ih.mp (by omega)
        refine ⟨i1, fun k hk hr => ?_⟩
        by_cases e2 : k = K
        · subst e2; exact q
        · exact i2 k (by omega) hr
      · intro q
        exact q.2 K (by omega) h.1
    · rw [if_neg h]
      constructor
      · intro q
        obtain ⟨i1, i2⟩ := ih.mp q
        refine ⟨i1, fun k hk hr => ?_⟩
        by_cases e2 : k = K
        · subst e2
          omega
        · exact i2 k (by omega) hr
      · intro q
        exact ih.mpr ⟨q.1, fun k hk => q.2 k (by omega)⟩
theorem enR_iff {r sg : Nat → Nat} {s t : Nat} : ∀ K, enR r sg s t K = true ↔ ∀ k, k < K → r k = 1 → t ≤ pop (sg k &&& s)
  | 0 => ⟨fun _ k hk => absurd hk (Nat.not_lt_zero k), fun _ => rfl⟩
  | K + 1 => by
    have e : enR r sg s t (K + 1) = (enR r sg s t K && !(r K == 1 && decide (pop (sg K &&& s) < t))) := rfl
    rw [e, Bool.and_eq_true, enR_iff K]
    have hq : (!(r K == 1 && decide (pop (sg K &&& s) < t))) = true ↔ (r K = 1 → t ≤ pop (sg K &&& s)) := by
      by_cases h1 : r K = 1
      · rw [h1]
        by_cases h2 : pop (sg K &&& s) < t
        · rw [decide_eq_true h2]
          exact ⟨(fun q => by cases q), fun q => by have := q rfl; omega⟩
        · rw [decide_eq_false h2]
          exact ⟨fun _ _ => by omega, fun _ => rfl⟩
      · have : (r K == 1) = false := by rw [beq_eq_false_iff_ne]; exact h1
        rw [this]
        exact ⟨fun _ q => absurd q h1, fun _ => rfl⟩
    rw [hq]
    constructor
    · intro ⟨q1, q2⟩ k hk hr
      by_cases e2 : k = K
      · subst e2; exact q2 hr
      · exact q1 k (by omega) hr
    · intro q
      exact ⟨fun k hk => q k (by omega), fun hr => q K (by omega) hr⟩
/-- the best of both -/
theorem lo_rb {K : Nat} {r : Nat → Nat} {nn : Nat → Nat → Nat} {le : Nat → Nat} (h : ∀ n, n < 255 → (mst r (nn (n + 1)) K < lst r (nn (n + 1)) (pop (n + 1)) K → le (n + 1) = mst r (nn (n + 1)) K + 1) ∧ (¬ mst r (nn (n + 1)) K < lst r (nn (n + 1)) (pop (n + 1)) K → le (n + 1) = 0)) : ∀ n, n ≤ 255 → (rb K r nn n = none → lo le n = (0, 0)) ∧ (∀ b, rb K r nn n = some b → lo le n = b ∧ 1 ≤ b.1)
  | 0, _ => ⟨fun _ => rfl, fun b q => by cases q⟩
  | n + 1, hn => by
    obtain ⟨i1, i2⟩ := lo_rb h n (by omega)
    obtain ⟨h1, h2⟩ := h n (by omega)
    have e1 : rb K r nn (n + 1) = if beB (rb K r nn n) (n + 1) = true ∧ mst r (nn (n + 1)) K < lst r (nn (n + 1)) (pop (n + 1)) K then some (n + 1, mst r (nn (n + 1)) K + 1) else rb K r nn n := rfl
    have e2 : lo le (n + 1) = if ((lo le n).1 = 0 ∨ pop (n + 1) < pop (lo le n).1) ∧ 0 < le (n + 1) then (n + 1, le (n + 1)) else lo le n := rfl
    have hbe : beB (rb K r nn n) (n + 1) = true ↔ ((lo le n).1 = 0 ∨ pop (n + 1) < pop (lo le n).1) := by
      cases hr : rb K r nn n with
      | none =>
        rw [i1 hr]
        exact ⟨fun _ => Or.inl rfl, fun _ => rfl⟩
      | some b =>
        obtain ⟨b1, b2⟩ := i2 b hr
        rw [b1]
        show decide (pop (n + 1) < pop b.1) = true ↔ _
        rw [decide_eq_true_eq]
        constructor
        · exact Or.inr
        · intro q
          rcases q with q | q
          · omega
          · exact q
    rw [e1, e2]
    by_cases hm : mst r (nn (n + 1)) K < lst r (nn (n + 1)) (pop (n + 1)) K
    · have hl := h1 hm
      by_cases hb : beB (rb K r nn n) (n + 1) = true
      · rw [if_pos ⟨hb, hm⟩, if_pos ⟨hbe.mp hb, by omega⟩, hl]
        exact ⟨(fun q => by cases q), fun b q => by cases q; exact ⟨rfl, Nat.succ_le_succ (Nat.zero_le _)⟩⟩
      · rw [if_neg (fun q => hb q.1), if_neg (fun q => hb (hbe.mpr q.1))]
        exact ⟨i1, i2⟩
    · have hl := h2 hm
      rw [if_neg (fun q => hm q.2), if_neg (fun q => by omega)]
      exact ⟨i1, i2⟩
theorem Inv_sc {S : cS} {M : mS} (h : Inv S M) {a b g : List Int32} {w m : Nat} (ha : a.length = 64) (hb : b.length = 64) (hg : g.length = 256) : Inv (scS S a b w g m) M := by
  obtain ⟨⟨c1, c2, c3, c4, _, c8⟩, hr⟩ := h
  exact ⟨⟨c1, c2, c3, c4, ⟨ha, hb, hg⟩, c8⟩, hr⟩
theorem lone_eq {S : cS} {M : mS} (h : Inv S M) {hh : Nat} {mo : Nat → Nat → Nat} (hmo : ∀ k, k < ho_K (C_to S) → ∀ s, s < 256 → mx (fK (wtC S k 0) hh s) (2 ^ ho_E (C_to S)) = mo k s) (what : Nat) : lrT (loC S hh) what = rtM (rbM M mo) what := by
  obtain ⟨hL, hB, hum, n1, n2, t1, t2, hK5, hE6, hU4, hLd, hP, hpp, hun, ls, hsB⟩ := ev_facts h
  have e1 : M_kn M = ho_K (C_to S) := h.2.2.1.1
  have hri := h.2.2.1.2.2.2.2.1
  have hg8 : ∀ e, geC S e < 8 := t2.2.2.1
  have hw : ∀ k i y, i < 2 ^ ho_E (C_to S) → (wtC S k 0).2 i = some y → (wtC S k 0).1 i < 256 := by
    intro k i y hi hy
    obtain ⟨w1, -⟩ := j_wt h k (b := 0) (by decide) i hi
    have w1 := w1 (Nat.and_zero i)
    have hD : DS (geC S) (neC S) (sgC S k) i := Classical.byContradiction (fun q => by rw [w1.2 q] at hy; cases hy)
    rw [(w1.1 hD).2]
    exact sgn_lt (n2.1 k) hg8
  have key := lo_rb (K := M_kn M) (r := riM M) (nn := nnM M mo) (le := lnC S (gaC S hh (ho_K (C_to S)))) (fun n hn => by
    have hg := (gaK_main (r := riC S) (wt := fun k => wtC S k 0) (W := 2 ^ ho_E (C_to S)) (h := hh) (s := n + 1) (fun k => t2.2.1 k) hw (ho_K (C_to S))).2
    have hm : moR (gaC S hh (ho_K (C_to S))) (n + 1) = mst (riM M) (nnM M mo (n + 1)) (M_kn M) := by
      show moR (gaK (riC S) (fun k => wtC S k 0) (2 ^ ho_E (C_to S)) hh (ho_K (C_to S))) (n + 1) = _
      rw [hg, e1]
      refine mst_congr _ (fun k hk => ⟨(hri k hk).symm, fun q => ?_⟩)
      have hrk : riM M k = 0 := (hri k hk).trans q
      show mx (fK (wtC S k 0) hh (n + 1)) (2 ^ ho_E (C_to S)) = if riM M k = 1 then pop (sgM M k &&& (n + 1)) else mo k (n + 1)
      rw [if_neg (by omega)]
      exact hmo k hk (n + 1) (by omega)
    have hen : ∀ t, enR (riC S) (sgC S) (n + 1) t (ho_K (C_to S)) = true ↔ ∀ k, k < M_kn M → riM M k = 1 → t ≤ nnM M mo (n + 1) k := by
      intro t
      rw [enR_iff, e1]
      constructor
      · intro q k hk hr
        show t ≤ if riM M k = 1 then pop (sgM M k &&& (n + 1)) else mo k (n + 1)
        rw [if_pos hr, (j_sg h hk).1]
        exact q k hk ((hri k hk).symm.trans hr)
      · intro q k hk hr
        have hr2 : riM M k = 1 := (hri k hk).trans hr
        have := q k hk hr2
        have this : t ≤ if riM M k = 1 then pop (sgM M k &&& (n + 1)) else mo k (n + 1) := this
        rw [if_pos hr2, (j_sg h hk).1] at this
        exact this
    have hll := lst_iff (r := riM M) (nn := nnM M mo (n + 1)) (p := pop (n + 1)) (t := mst (riM M) (nnM M mo (n + 1)) (M_kn M) + 1) (M_kn M)
    show (_ → leN (riC S) (sgC S) (ho_K (C_to S)) (moR (gaC S hh (ho_K (C_to S))) (n + 1)) (n + 1) = _) ∧ (_ → leN (riC S) (sgC S) (ho_K (C_to S)) (moR (gaC S hh (ho_K (C_to S))) (n + 1)) (n + 1) = 0)
    rw [hm]
    unfold leN
    constructor
    · intro q
      obtain ⟨q1, q2⟩ := hll.mp q
      rw [if_neg (by omega), if_pos ((hen _).mpr q2)]
    · intro q
      by_cases q1 : pop (n + 1) < mst (riM M) (nnM M mo (n + 1)) (M_kn M) + 1
      · rw [if_pos q1]
      · rw [if_neg q1, if_neg (fun q2 => q (hll.mpr ⟨by omega, (hen _).mp q2⟩))]) 255 (Nat.le_refl _)
  obtain ⟨k1, k2⟩ := key
  show lrT (lo (lnC S (gaC S hh (ho_K (C_to S)))) 255) what = rtM (rb (M_kn M) (riM M) (nnM M mo) 255) what
  cases hr : rb (M_kn M) (riM M) (nnM M mo) 255 with
  | none =>
    rw [k1 hr]
    rfl
  | some b =>
    obtain ⟨b1, b2⟩ := k2 b hr
    rw [b1]
    unfold lrT
    rw [if_neg (by omega)]
    rfl
/-- a way's number of the set -/
theorem fK_eq {S : cS} {M : mS} (h : Inv S M) {k hh s i : Nat} (hi : i < 2 ^ ho_E (C_to S)) : (DS (geC S) (neC S) (sgC S k) i → fK (wtC S k 0) hh s i = if hs (taC S) i (ho_E (C_to S)) ≤ hh then pop (sgn (geC S) (sgC S k) i &&& s) else 0) ∧ (¬ DS (geC S) (neC S) (sgC S k) i → fK (wtC S k 0) hh s i = 0) := by
  obtain ⟨w1, -⟩ := j_wt h k (b := 0) (by decide) i hi
  have w1 := w1 (Nat.and_zero i)
  unfold fK
  constructor
  · intro hD
    obtain ⟨d1, d2⟩ := w1.1 hD
    rw [d1, d2]
  · intro hD
    rw [w1.2 hD]
theorem mx_ms {S : cS} {M : mS} (h : Inv S M) {k hh s : Nat} (hk : k < ho_K (C_to S)) : ∀ r, r + 1 ≤ 2 ^ ho_E (C_to S) → mx (fK (wtC S k 0) hh s) (r + 1) = ms (gbh M k hh) (sgM M k) s r
  | 0, hr => by
    have q := (fK_eq h (k := k) (hh := hh) (s := s) (i := 0) (by omega)).1 (DS_0 _ _ _)
    rw [hs_0, sgn_0, if_pos (Nat.zero_le _)] at q
    show max 0 (fK (wtC S k 0) hh s 0) = pop (sgM M k &&& s)
    rw [q, (j_sg h hk).1]
    exact Nat.max_eq_right (Nat.zero_le _)
  | r + 1, hr => by
    have ih := mx_ms h (hh := hh) (s := s) hk r (by omega)
    have e : mx (fK (wtC S k 0) hh s) (r + 1 + 1) = max (mx (fK (wtC S k 0) hh s) (r + 1)) (fK (wtC S k 0) hh s (r + 1)) := rfl
    have e2 : ms (gbh M k hh) (sgM M k) s (r + 1) = match gbh M k hh (r + 1) with
      | none => ms (gbh M k hh) (sgM M k) s r
      | some y => max (ms (gbh M k hh) (sgM M k) s r) (pop (y &&& s)) := rfl
    obtain ⟨f1, f2⟩ := fK_eq h (k := k) (hh := hh) (s := s) (i := r + 1) (by omega)
    obtain ⟨g1, g2⟩ := j_got h (x := sgC S k) (s := r + 1) (by omega)
    have hho := j_ho h (r + 1)
    have eg : gbh M k hh (r + 1) = if hs (taC S) (r + 1) (ho_E (C_to S)) ≤ hh then goM M (sgC S k) (r + 1) else none := by
      show (if hoM M (r + 1) ≤ hh then goM M (sgM M k) (r + 1) else none) = _
      rw [hho, (j_sg h hk).1]
    rw [e, e2, ih, eg]
    by_cases hD : DS (geC S) (neC S) (sgC S k) (r + 1)
    · rw [f1 hD, g1 hD]
      by_cases hq : hs (taC S) (r + 1) (ho_E (C_to S)) ≤ hh
      · rw [if_pos hq, if_pos hq]
      · rw [if_neg hq, if_neg hq]
        exact Nat.max_eq_left (Nat.zero_le _)
    · rw [f2 hD, g2 hD]
      by_cases hq : hs (taC S) (r + 1) (ho_E (C_to S)) ≤ hh
      · rw [if_pos hq]
        exact Nat.max_eq_left (Nat.zero_le _)
      · rw [if_neg hq]
        exact Nat.max_eq_left (Nat.zero_le _)
theorem mx_0 {S : cS} {M : mS} (h : Inv S M) {k s : Nat} (hk : k < ho_K (C_to S)) : ∀ r, r + 1 ≤ 2 ^ ho_E (C_to S) → mx (fK (wtC S k 0) 0 s) (r + 1) = pop (sgM M k &&& s)
  | 0, hr => mx_ms h (hh := 0) (s := s) hk 0 hr
  | r + 1, hr => by
    obtain ⟨hL, hB, hum, n1, n2, t1, t2, hK5, hE6, hU4, hLd, hP, hpp, hun, ls, hsB⟩ := ev_facts h
    have ih := mx_0 h (s := s) hk r (by omega)
    have h64 := pow64' hE6
    have e : mx (fK (wtC S k 0) 0 s) (r + 1 + 1) = max (mx (fK (wtC S k 0) 0 s) (r + 1)) (fK (wtC S k 0) 0 s (r + 1)) := rfl
    obtain ⟨f1, f2⟩ := fK_eq h (k := k) (hh := 0) (s := s) (i := r + 1) (by omega)
    have hz : fK (wtC S k 0) 0 s (r + 1) = 0 := by
      by_cases hD : DS (geC S) (neC S) (sgC S k) (r + 1)
      · rw [f1 hD, if_neg]
        obtain ⟨i, i1, i2⟩ := some_bit (r + 1) (by omega) (by omega)
        have hiE := hi_bit _ hE6 (r + 1) (by omega) i i1 i2
        rw [hs_ah (t := taC S) (show r + 1 < 64 by omega) i1 i2 _ hE6 hiE]
        have := (h.2.2.1.2.2.2.2.2 i hiE).2.2.2
        omega
      · exact f2 hD
    rw [e, ih, hz]
    exact Nat.max_eq_left (Nat.zero_le _)
theorem j_ask {S : cS} {M : mS} (h : Inv S M) (x : Int32) : J2 mX8_ask mX9_ask [.int x] S M := by
  obtain ⟨hL, hB, hum, n1, n2, t1, t2, hK5, hE6, hU4, hLd, hP, hpp, hun, ls, hsB⟩ := ev_facts h
  obtain ⟨lg, lh, lc⟩ := h.1.2.2.2.2.1
  have hp1 : 1 ≤ 2 ^ ho_E (C_to S) := Nat.one_le_two_pow
  have go : ∀ y, y < 2 → J2 mX8_ask mX9_ask [.int (nI y)] S M := by
    intro y hy
    obtain ⟨a, b, w, g, m, i1, i2, i3, i4⟩ := cC_ask (hpM M) S hy t1 t2 n1 n2 lg lh lc
    have ea := lone_eq h (hh := 0) (mo := moA M) (fun k hk s _ => by
      have := mx_0 h (s := s) hk (2 ^ ho_E (C_to S) - 1) (by omega)
      rw [show 2 ^ ho_E (C_to S) - 1 + 1 = 2 ^ ho_E (C_to S) by omega] at this
      exact this) y
    rw [ea] at i4
    exact ⟨.int _, scS S a b w g m, M, rfl, Inv_sc h i1 i2 i3, i4, cM_ask (scS S a b w g m) M hy hL hB⟩
  rcases bit_ix x with ⟨q1, q2⟩ | rfl | rfl
  · exact J2_same h (fun T => cC_ask_bad T S q1 q2) (fun S0 => cM_ask_bad S0 M q1 q2)
  · exact go 0 (by decide)
  · exact go 1 (by decide)
theorem j_safe {S : cS} {M : mS} (h : Inv S M) (x z : Int32) : J2 mX8_safe mX9_safe [.int x, .int z] S M := by
  obtain ⟨hL, hB, hum, n1, n2, t1, t2, hK5, hE6, hU4, hLd, hP, hpp, hun, ls, hsB⟩ := ev_facts h
  obtain ⟨lg, lh, lc⟩ := h.1.2.2.2.2.1
  have e2 : M_em M = ho_E (C_to S) := h.2.2.1.2.1
  have hp1 : 1 ≤ 2 ^ ho_E (C_to S) := Nat.one_le_two_pow
  rcases hr_ix x (n := 99) (by decide) with q | ⟨hh, hh9, rfl⟩
  · exact J2_same h (fun T => cC_safe_bad T S q) (fun S0 => cM_safe_bad S0 M q)
  have go : ∀ y, y < 2 → J2 mX8_safe mX9_safe [.int (nI hh), .int (nI y)] S M := by
    intro y hy
    obtain ⟨a, b, w, g, m, i1, i2, i3, i4⟩ := cC_safe (hpM M) S (show hh < 100 by omega) hy t1 t2 n1 n2 lg lh lc
    have ea := lone_eq h (hh := hh) (mo := moM M hh) (fun k hk s _ => by
      have := mx_ms h (hh := hh) (s := s) hk (2 ^ ho_E (C_to S) - 1) (by omega)
      rw [show 2 ^ ho_E (C_to S) - 1 + 1 = 2 ^ ho_E (C_to S) by omega] at this
      rw [this]
      show _ = ms (gbh M k hh) (sgM M k) s (2 ^ M_em M - 1)
      rw [e2]) y
    rw [ea] at i4
    exact ⟨.int _, scS S a b w g m, M, rfl, Inv_sc h i1 i2 i3, i4, cM_safe (scS S a b w g m) M (show hh < 100 by omega) hy hL hB⟩
  rcases bit_ix z with ⟨q1, q2⟩ | rfl | rfl
  · exact J2_same h (fun T => cC_safe_bad2 T S (show hh < 100 by omega) q1 q2) (fun S0 => cM_safe_bad2 S0 M (show hh < 100 by omega) q1 q2)
  · exact go 0 (by decide)
  · exact go 1 (by decide)

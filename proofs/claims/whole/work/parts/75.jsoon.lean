/-! running what can be run finds the same; soonest, bar of both -/
theorem sub_ah : ∀ l, l < 64 → ∀ e, e < 6 → bt l e = 1 → l - 2 ^ e = ah l e := by decide +kernel
theorem or64 : ∀ l, l < 64 → ∀ e, e < 6 → l ||| 2 ^ e < 64 := by decide +kernel
theorem some_bit : ∀ l, l < 64 → l ≠ 0 → ∃ e, e < 6 ∧ bt l e = 1 := by decide +kernel
/-- ran and left make up the set -/
def RI (set ran left : Nat) : Prop := ran < 64 ∧ left < 64 ∧ ∀ e, e < 6 → (bt set e = 1 ↔ bt ran e = 1 ∨ bt left e = 1) ∧ ¬ (bt ran e = 1 ∧ bt left e = 1)
theorem RI_step {set ran left e : Nat} (h : RI set ran left) (he : e < 6) (hb : bt left e = 1) : RI set (ran ||| 2 ^ e) (ah left e) ∧ ah (ran ||| 2 ^ e) e = ran := by
  obtain ⟨h1, h2, h3⟩ := h
  have hre : bt ran e ≠ 1 := fun q => (h3 e he).2 ⟨q, hb⟩
  refine ⟨⟨or64 _ h1 e he, ah_lt h2, fun i hi => ?_⟩, ?_⟩
  · have hl := ah_bt left h2 e he i hi
    obtain ⟨q1, q2⟩ := h3 i hi
    rw [bt_or1, bt_two, hl, q1]
    constructor
    · constructor
      · intro w
        rcases w with w | w
        · exact Or.inl (Or.inl w)
        · by_cases q : e = i
          · exact Or.inl (Or.inr q)
          · exact Or.inr ⟨w, fun z => q z.symm⟩
      · intro w
        rcases w with (w | w) | w
        · exact Or.inl w
        · subst w; exact Or.inr hb
        · exact Or.inr w.1
    · intro ⟨w1, w2, w3⟩
      rcases w1 with w1 | w1
      · exact q2 ⟨w1, w2⟩
      · exact w3 w1.symm
  · refine ext6 _ (ah_lt (or64 _ h1 e he)) _ h1 (fun i hi => ?_)
    rw [ah_bt _ (or64 _ h1 e he) e he i hi, bt_or1, bt_two]
    constructor
    · intro ⟨w1, w2⟩
      rcases w1 with w1 | w1
      · exact w1
      · exact absurd w1.symm w2
    · intro w
      refine ⟨Or.inl w, fun q => ?_⟩
      subst q
      exact hre w
theorem pas_main {g n : Nat → Nat} {E x set : Nat} (hE : E ≤ 6) : ∀ (d e ran left : Nat) (more : Bool), e + d = E → RI set ran left → DS g n x ran → ∃ ran' left' more', pas g n d e (sgn g x ran, left, more) = (sgn g x ran', left', more') ∧ RI set ran' left' ∧ DS g n x ran' ∧ left' ≤ left ∧ (more' = true → more = true ∨ left' < left) ∧ (more' = false → more = false ∧ left' = left ∧ ran' = ran ∧ ∀ i, e ≤ i → i < E → bt left i = 1 → canR (g i) (n i) (sgn g x ran) = false)
  | 0, e, ran, left, more, he, hR, hD => ⟨ran, left, more, rfl, hR, hD, Nat.le_refl _, Or.inl, fun q => ⟨q, rfl, rfl, fun i h1 h2 => by omega⟩⟩
  | d + 1, e, ran, left, more, he, hR, hD => by
    have e1 : pas g n (d + 1) e (sgn g x ran, left, more) = if (bt left e == 1 && canR (g e) (n e) (sgn g x ran)) = true then pas g n d (e + 1) (sgn g x ran ||| 2 ^ g e, left - 2 ^ e, true) else pas g n d (e + 1) (sgn g x ran, left, more) := rfl
    rw [e1]
    by_cases hc : (bt left e == 1 && canR (g e) (n e) (sgn g x ran)) = true
    · rw [if_pos hc]
      rw [Bool.and_eq_true, beq_iff_eq] at hc
      obtain ⟨r1, r2⟩ := RI_step hR (show e < 6 by omega) hc.1
      have hb : bt (ran ||| 2 ^ e) e = 1 := (bt_or1 _ _ _).mpr (Or.inr ((bt_two _ _).mpr rfl))
      have hD1 : DS g n x (ran ||| 2 ^ e) := DS_add (show e < 6 by omega) hb (by rw [r2]; exact hD) (by rw [r2]; exact hc.2)
      have hsg : sgn g x ran ||| 2 ^ g e = sgn g x (ran ||| 2 ^ e) := by
        rw [sgn_ah (g := g) (x := x) (or64 _ hR.1 e (by omega)) (show e < 6 by omega) hb, r2]
      have hlt := (ah_ok left hR.2.1 e (by omega)).2.2 hc.1
      rw [hsg, sub_ah left hR.2.1 e (by omega) hc.1]
      obtain ⟨ran', left', more', p1, p2, p3, p4, p5, p6⟩ := pas_main hE d (e + 1) (ran ||| 2 ^ e) (ah left e) true (by omega) r1 hD1
      exact ⟨ran', left', more', p1, p2, p3, by omega, fun _ => Or.inr (by omega), fun q => by have := (p6 q).1; cases this⟩
    · rw [if_neg hc]
      obtain ⟨ran', left', more', p1, p2, p3, p4, p5, p6⟩ := pas_main hE d (e + 1) ran left more (by omega) hR hD
      refine ⟨ran', left', more', p1, p2, p3, p4, p5, fun q => ?_⟩
      obtain ⟨q1, q2, q3, q4⟩ := p6 q
      refine ⟨q1, q2, q3, fun i h1 h2 hb => ?_⟩
      by_cases w : i = e
      · subst w
        cases hcc : canR (g i) (n i) (sgn g x ran) with
        | false => rfl
        | true =>
          rw [hb, hcc] at hc
          exact absurd rfl hc
      · exact q4 i (by omega) h2 hb
theorem gob_main {g n : Nat → Nat} {E x set : Nat} (hE : E ≤ 6) (hset : set < 2 ^ E) : ∀ (f ran left : Nat) (more : Bool), RI set ran left → DS g n x ran → (more = true → left + 2 ≤ f) → (more = false → 1 ≤ f ∧ ∀ i, i < E → bt left i = 1 → canR (g i) (n i) (sgn g x ran) = false) → (DS g n x set → gob g n E f (sgn g x ran, left, more) = some (sgn g x set)) ∧ (¬ DS g n x set → gob g n E f (sgn g x ran, left, more) = none)
  | 0, ran, left, more, hR, hD, h1, h2 => by
    exfalso
    cases more with
    | true => have := h1 rfl; omega
    | false => have := (h2 rfl).1; omega
  | f + 1, ran, left, more, hR, hD, h1, h2 => by
    have h64 : set < 64 := Nat.lt_of_lt_of_le hset (pow64' hE)
    have e1 : gob g n E (f + 1) (sgn g x ran, left, more) = if left = 0 then some (sgn g x ran) else if more = false then none else gob g n E f (pas g n E 0 (sgn g x ran, left, false)) := rfl
    rw [e1]
    by_cases hl : left = 0
    · subst hl
      have : ran = set := ext6 _ hR.1 _ h64 (fun i hi => by
        have := (hR.2.2 i hi).1
        rw [bt_0] at this
        constructor
        · intro w; exact this.mpr (Or.inl w)
        · intro w
          rcases this.mp w with w | w
          · exact w
          · cases w)
      subst this
      rw [if_pos rfl]
      exact ⟨fun _ => rfl, fun q => absurd hD q⟩
    · rw [if_neg hl]
      cases more with
      | false =>
        rw [if_pos rfl]
        refine ⟨fun q => ?_, fun _ => rfl⟩
        exfalso
        obtain ⟨w1, w2⟩ := h2 rfl
        obtain ⟨i, i1, i2⟩ := some_bit left hR.2.1 hl
        have hin := (hR.2.2 i i1).1.mpr (Or.inr i2)
        obtain ⟨k, hk⟩ := q
        have := DN_stuck (ran := ran) h64 ⟨k, hk⟩ (fun e he hb => (hR.2.2 e he).1.mpr (Or.inl hb)) (fun e he hb hnr => w2 e (hi_bit E hE set hset e he hb) (by
          rcases (hR.2.2 e he).1.mp hb with w | w
          · exact absurd w hnr
          · exact w)) k set h64 hk (fun _ _ hb => hb) i i1 hin
        exact (hR.2.2 i i1).2 ⟨this, i2⟩
      | true =>
        rw [if_neg (by decide)]
        have h1 := h1 rfl
        obtain ⟨ran', left', more', p1, p2, p3, p4, p5, p6⟩ := pas_main (g := g) (n := n) (x := x) (set := set) hE E 0 ran left false (by omega) hR hD
        rw [p1]
        refine gob_main hE hset f ran' left' more' p2 p3 (fun q => ?_) (fun q => ?_)
        · rcases p5 q with w | w
          · cases w
          · omega
        · obtain ⟨q1, q2, q3, q4⟩ := p6 q
          subst q2
          subst q3
          exact ⟨by omega, fun i hi hb => q4 i (Nat.zero_le _) hi hb⟩
theorem got_main {g n : Nat → Nat} {E x set : Nat} (hE : E ≤ 6) (hset : set < 2 ^ E) : (DS g n x set → gob g n E (set + 2) (x, set, true) = some (sgn g x set)) ∧ (¬ DS g n x set → gob g n E (set + 2) (x, set, true) = none) := by
  have h64 : set < 64 := Nat.lt_of_lt_of_le hset (pow64' hE)
  have := gob_main (g := g) (n := n) (x := x) hE hset (set + 2) 0 set true ⟨by decide, h64, fun e he => ⟨⟨fun w => Or.inr w, fun w => by
    rcases w with w | w
    · rw [bt_0] at w; cases w
    · exact w⟩, fun w => by have := w.1; rw [bt_0] at this; cases this⟩⟩ (DS_0 g n x) (fun _ => Nat.le_refl _) (fun q => by cases q)
  rw [sgn_0] at this
  exact this
theorem pas_congr {g n g2 n2 : Nat → Nat} {E : Nat} (h : ∀ e, e < E → g e = g2 e ∧ n e = n2 e) : ∀ (d e : Nat) (st : Nat × Nat × Bool), e + d ≤ E → pas g n d e st = pas g2 n2 d e st
  | 0, _, _, _ => rfl
  | d + 1, e, st, he => by
    obtain ⟨h1, h2⟩ := h e (by omega)
    unfold pas
    rw [h1, h2, pas_congr h d (e + 1) _ (by omega), pas_congr h d (e + 1) _ (by omega)]
theorem gob_congr {g n g2 n2 : Nat → Nat} {E : Nat} (h : ∀ e, e < E → g e = g2 e ∧ n e = n2 e) : ∀ (f : Nat) (st : Nat × Nat × Bool), gob g n E f st = gob g2 n2 E f st
  | 0, _ => rfl
  | f + 1, st => by
    rw [gob_succ, gob_succ, pas_congr h E 0 _ (by omega), gob_congr h f]
theorem hs_congr {t t2 : Nat → Nat} {s : Nat} : ∀ E, (∀ e, e < E → t e = t2 e) → hs t s E = hs t2 s E
  | 0, _ => rfl
  | E + 1, h => by
    show hs t s E + (if bt s E = 1 then t E else 0) = hs t2 s E + (if bt s E = 1 then t2 E else 0)
    rw [hs_congr E (fun e he => h e (by omega)), h E (by omega)]
theorem so_sb {le : Nat → Bool} {g t n : Nat → Nat} {E x b : Nat} {w : Wt} (hw : ∀ s, s < 2 ^ E → dpP g t n E x b w s) {may : Nat → Bool} (hmay : ∀ s, s < 2 ^ E → (may s = true ↔ s &&& b = 0)) {got : Nat → Option Nat} (hgot : ∀ s, s < 2 ^ E → (DS g n x s → got s = some (sgn g x s)) ∧ (¬ DS g n x s → got s = none)) {ho : Nat → Nat} (hho : ∀ s, s < 2 ^ E → ho s = hs t s E) : ∀ m, m ≤ 2 ^ E → so le w m = sb le may got ho m ∧ ∀ c, so le w m = some c → w.2 c = some (ho c)
  | 0, _ => ⟨rfl, fun c q => by cases q⟩
  | m + 1, hm => by
    obtain ⟨i1, i2⟩ := so_sb hw hmay hgot hho m (by omega)
    obtain ⟨w1, w2⟩ := hw m (by omega)
    have hmy := hmay m (by omega)
    obtain ⟨g1, g2⟩ := hgot m (by omega)
    have hh := hho m (by omega)
    rw [so_succ, sb_succ, ← i1]
    generalize so le w m = B at i1 i2 ⊢
    by_cases hb : m &&& b = 0
    · rw [if_pos (hmy.mpr hb)]
      by_cases hD : DS g n x m
      · obtain ⟨d1, d2⟩ := (w1 hb).1 hD
        rw [← hh] at d1
        rw [g1 hD, nxB_some, d1, d2]
        have hsn : sn w B m = ltB ho B m := by
          cases B with
          | none => rfl
          | some c =>
            show decide ((w.2 m).getD 0 < (w.2 c).getD 0) = decide (ho m < ho c)
            rw [d1, i2 c rfl]
            rfl
        rw [hsn]
        have hbb : ((some (ho m)).isSome && (ltB ho B m && le (sgn g x m))) = (le (sgn g x m) && ltB ho B m) := by
          cases ltB ho B m <;> cases le (sgn g x m) <;> rfl
        rw [hbb]
        refine ⟨rfl, fun c q => ?_⟩
        split at q
        · cases q; exact d1
        · exact i2 c q
      · rw [(w1 hb).2 hD, g2 hD]
        exact ⟨rfl, i2⟩
    · have hmf : may m = false := by
        cases hq : may m with
        | false => rfl
        | true => exact absurd (hmy.mp hq) hb
      rw [w2 hb, hmf]
      exact ⟨rfl, i2⟩
-- both
theorem Inv_way {S : cS} {M : mS} (h : Inv S M) {a b : List Int32} (ha : a.length = 64) (hb : b.length = 64) : Inv (wayS S a b) M := by
  obtain ⟨⟨c1, c2, c3, c4, ⟨c5, c6, c7⟩, c8⟩, hr⟩ := h
  exact ⟨⟨c1, c2, c3, c4, ⟨ha, hb, c7⟩, c8⟩, hr⟩
/-- the reference's ways and the class's are of the same ERRANDS -/
theorem j_got {S : cS} {M : mS} (h : Inv S M) {x s : Nat} (hs2 : s < 2 ^ ho_E (C_to S)) : (DS (geC S) (neC S) x s → goM M x s = some (sgn (geC S) x s)) ∧ (¬ DS (geC S) (neC S) x s → goM M x s = none) := by
  obtain ⟨hL, hB, hum, n1, n2, t1, t2, hK5, hE6, hU4, hLd, hP, hpp, hun, ls, hsB⟩ := ev_facts h
  have e2 : M_em M = ho_E (C_to S) := h.2.2.1.2.1
  have eg : goM M x s = gob (geC S) (neC S) (ho_E (C_to S)) (s + 2) (x, s, true) := by
    show gob (geM M) (neM M) (M_em M) (s + 2) (x, s, true) = _
    rw [e2]
    exact gob_congr (fun e he => ⟨(h.2.2.1.2.2.2.2.2 e he).1, (h.2.2.1.2.2.2.2.2 e he).2.2.1⟩) _ _
  rw [eg]
  exact got_main hE6 hs2
theorem j_ho {S : cS} {M : mS} (h : Inv S M) (s : Nat) : hoM M s = hs (taC S) s (ho_E (C_to S)) := by
  have e2 : M_em M = ho_E (C_to S) := h.2.2.1.2.1
  show hs (taM M) s (M_em M) = _
  rw [e2]
  exact hs_congr _ (fun e he => (h.2.2.1.2.2.2.2.2 e he).2.1)
theorem j_wt {S : cS} {M : mS} (h : Inv S M) (k : Nat) {b : Nat} (hb : b < 64) (s : Nat) (hs2 : s < 2 ^ ho_E (C_to S)) : dpP (geC S) (taC S) (neC S) (ho_E (C_to S)) (sgC S k) b (wtC S k b) s := by
  obtain ⟨hL, hB, hum, n1, n2, t1, t2, hK5, hE6, hU4, hLd, hP, hpp, hun, ls, hsB⟩ := ev_facts h
  have h1 : 1 ≤ 2 ^ ho_E (C_to S) := Nat.one_le_two_pow
  have := dp_main (g := geC S) (t := taC S) (n := neC S) (x := sgC S k) hE6 hb (2 ^ ho_E (C_to S) - 1) (by omega) s (by omega)
  rw [show 2 ^ ho_E (C_to S) - 1 + 1 = 2 ^ ho_E (C_to S) by omega] at this
  exact this
theorem j_so {S : cS} {M : mS} (h : Inv S M) {k b : Nat} (hk : k < ho_K (C_to S)) (hb : b < 64) {may : Nat → Bool} (hmay : ∀ s, s < 2 ^ ho_E (C_to S) → (may s = true ↔ s &&& b = 0)) : soC S k b = sbM M may k ∧ ∀ c, soC S k b = some c → (wtC S k b).2 c = some (hoM M c) := by
  have e2 : M_em M = ho_E (C_to S) := h.2.2.1.2.1
  have el : leM M = leC S := funext (fun v => j_le h v)
  have := so_sb (le := leC S) (g := geC S) (t := taC S) (n := neC S) (x := sgC S k) (E := ho_E (C_to S)) (w := wtC S k b) (fun s hs2 => j_wt h k hb s hs2) hmay (got := goM M (sgM M k)) (fun s hs2 => by rw [(j_sg h hk).1]; exact j_got h hs2) (ho := hoM M) (fun s _ => j_ho h s) (2 ^ ho_E (C_to S)) (Nat.le_refl _)
  have e3 : sbM M may k = sb (leC S) may (goM M (sgM M k)) (hoM M) (2 ^ ho_E (C_to S)) := by
    show sb (leM M) may (goM M (sgM M k)) (hoM M) (2 ^ M_em M) = _
    rw [el, e2]
  rw [e3]
  exact this
theorem j_soonest {S : cS} {M : mS} (h : Inv S M) (x w : Int32) : J2 mX8_soonest mX9_soonest [.int x, .int w] S M := by
  obtain ⟨hL, hB, hum, n1, n2, t1, t2, hK5, hE6, hU4, hLd, hP, hpp, hun, ls, hsB⟩ := ev_facts h
  obtain ⟨lg, lh, lc⟩ := h.1.2.2.2.2.1
  have e1 : M_kn M = ho_K (C_to S) := h.2.2.1.1
  rcases pk_ix x (n := ho_K (C_to S)) (by omega) with q | q | ⟨k, hk, rfl⟩
  · exact J2_same h (fun T => cC_soonest_bad S T (Or.inl q)) (fun S0 => cM_soonest_bad S0 M (by omega) (Or.inl q))
  · exact J2_same h (fun T => cC_soonest_bad S T (Or.inr q)) (fun S0 => cM_soonest_bad S0 M (by omega) (Or.inr (by rw [e1]; exact q)))
  have hk2 : k < M_kn M := by omega
  have go : ∀ y, y < 2 → J2 mX8_soonest mX9_soonest [.int (nI k), .int (nI y)] S M := by
    intro y hy
    obtain ⟨a, b, i1, i2, i3⟩ := cC_soonest S (hpM M) hk hy t1 t2 lh lg n1 n2
    obtain ⟨s1, s2⟩ := j_so h hk (b := 0) (by decide) (may := fun _ => true) (fun s _ => ⟨fun _ => Nat.and_zero s, fun _ => rfl⟩)
    have ea : soR (wtC S k 0) (soC S k 0) y = soM (hoM M) (sb0 M k) y := by
      show _ = soM (hoM M) (sbM M (fun _ => true) k) y
      rw [← s1]
      cases hc : soC S k 0 with
      | none => rfl
      | some c =>
        show (if y = 0 then nI (((wtC S k 0).2 c).getD 0) else nI c) = (if y = 0 then nI (hoM M c) else nI c)
        rw [s2 c hc]
        rfl
    rw [ea] at i3
    exact ⟨.int _, wayS S a b, M, rfl, Inv_way h i1 i2, i3, cM_soonest (wayS S a b) M hy hL hB hk2⟩
  rcases bit_ix w with ⟨q1, q2⟩ | rfl | rfl
  · exact J2_same h (fun T => cC_soonest_bad2 S T hk hK5 q1 q2) (fun S0 => cM_soonest_bad2 S0 M (by omega) hk2 q1 q2)
  · exact go 0 (by decide)
  · exact go 1 (by decide)
theorem and_two : ∀ s, s < 64 → ∀ e, e < 6 → ((bt s e == 0) = true ↔ s &&& 2 ^ e = 0) := by decide +kernel
theorem j_bar {S : cS} {M : mS} (h : Inv S M) (x w : Int32) : J2 mX8_bar mX9_bar [.int x, .int w] S M := by
  obtain ⟨hL, hB, hum, n1, n2, t1, t2, hK5, hE6, hU4, hLd, hP, hpp, hun, ls, hsB⟩ := ev_facts h
  obtain ⟨lg, lh, lc⟩ := h.1.2.2.2.2.1
  have h64 := pow64' hE6
  have e1 : M_kn M = ho_K (C_to S) := h.2.2.1.1
  have e2 : M_em M = ho_E (C_to S) := h.2.2.1.2.1
  rcases pk_ix x (n := ho_K (C_to S)) (by omega) with q | q | ⟨k, hk, rfl⟩
  · exact J2_same h (fun T => cC_bar_bad S T (Or.inl q)) (fun S0 => cM_bar_bad S0 M (by omega) (Or.inl q))
  · exact J2_same h (fun T => cC_bar_bad S T (Or.inr q)) (fun S0 => cM_bar_bad S0 M (by omega) (Or.inr (by rw [e1]; exact q)))
  have hk2 : k < M_kn M := by omega
  rcases hr_ix w (n := 99) (by decide) with q | ⟨y, hy, rfl⟩
  · exact J2_same h (fun T => cC_bar_bad2 S T hk hK5 q) (fun S0 => cM_bar_bad2 S0 M (by omega) hk2 q)
  obtain ⟨a, b, i1, i2, i3⟩ := cC_bar S (hpM M) hk (show y < 100 by omega) t1 t2 lh lg n1 n2
  have is0 : ∀ (b0 : Nat) (may : Nat → Bool), b0 < 64 → (∀ s, s < 2 ^ ho_E (C_to S) → (may s = true ↔ s &&& b0 = 0)) → isC S k b0 y = isM (hoM M) (sbM M may k) y := by
    intro b0 may hb0 hmay
    obtain ⟨s1, s2⟩ := j_so h hk hb0 hmay
    rw [← s1]
    show isS (wtC S k b0) (soC S k b0) y = isM (hoM M) (soC S k b0) y
    cases hc : soC S k b0 with
    | none => rfl
    | some c =>
      show decide (((wtC S k b0).2 c).getD 0 ≤ y) = decide (hoM M c ≤ y)
      rw [s2 c hc]
      rfl
  have ea : baR (isC S k 0 y) (fun e => isC S k (2 ^ e) y) (ho_E (C_to S)) = baR (isM (hoM M) (sb0 M k) y) (fun e => isM (hoM M) (sbE M e k) y) (M_em M) := by
    unfold baR
    rw [e2, is0 0 (fun _ => true) (by decide) (fun s _ => ⟨fun _ => Nat.and_zero s, fun _ => rfl⟩)]
    rw [ff_congr (f := fun e => isC S k (2 ^ e) y) (g := fun e => isM (hoM M) (sbE M e k) y) (ho_E (C_to S)) 0 (fun e _ he => ?_)]
    have he6 : e < 6 := by omega
    have hp2 : 2 ^ e < 64 := Nat.pow_lt_pow_right (a := 2) (by decide) (show e < 6 from he6)
    exact is0 (2 ^ e) (fun s => bt s e == 0) hp2 (fun s hs2 => and_two s (by omega) e he6)
  rw [ea] at i3
  exact ⟨.int _, wayS S a b, M, rfl, Inv_way h i1 i2, i3, cM_bar (wayS S a b) M (show y < 100 by omega) hL hB hk2⟩

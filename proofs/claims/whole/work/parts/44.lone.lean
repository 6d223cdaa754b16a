/-! the class's gatherCrowd, loneRule, ask, safe -/
/-- the scratch rows: ways and crowd -/
def scS (S : cS) (a b : List Int32) (w : Nat) (g : List Int32) (m : Nat) : cS := Cs_cm (Cs_cg (Cs_wm (Cs_wh (Cs_wg S a) b) w) g) m
/-- sets from j - 1 down to 0 into the crowd -/
def gaS (w : Wt) (h : Nat) : Nat → (Nat → Nat) × Nat → (Nat → Nat) × Nat
  | 0, c => c
  | j + 1, c => gaS w h j (match w.2 j with
    | none => c
    | some x => if x ≤ h then addF c (w.1 j) else c)
/-- the KNOCKERS below k into the crowd -/
def gaK (r : Nat → Nat) (wt : Nat → Wt) (W h : Nat) : Nat → (Nat → Nat) × Nat
  | 0 => (fun _ => 0, 0)
  | k + 1 => if r k = 1 then gaK r wt W h k else gaS (wt k) h W (gaK r wt W h k)
theorem nI_m1 (x : Int32) : x + kM1 = x - nI 1 := by
  rw [Int32.sub_eq_add_neg]
  rfl
section
variable (T : aH)
theorem c_gaS_loop {w : Wt} {W h k : Nat} (hh : h < 100) (hW64 : W ≤ 64) : ∀ (j : Nat) (S : cS) (c : (Nat → Nat) × Nat), WR S w W → j ≤ W → (C_wh S).length = 64 → (C_wg S).length = 64 → CI (C_cg S) c → C_cm S = c.2 → ∃ g, CI g (gaS w h j c) ∧ ∀ v h', Ev [] mX8_gatherCrowd (120, [some (.ref 0), some (.int (nI h)), some (.int (nI k)), some (.int (nI 0 - nI 1))], [], hpC (crS S g (gaS w h j c).2) ++ T) v h' → Ev [] mX8_gatherCrowd (66, [some (.ref 0), some (.int (nI h)), some (.int (nI k)), some (.int (nI j - nI 1))], [], hpC S ++ T) v h'
  | 0, S, c, hW, hj, lh, lg, hC, hm => by
    refine ⟨C_cg S, hC, fun v h' kk => ?_⟩
    have e : crS S (C_cg S) (gaS w h 0 c).2 = S := by
      show crS S (C_cg S) c.2 = S
      rw [← hm]
      rfl
    rw [e] at kk
    exact Ev_br rfl (fun _ => kk) (fun hc => absurd (show nI 0 - nI 1 < 0 by decide) hc)
  | j + 1, S, c, hW, hj, lh, lg, hC, hm => by
    have hwj := hW j (by omega)
    have e0 : nI (j + 1) - nI 1 = nI j := pk_sub (a := j + 1) (b := 1) (by omega)
    rw [e0]
    have go : ∀ (S2 : cS) v h', Ev [] mX8_gatherCrowd (66, [some (.ref 0), some (.int (nI h)), some (.int (nI k)), some (.int (nI j - nI 1))], [], hpC S2 ++ T) v h' → Ev [] mX8_gatherCrowd (114, [some (.ref 0), some (.int (nI h)), some (.int (nI k)), some (.int (nI j))], [], hpC S2 ++ T) v h' := by
      intro S2 v h' kk
      refine Ev_jpe rfl ?_ kk
      rw [← nI_m1]
    cases hx : w.2 j with
    | none =>
      have eg : gaS w h (j + 1) c = gaS w h j c := by
        show gaS w h j (match w.2 j with | none => c | some x => if x ≤ h then addF c (w.1 j) else c) = _
        rw [hx]
      obtain ⟨g, g1, g2⟩ := c_gaS_loop (k := k) hh hW64 j S c hW (by omega) lh lg hC hm
      rw [eg]
      refine ⟨g, g1, fun v h' kk => ?_⟩
      refine Ev_br rfl (fun hc => absurd hc (nI_pos (by omega))) (fun _ => ?_)
      refine Ev_ca rfl (c_Wopen S T lh hW (by omega) hW64) ?_
      rw [hx]
      exact Ev_br rfl (fun _ => go S v h' (g2 v h' kk)) (fun hc => absurd nI_0 hc)
    | some x =>
      obtain ⟨q1, q2, q3⟩ := hwj.2 x hx
      have eg : gaS w h (j + 1) c = gaS w h j (if x ≤ h then addF c (w.1 j) else c) := by
        show gaS w h j (match w.2 j with | none => c | some x => if x ≤ h then addF c (w.1 j) else c) = _
        rw [hx]
      have st : ∀ v h', Ev [] mX8_gatherCrowd (92, [some (.ref 0), some (.int (nI h)), some (.int (nI k)), some (.int (nI j))], [.int (nI x)], hpC S ++ T) v h' → Ev [] mX8_gatherCrowd (66, [some (.ref 0), some (.int (nI h)), some (.int (nI k)), some (.int (nI j))], [], hpC S ++ T) v h' := by
        intro v h' kk
        refine Ev_br rfl (fun hc => absurd hc (nI_pos (by omega))) (fun _ => ?_)
        refine Ev_ca rfl (c_Wopen S T lh hW (by omega) hW64) ?_
        rw [hx]
        refine Ev_br rfl (fun hc => absurd hc b1z) (fun _ => ?_)
        refine Ev_ca rfl (c_atI _ 99 (C_wh S) j rfl (by omega) (by omega)) ?_
        rw [show (C_wh S).getD j 0 = hv (w.2 j) from hwj.1, hx]
        exact kk
      by_cases hxh : x ≤ h
      · rw [eg, if_pos hxh]
        obtain ⟨g, g1, g2⟩ := c_Cadd S T q2 hC hm
        obtain ⟨g3, g4, g5⟩ := c_gaS_loop (k := k) hh hW64 j (crS S g (addF c (w.1 j)).2) (addF c (w.1 j)) hW (by omega) lh lg g1 rfl
        refine ⟨g3, g4, fun v h' kk => st v h' ?_⟩
        refine Ev_br rfl (fun hc => absurd hc (nI_nlt hxh (by omega))) (fun _ => ?_)
        refine Ev_ca rfl (c_atI _ 98 (C_wg S) j rfl (by omega) (by omega)) ?_
        rw [show (C_wg S).getD j 0 = nI (w.1 j) from q3]
        refine Ev_ca rfl g2 ?_
        exact go (crS S g (addF c (w.1 j)).2) v h' (g5 v h' kk)
      · rw [eg, if_neg hxh]
        obtain ⟨g, g1, g2⟩ := c_gaS_loop (k := k) hh hW64 j S c hW (by omega) lh lg hC hm
        refine ⟨g, g1, fun v h' kk => st v h' ?_⟩
        exact Ev_br rfl (fun _ => go S v h' (g2 v h' kk)) (fun hc => absurd (nI_lt (show h < x by omega) (by omega)) hc)
variable (S : cS)
abbrev gaC (h k : Nat) : (Nat → Nat) × Nat := gaK (riC S) (fun k => wtC S k 0) (2 ^ ho_E (C_to S)) h k
theorem c_gaK_loop {h : Nat} (hh : h < 100) (hL : HoL (C_to S)) (hB : HoB (C_to S)) (hL2 : MoL (C_nw S)) (hB2 : MoB (C_nw S)) : ∀ (d k : Nat) (a b : List Int32) (w : Nat) (g : List Int32) (z : Option Value), a.length = 64 → b.length = 64 → CI g (gaC S h k) → k + d = ho_K (C_to S) → ∃ (a' b' : List Int32) (w' : Nat) (g' : List Int32), a'.length = 64 ∧ b'.length = 64 ∧ CI g' (gaC S h (ho_K (C_to S))) ∧ Ev [] mX8_gatherCrowd (10, [some (.ref 0), some (.int (nI h)), some (.int (nI k)), z], [], hpC (scS S a b w g (gaC S h k).2) ++ T) none (hpC (scS S a' b' w' g' (gaC S h (ho_K (C_to S))).2) ++ T)
  | 0, k, a, b, w, g, z, la, lb, hC, e => by
    have hK := hB.2.2.2.2.2.2.1
    have e9 : k = ho_K (C_to S) := by omega
    subst e9
    exact ⟨a, b, w, g, la, lb, hC, Ev_br rfl (fun _ => Ev_rt rfl rfl rfl rfl) (fun hc => absurd (nI_le (Nat.le_refl _) (show ho_K (C_to S) < 2 ^ 31 by omega)) hc)⟩
  | d + 1, k, a, b, w, g, z, la, lb, hC, e => by
    have hK := hB.2.2.2.2.2.2.1
    have hr : riC S k < 2 := hB.2.1 k
    have hl := hL.2.1
    have h64 := E64 hB
    have eg : gaC S h (k + 1) = if riC S k = 1 then gaC S h k else gaS (wtC S k 0) h (2 ^ ho_E (C_to S)) (gaC S h k) := rfl
    have st : ∀ v h', Ev [] mX8_gatherCrowd (32, [some (.ref 0), some (.int (nI h)), some (.int (nI k)), z], [.int (nI (riC S k))], hpC (scS S a b w g (gaC S h k).2) ++ T) v h' → Ev [] mX8_gatherCrowd (10, [some (.ref 0), some (.int (nI h)), some (.int (nI k)), z], [], hpC (scS S a b w g (gaC S h k).2) ++ T) v h' := by
      intro v h' kk
      refine Ev_br rfl (fun hc => absurd hc (nI_ge (show k < ho_K (C_to S) by omega) (show ho_K (C_to S) < 2 ^ 31 by omega))) (fun _ => ?_)
      exact Ev_ca rfl (c_at _ 9 (ho_R (C_to S)) k rfl (by omega) (by omega)) kk
    by_cases h1 : riC S k = 1
    · rw [if_pos h1] at eg
      obtain ⟨a', b', w', g', i1, i2, i3, i4⟩ := c_gaK_loop hh hL hB hL2 hB2 d (k + 1) a b w g z la lb (by rw [eg]; exact hC) (by omega)
      rw [eg] at i4
      refine ⟨a', b', w', g', i1, i2, i3, st _ _ ?_⟩
      rw [h1]
      refine Ev_br rfl (fun hc => absurd rfl hc) (fun _ => ?_)
      refine Ev_jp rfl ?_
      refine Ev_jpe rfl ?_ i4
      rw [nI_add]
    · rw [if_neg h1] at eg
      obtain ⟨a1, b1, l1, l2, l3, l4⟩ := c_explore (scS S a b w g (gaC S h k).2) T (start := sgC S k) (barred := 0) (by decide) (hB2.1 k) hL hB lb la
      have l3 : WR (wayS (scS S a b w g (gaC S h k).2) a1 b1) (wtC S k 0) (2 ^ ho_E (C_to S)) := l3
      obtain ⟨g3, g4, g5⟩ := c_gaS_loop T (k := k) hh h64 (2 ^ ho_E (C_to S)) (wayS (scS S a b w g (gaC S h k).2) a1 b1) (gaC S h k) l3 (Nat.le_refl _) l2 l1 hC rfl
      rw [← eg] at g4 g5
      obtain ⟨a', b', w', g', i1, i2, i3, i4⟩ := c_gaK_loop hh hL hB hL2 hB2 d (k + 1) a1 b1 (2 ^ ho_E (C_to S)) g3 (some (.int (nI 0 - nI 1))) l1 l2 g4 (by omega)
      refine ⟨a', b', w', g', i1, i2, i3, st _ _ ?_⟩
      refine Ev_br rfl (fun _ => ?_) (fun hc => ?_)
      · refine Ev_ca rfl (c_signsOf (scS S a b w g (gaC S h k).2) T hL2 (by omega)) ?_
        refine Ev_ca rfl l4 ?_
        refine a_run_ev 6 rfl (g5 _ _ ?_)
        refine Ev_jpe rfl ?_ i4
        rw [nI_add]
        rfl
      · have hc : ¬ ¬ nI (riC S k) = nI 1 := hc
        rw [nI_eq (by omega) (by decide), Decidable.not_not] at hc
        exact absurd hc h1
theorem c_gather {h : Nat} (hh : h < 100) (hL : HoL (C_to S)) (hB : HoB (C_to S)) (hL2 : MoL (C_nw S)) (hB2 : MoB (C_nw S)) (lg : (C_wg S).length = 64) (lh : (C_wh S).length = 64) (lc : (C_cg S).length = 256) : ∃ (a' b' : List Int32) (w' : Nat) (g' : List Int32), a'.length = 64 ∧ b'.length = 64 ∧ CI g' (gaC S h (ho_K (C_to S))) ∧ Cl mX8_gatherCrowd [.ref 0, .int (nI h)] (hpC S ++ T) none (hpC (scS S a' b' w' g' (gaC S h (ho_K (C_to S))).2) ++ T) := by
  obtain ⟨a', b', w', g', i1, i2, i3, i4⟩ := c_gaK_loop T S hh hL hB hL2 hB2 (ho_K (C_to S)) 0 (C_wg S) (C_wh S) (C_wm S) (C_cg S) none lg lh ⟨lc, fun i hi => absurd hi (Nat.not_lt_zero _), fun i j hi => absurd hi (Nat.not_lt_zero _)⟩ (by omega)
  exact ⟨a', b', w', g', i1, i2, i3, a_run_ev 6 rfl i4⟩
/-- the best RULE of the sets up to n: set and number (0: none) -/
def lo (le : Nat → Nat) : Nat → Nat × Nat
  | 0 => (0, 0)
  | n + 1 => if ((lo le n).1 = 0 ∨ pop (n + 1) < pop (lo le n).1) ∧ 0 < le (n + 1) then (n + 1, le (n + 1)) else lo le n
theorem lo_le {le : Nat → Nat} (hl : ∀ x, le x ≤ 9) : ∀ n, (lo le n).1 ≤ n ∧ (lo le n).2 ≤ 9
  | 0 => ⟨Nat.le_refl _, Nat.zero_le _⟩
  | n + 1 => by
    obtain ⟨i1, i2⟩ := lo_le hl n
    show (if _ then (n + 1, le (n + 1)) else lo le n).1 ≤ n + 1 ∧ (if _ then (n + 1, le (n + 1)) else lo le n).2 ≤ 9
    split
    · exact ⟨Nat.le_refl _, hl _⟩
    · exact ⟨by omega, i2⟩
def lrT (x : Nat × Nat) (what : Nat) : Int32 := if x.1 = 0 then kM9 else if what = 0 then nI x.1 else nI x.2
theorem leN_le {r sg : Nat → Nat} {K M set : Nat} (h : M ≤ 8) : leN r sg K M set ≤ 9 := by
  unfold leN
  split
  · omega
  · split
    · omega
    · omega
abbrev lnC (c : (Nat → Nat) × Nat) (set : Nat) : Nat := leN (riC S) (sgC S) (ho_K (C_to S)) (moR c set) set
theorem c_lone_loop {h what : Nat} (hw : what < 2) {c : (Nat → Nat) × Nat} (hC : CI (C_cg S) c) (hm : C_cm S = c.2) (hL : HoL (C_to S)) (hB : HoB (C_to S)) (hL2 : MoL (C_nw S)) (hB2 : MoB (C_nw S)) : ∀ (d n : Nat) (z1 z2 : Option Value), n + d = 255 → Ev [] mX8_loneRule (13, [some (.ref 0), some (.int (nI h)), some (.int (nI what)), some (.int (nI (lo (lnC S c) n).1)), some (.int (nI (lo (lnC S c) n).2)), some (.int (nI (n + 1))), z1, z2], [], hpC S ++ T) (some (.int (lrT (lo (lnC S c) 255) what))) (hpC S ++ T)
  | 0, n, z1, z2, e => by
    have e9 : n = 255 := by omega
    subst e9
    have hb := lo_le (le := lnC S c) (fun x => leN_le (mx_pop _ _ (fun i => pop_le _))) 255
    refine Ev_br rfl (fun _ => ?_) (fun hc => absurd (nI_lt (show 255 < 256 by decide) (by decide)) hc)
    unfold lrT
    by_cases h0 : (lo (lnC S c) 255).1 = 0
    · rw [if_pos h0, h0]
      exact Ev_br rfl (fun hc => absurd nI_0 hc) (fun _ => Ev_rt rfl rfl rfl rfl)
    · rw [if_neg h0]
      refine Ev_br rfl (fun _ => ?_) (fun hc => absurd (nI_ne0 (by omega) (by omega)) hc)
      match what, hw with
      | 0, _ => exact Ev_br rfl (fun hc => absurd nI_0 hc) (fun _ => Ev_jp rfl (Ev_rt rfl rfl rfl rfl))
      | 1, _ => exact Ev_br rfl (fun _ => Ev_rt rfl rfl rfl rfl) (fun hc => absurd b1z hc)
  | d + 1, n, z1, z2, e => by
    have hb := lo_le (le := lnC S c) (fun x => leN_le (mx_pop _ _ (fun i => pop_le _))) n
    have hln : lnC S c (n + 1) ≤ 9 := leN_le (mx_pop _ _ (fun i => pop_le _))
    have el : lo (lnC S c) (n + 1) = if ((lo (lnC S c) n).1 = 0 ∨ pop (n + 1) < pop (lo (lnC S c) n).1) ∧ 0 < lnC S c (n + 1) then (n + 1, lnC S c (n + 1)) else lo (lnC S c) n := rfl
    refine Ev_br rfl (fun hc => absurd hc (nI_nlt (show n + 1 ≤ 255 by omega) (by decide))) (fun _ => ?_)
    have go : ∀ z1 z2, lo (lnC S c) (n + 1) = lo (lnC S c) n → Ev [] mX8_loneRule (73, [some (.ref 0), some (.int (nI h)), some (.int (nI what)), some (.int (nI (lo (lnC S c) n).1)), some (.int (nI (lo (lnC S c) n).2)), some (.int (nI (n + 1))), z1, z2], [], hpC S ++ T) (some (.int (lrT (lo (lnC S c) 255) what))) (hpC S ++ T) := by
      intro z1 z2 hq
      refine Ev_jpe rfl ?_ (c_lone_loop (h := h) hw hC hm hL hB hL2 hB2 d (n + 1) z1 z2 (by omega))
      rw [nI_add, hq]
    have yes : ((lo (lnC S c) n).1 = 0 ∨ pop (n + 1) < pop (lo (lnC S c) n).1) → Ev [] mX8_loneRule (42, [some (.ref 0), some (.int (nI h)), some (.int (nI what)), some (.int (nI (lo (lnC S c) n).1)), some (.int (nI (lo (lnC S c) n).2)), some (.int (nI (n + 1))), z1, z2], [.int (nI 1)], hpC S ++ T) (some (.int (lrT (lo (lnC S c) 255) what))) (hpC S ++ T) := by
      intro hs
      refine Ev_br rfl (fun hc => absurd hc b1z) (fun _ => ?_)
      refine Ev_ca rfl (c_least S T (show n + 1 < 256 by omega) hC hm hL hB hL2 hB2) ?_
      refine Ev_jp rfl ?_
      refine Ev_br rfl (fun hc => ?_) (fun hc => ?_)
      · have hc : nI (lnC S c (n + 1)) ≤ 0 := hc
        refine go _ _ ?_
        by_cases h9 : 0 < lnC S c (n + 1)
        · exact absurd hc (nI_nle h9 (by omega))
        · rw [el, if_neg (fun q => h9 q.2)]
      · have hc : ¬ nI (lnC S c (n + 1)) ≤ 0 := hc
        have h9 : 0 < lnC S c (n + 1) := by
          by_cases h9 : 0 < lnC S c (n + 1)
          · exact h9
          · rw [show lnC S c (n + 1) = 0 by omega] at hc
            exact absurd (show nI 0 ≤ 0 by decide) hc
        rw [if_pos ⟨hs, h9⟩] at el
        refine Ev_jpe rfl ?_ (c_lone_loop (h := h) hw hC hm hL hB hL2 hB2 d (n + 1) (some (.int (nI 1))) (some (.int (nI (lnC S c (n + 1))))) (by omega))
        rw [nI_add, el]
        rfl
    have no : ¬ ((lo (lnC S c) n).1 = 0 ∨ pop (n + 1) < pop (lo (lnC S c) n).1) → Ev [] mX8_loneRule (41, [some (.ref 0), some (.int (nI h)), some (.int (nI what)), some (.int (nI (lo (lnC S c) n).1)), some (.int (nI (lo (lnC S c) n).2)), some (.int (nI (n + 1))), z1, z2], [], hpC S ++ T) (some (.int (lrT (lo (lnC S c) 255) what))) (hpC S ++ T) := by
      intro hs
      refine Ev_br rfl (fun _ => ?_) (fun hc => absurd nI_0 hc)
      refine Ev_br rfl (fun _ => ?_) (fun hc => absurd (show nI 0 ≤ 0 by decide) hc)
      exact go _ _ (by rw [el, if_neg (fun q => hs q.1)])
    refine Ev_br rfl (fun hc => ?_) (fun hc => ?_)
    · have hc : nI (lo (lnC S c) n).1 = 0 := hc
      rw [← nI_0, nI_eq (by omega) (by decide)] at hc
      exact Ev_jp rfl (yes (Or.inl hc))
    · have hc : ¬ nI (lo (lnC S c) n).1 = 0 := hc
      rw [← nI_0, nI_eq (by omega) (by decide)] at hc
      have p1 := pop_le (n + 1)
      have p2 := pop_le (lo (lnC S c) n).1
      refine Ev_ca rfl (c_bitCount _ (show n + 1 < 256 by omega)) ?_
      refine Ev_ca rfl (c_bitCount _ (show (lo (lnC S c) n).1 < 256 by omega)) ?_
      refine Ev_br rfl (fun hc2 => ?_) (fun hc2 => ?_)
      · have hc2 : nI (pop (lo (lnC S c) n).1) ≤ nI (pop (n + 1)) := hc2
        rw [nI_leI (by omega) (by omega)] at hc2
        exact no (fun q => q.elim hc (fun q => by omega))
      · have hc2 : ¬ nI (pop (lo (lnC S c) n).1) ≤ nI (pop (n + 1)) := hc2
        rw [nI_leI (by omega) (by omega)] at hc2
        exact Ev_jp rfl (yes (Or.inr (by omega)))
/-- the lone RULE's set and number -/
abbrev loC (h : Nat) : Nat × Nat := lo (lnC S (gaC S h (ho_K (C_to S)))) 255
theorem c_lone {h what : Nat} (hh : h < 100) (hw : what < 2) (hL : HoL (C_to S)) (hB : HoB (C_to S)) (hL2 : MoL (C_nw S)) (hB2 : MoB (C_nw S)) (lg : (C_wg S).length = 64) (lh : (C_wh S).length = 64) (lc : (C_cg S).length = 256) : ∃ (a' b' : List Int32) (w' : Nat) (g' : List Int32) (m' : Nat), a'.length = 64 ∧ b'.length = 64 ∧ g'.length = 256 ∧ Cl mX8_loneRule [.ref 0, .int (nI h), .int (nI what)] (hpC S ++ T) (some (.int (lrT (loC S h) what))) (hpC (scS S a' b' w' g' m') ++ T) := by
  obtain ⟨a', b', w', g', i1, i2, i3, i4⟩ := c_gather T S hh hL hB hL2 hB2 lg lh lc
  refine ⟨a', b', w', g', (gaC S h (ho_K (C_to S))).2, i1, i2, i3.1, Ev_ca rfl i4 ?_⟩
  exact a_run_ev 6 rfl (c_lone_loop T (scS S a' b' w' g' (gaC S h (ho_K (C_to S))).2) (h := h) hw i3 rfl hL hB hL2 hB2 255 0 none none (by omega))
theorem cC_ask_bad {x : Int32} (h0 : ¬ x = nI 0) (h1 : ¬ x = nI 1) : Cl mX8_ask [.ref 0, .int x] (hpC S ++ T) (some (.int kM1)) (hpC S ++ T) := by
  refine Ev_ca rfl (c_isBit_f _ h0 h1) ?_
  exact Ev_br rfl (fun hc => absurd nI_0 hc) (fun _ => Ev_rt rfl rfl rfl rfl)
theorem cC_ask {what : Nat} (hw : what < 2) (hL : HoL (C_to S)) (hB : HoB (C_to S)) (hL2 : MoL (C_nw S)) (hB2 : MoB (C_nw S)) (lg : (C_wg S).length = 64) (lh : (C_wh S).length = 64) (lc : (C_cg S).length = 256) : ∃ (a' b' : List Int32) (w' : Nat) (g' : List Int32) (m' : Nat), a'.length = 64 ∧ b'.length = 64 ∧ g'.length = 256 ∧ Cl mX8_ask [.ref 0, .int (nI what)] (hpC S ++ T) (some (.int (lrT (loC S 0) what))) (hpC (scS S a' b' w' g' m') ++ T) := by
  obtain ⟨a', b', w', g', m', i1, i2, i3, i4⟩ := c_lone T S (h := 0) (by decide) hw hL hB hL2 hB2 lg lh lc
  refine ⟨a', b', w', g', m', i1, i2, i3, ?_⟩
  refine Ev_ca rfl (c_isBit_t _ hw) ?_
  refine Ev_br rfl (fun _ => ?_) (fun hc => absurd b1z hc)
  exact Ev_ca rfl i4 (Ev_rt rfl rfl rfl rfl)
theorem cC_safe_bad {x w : Int32} (hx : x < 0 ∨ nI 99 < x) : Cl mX8_safe [.ref 0, .int x, .int w] (hpC S ++ T) (some (.int kM1)) (hpC S ++ T) := by
  refine Ev_ca rfl (c_isHours_f _ hx) ?_
  exact Ev_br rfl (fun _ => Ev_rt rfl rfl rfl rfl) (fun hc => absurd nI_0 hc)
theorem cC_safe_bad2 {h : Nat} {w : Int32} (hh : h < 100) (h0 : ¬ w = nI 0) (h1 : ¬ w = nI 1) : Cl mX8_safe [.ref 0, .int (nI h), .int w] (hpC S ++ T) (some (.int kM1)) (hpC S ++ T) := by
  refine Ev_ca rfl (c_isHours_t _ hh) ?_
  refine Ev_br rfl (fun hc => absurd hc b1z) (fun _ => ?_)
  refine Ev_ca rfl (c_isBit_f _ h0 h1) ?_
  exact Ev_br rfl (fun hc => absurd nI_0 hc) (fun _ => Ev_rt rfl rfl rfl rfl)
theorem cC_safe {h what : Nat} (hh : h < 100) (hw : what < 2) (hL : HoL (C_to S)) (hB : HoB (C_to S)) (hL2 : MoL (C_nw S)) (hB2 : MoB (C_nw S)) (lg : (C_wg S).length = 64) (lh : (C_wh S).length = 64) (lc : (C_cg S).length = 256) : ∃ (a' b' : List Int32) (w' : Nat) (g' : List Int32) (m' : Nat), a'.length = 64 ∧ b'.length = 64 ∧ g'.length = 256 ∧ Cl mX8_safe [.ref 0, .int (nI h), .int (nI what)] (hpC S ++ T) (some (.int (lrT (loC S h) what))) (hpC (scS S a' b' w' g' m') ++ T) := by
  obtain ⟨a', b', w', g', m', i1, i2, i3, i4⟩ := c_lone T S hh hw hL hB hL2 hB2 lg lh lc
  refine ⟨a', b', w', g', m', i1, i2, i3, ?_⟩
  refine Ev_ca rfl (c_isHours_t _ hh) ?_
  refine Ev_br rfl (fun hc => absurd hc b1z) (fun _ => ?_)
  refine Ev_ca rfl (c_isBit_t _ hw) ?_
  refine Ev_br rfl (fun _ => ?_) (fun hc => absurd b1z hc)
  exact Ev_ca rfl i4 (Ev_rt rfl rfl rfl rfl)
end

/-! the class's explore, soonestSet, soonest, bar -/
section
variable (S : cS) (T : aH)
theorem wgh_abs (j k : Nat) (x y : Int32) (a b : List Int32) : Cs_wh (Cs_wg (whS (wgS S j x) k y) a) b = Cs_wh (Cs_wg S a) b := rfl
theorem wgh_abs2 (k : Nat) (y : Int32) (a b : List Int32) : Cs_wh (Cs_wg (whS S k y) a) b = Cs_wh (Cs_wg S a) b := rfl
theorem WR_none {w : Wt} {m : Nat} (hW : WR S w m) (lh : (C_wh S).length = 64) (hm : m < 64) : WR (whS S m kM1) (w.1, fun j => if j = m then none else w.2 j) (m + 1) := by
  intro j hj
  have e1 : gI (C_wh (whS S m kM1)) j = if m = j ∧ m < 64 then kM1 else gI (C_wh S) j := by
    rw [← lh]
    exact gI_set (C_wh S) m j kM1
  rw [e1]
  by_cases e : j = m
  · subst e
    rw [if_pos ⟨rfl, hm⟩]
    show kM1 = hv (if j = j then none else w.2 j) ∧ ∀ h, (if j = j then none else w.2 j) = some h → _
    rw [if_pos rfl]
    exact ⟨rfl, fun h q => by cases q⟩
  · rw [if_neg (fun q => e q.1.symm)]
    show gI (C_wh S) j = hv (if j = m then none else w.2 j) ∧ ∀ h, (if j = m then none else w.2 j) = some h → _
    rw [if_neg e]
    exact hW j (by omega)
theorem WR_some {w : Wt} {m h0 x : Nat} (hW : WR S w m) (lh : (C_wh S).length = 64) (lg : (C_wg S).length = 64) (hm : m < 64) (hh : h0 < 100000) (hx : x < 256) {f : Nat → Option Nat} {u : Nat → Nat} (f1 : f m = some h0) (f2 : ∀ j, j ≠ m → f j = w.2 j) (u1 : u m = x) (u2 : ∀ j, j ≠ m → u j = w.1 j) : WR (whS (wgS S m (nI x)) m (nI h0)) (u, f) (m + 1) := by
  intro j hj
  have e1 : gI (C_wh (whS (wgS S m (nI x)) m (nI h0))) j = if m = j ∧ m < 64 then nI h0 else gI (C_wh S) j := by
    rw [← lh]
    exact gI_set (C_wh S) m j (nI h0)
  have e2 : gI (C_wg (whS (wgS S m (nI x)) m (nI h0))) j = if m = j ∧ m < 64 then nI x else gI (C_wg S) j := by
    rw [← lg]
    exact gI_set (C_wg S) m j (nI x)
  rw [e1, e2]
  by_cases e : j = m
  · subst e
    rw [if_pos ⟨rfl, hm⟩, if_pos ⟨rfl, hm⟩]
    show nI h0 = hv (f j) ∧ ∀ h, f j = some h → h < 100000 ∧ u j < 256 ∧ nI x = nI (u j)
    rw [f1, u1]
    exact ⟨rfl, fun h q => by cases q; exact ⟨hh, hx, rfl⟩⟩
  · rw [if_neg (fun q => e q.1.symm), if_neg (fun q => e q.1.symm)]
    show gI (C_wh S) j = hv (f j) ∧ ∀ h, f j = some h → h < 100000 ∧ u j < 256 ∧ gI (C_wg S) j = nI (u j)
    rw [f2 j e, u2 j e]
    exact hW j (by omega)
end
abbrev taC' (S : cS) (start barred m : Nat) : Wt := taW (geC S) (taC S) (neC S) (ho_E (C_to S)) start barred m
section
variable (T : aH)
theorem c_expl_loop {start barred : Nat} (hb : barred < 64) : ∀ (d set : Nat) (S : cS) (z : Option Value), HoL (C_to S) → HoB (C_to S) → C_wm S = 2 ^ ho_E (C_to S) → (C_wh S).length = 64 → (C_wg S).length = 64 → 1 ≤ set → set + d = C_wm S → WR S (taC' S start barred set) set → (∀ j h, (taC' S start barred set).2 j = some h → h ≤ 10 * set) → ∃ a b : List Int32, a.length = 64 ∧ b.length = 64 ∧ WR (Cs_wh (Cs_wg S a) b) (taC' S start barred (C_wm S)) (C_wm S) ∧ Ev [] mX7_explore (31, [some (.ref 97), some (.ref 3), some (.int (nI start)), some (.int (nI barred)), some (.int (nI set)), z], [], hpC S ++ T) none (hpC (Cs_wh (Cs_wg S a) b) ++ T)
  | 0, set, S, z, hL, hB, hwm, lh, lg, h1, hd, hW, hH => by
    have hE := hB.2.2.2.2.2.2.2.1
    have h64 : 2 ^ ho_E (C_to S) ≤ 2 ^ 6 := Nat.pow_le_pow_right (by decide) hE
    have e9 : set = C_wm S := by omega
    rw [e9] at hW ⊢
    exact ⟨C_wg S, C_wh S, lg, lh, hW, Ev_br rfl (fun _ => Ev_rt rfl rfl rfl rfl) (fun hc => absurd (nI_le (Nat.le_refl _) (by omega)) hc)⟩
  | d + 1, set, S, z, hL, hB, hwm, lh, lg, h1, hd, hW, hH => by
    have hE := hB.2.2.2.2.2.2.2.1
    have h64 : 2 ^ ho_E (C_to S) ≤ 2 ^ 6 := Nat.pow_le_pow_right (by decide) hE
    have hs : set < 64 := by omega
    obtain ⟨m, rfl⟩ : ∃ m, set = m + 1 := ⟨set - 1, by omega⟩
    have hta : taC' S start barred (m + 2) = stW (geC S) (taC S) (neC S) (ho_E (C_to S)) barred (m + 1) (taC' S start barred (m + 1)) := rfl
    generalize hw : taC' S start barred (m + 1) = w at hW hH hta
    have hand : m + 1 &&& barred ≤ m + 1 := Nat.and_le_left
    -- behind the set: the rest
    have rest : ∀ (S2 : cS) (z2 : Option Value) , C_to S2 = C_to S → C_wm S2 = C_wm S → (C_wh S2).length = 64 → (C_wg S2).length = 64 → (∀ a b, Cs_wh (Cs_wg S2 a) b = Cs_wh (Cs_wg S a) b) → WR S2 (taC' S start barred (m + 2)) (m + 2) → (∀ j h, (taC' S start barred (m + 2)).2 j = some h → h ≤ 10 * (m + 2)) →
        ∃ a b : List Int32, a.length = 64 ∧ b.length = 64 ∧ WR (Cs_wh (Cs_wg S a) b) (taC' S start barred (C_wm S)) (C_wm S) ∧ Ev [] mX7_explore (87, [some (.ref 97), some (.ref 3), some (.int (nI start)), some (.int (nI barred)), some (.int (nI (m + 1))), z2], [], hpC S2 ++ T) none (hpC (Cs_wh (Cs_wg S a) b) ++ T) := by
      intro S2 z2 g1 g2 g3 g4 g5 g6 g7
      have hta2 : ∀ k, taC' S2 start barred k = taC' S start barred k := fun k => by
        show taW (gd (ho_G (C_to S2))) (gd (ho_T (C_to S2))) (gd (ho_N (C_to S2))) (ho_E (C_to S2)) start barred k = _
        rw [g1]
      obtain ⟨a, b, i1, i2, i3, i4⟩ := c_expl_loop hb d (m + 2) S2 z2 (by rw [g1]; exact hL) (by rw [g1]; exact hB) (by rw [g1, g2]; exact hwm) g3 g4 (by omega) (by omega) (by rw [hta2]; exact g6) (by rw [hta2]; exact g7)
      rw [hta2, g2, g5] at i3
      rw [g5] at i4
      refine ⟨a, b, i1, i2, i3, ?_⟩
      refine Ev_jpe rfl ?_ i4
      rw [nI_add]
    -- the set cannot be
    have hno : (if m + 1 &&& barred = 0 then lastE (geC S) (neC S) w (m + 1) (ho_E (C_to S)) 0 else none) = none → ∀ (z2 : Option Value), ∃ a b : List Int32, a.length = 64 ∧ b.length = 64 ∧ WR (Cs_wh (Cs_wg S a) b) (taC' S start barred (C_wm S)) (C_wm S) ∧ Ev [] mX7_explore (65, [some (.ref 97), some (.ref 3), some (.int (nI start)), some (.int (nI barred)), some (.int (nI (m + 1))), z2], [], hpC S ++ T) none (hpC (Cs_wh (Cs_wg S a) b) ++ T) := by
      intro hn z2
      have e1 : taC' S start barred (m + 2) = (w.1, fun j => if j = m + 1 then none else w.2 j) := by
        rw [hta]
        unfold stW
        rw [hn]
      obtain ⟨a, b, i1, i2, i3, i4⟩ := rest (whS S (m + 1) kM1) z2 rfl rfl (by show ((C_wh S).set _ _).length = 64; rw [List.length_set]; exact lh) lg (fun a b => wgh_abs2 S (m + 1) kM1 a b) (by rw [e1]; exact WR_none S hW lh hs) (by
        rw [e1]
        intro j h q
        have q : (if j = m + 1 then none else w.2 j) = some h := q
        split at q
        · cases q
        · have := hH j h q; omega)
      refine ⟨a, b, i1, i2, i3, ?_⟩
      refine Ev_ca rfl (c_putWh S T lh (j := m + 1) (x := kM1) hs) ?_
      exact Ev_jp rfl i4
    by_cases hba : m + 1 &&& barred = 0
    · cases hlast : lastE (geC S) (neC S) w (m + 1) (ho_E (C_to S)) 0 with
      | none =>
        obtain ⟨a, b, i1, i2, i3, i4⟩ := hno (by rw [if_pos hba, hlast]) (some (.int kM1))
        refine ⟨a, b, i1, i2, i3, ?_⟩
        refine Ev_br rfl (fun hc => absurd hc (nI_ge (show m + 1 < C_wm S by omega) (by omega))) (fun _ => ?_)
        refine Ev_br rfl (fun hc => ?_) (fun _ => ?_)
        · have hc : (nI (m + 1) &&& nI barred) ≠ 0 := hc
          rw [nI_and (by omega) (by omega), hba] at hc
          exact absurd nI_0 hc
        refine Ev_ca rfl (c_lastOf S T hL hB lh lg hs hW) ?_
        rw [hlast]
        refine Ev_jp rfl ?_
        exact Ev_br rfl (fun hc => absurd (show ¬ (0 : Int32) ≤ kM1 by decide) (fun q => q hc)) (fun _ => i4)
      | some e =>
        obtain ⟨-, he, hok⟩ := lastE_ok _ _ hlast
        have hok2 : bt (m + 1) e = 1 ∧ (w.2 (ah (m + 1) e)).isSome = true ∧ canR (geC S e) (neC S e) (w.1 (ah (m + 1) e)) = true := by
          unfold lastOk at hok
          rw [Bool.and_eq_true, Bool.and_eq_true, beq_iff_eq] at hok
          exact hok
        obtain ⟨hbt, hsome, -⟩ := hok2
        obtain ⟨hh, ho⟩ := Option.isSome_iff_exists.mp hsome
        have hlt := (ah_ok (m + 1) hs e (by omega)).2.2 hbt
        have hq := (hW _ hlt).2 hh ho
        have ht : taC S e < 10 := hB.2.2.2.1 e
        have hg : geC S e < 8 := hB.2.2.1 e
        have hpw : 2 ^ geC S e < 2 ^ 8 := Nat.pow_lt_pow_right (by decide) hg
        have hor : w.1 (ah (m + 1) e) ||| 2 ^ geC S e < 256 := Nat.or_lt_two_pow (n := 8) hq.2.1 hpw
        have hbd := hH _ hh ho
        have e1 : taC' S start barred (m + 2) = (fun j => if j = m + 1 then w.1 (ah (m + 1) e) ||| 2 ^ geC S e else w.1 j, fun j => if j = m + 1 then (w.2 (ah (m + 1) e)).map (fun h => h + taC S e) else w.2 j) := by
          rw [hta]
          unfold stW
          rw [if_pos hba, hlast]
        obtain ⟨a, b, i1, i2, i3, i4⟩ := rest (whS (wgS S (m + 1) (nI (w.1 (ah (m + 1) e) ||| 2 ^ geC S e))) (m + 1) (nI (hh + taC S e))) (some (.int (nI e))) rfl rfl (by show ((C_wh S).set _ _).length = 64; rw [List.length_set]; exact lh) (by show ((C_wg S).set _ _).length = 64; rw [List.length_set]; exact lg) (fun a b => wgh_abs S (m + 1) (m + 1) _ _ a b) (by
          rw [e1]
          exact WR_some S hW lh lg hs (by omega) hor (by show (if m + 1 = m + 1 then (w.2 (ah (m + 1) e)).map (fun h => h + taC S e) else _) = _; rw [if_pos rfl, ho]; rfl) (fun j hj => if_neg hj) (if_pos rfl) (fun j hj => if_neg hj)) (by
          rw [e1]
          intro j h q
          have q : (if j = m + 1 then (w.2 (ah (m + 1) e)).map (fun h => h + taC S e) else w.2 j) = some h := q
          split at q
          · rw [ho] at q
            have q : some (hh + taC S e) = some h := q
            cases q
            omega
          · have := hH j h q; omega)
        refine ⟨a, b, i1, i2, i3, ?_⟩
        refine Ev_br rfl (fun hc => absurd hc (nI_ge (show m + 1 < C_wm S by omega) (by omega))) (fun _ => ?_)
        refine Ev_br rfl (fun hc => ?_) (fun _ => ?_)
        · have hc : (nI (m + 1) &&& nI barred) ≠ 0 := hc
          rw [nI_and (by omega) (by omega), hba] at hc
          exact absurd nI_0 hc
        refine Ev_ca rfl (c_lastOf S T hL hB lh lg hs hW) ?_
        rw [hlast]
        refine Ev_jp rfl ?_
        refine Ev_br rfl (fun _ => ?_) (fun hc => absurd (nI_pos' (by omega)) hc)
        exact Ev_ca rfl (c_runLast S T hL hB lh lg hs (by omega) hbt ho hW) i4
    · obtain ⟨a, b, i1, i2, i3, i4⟩ := hno (if_neg hba) (some (.int kM1))
      refine ⟨a, b, i1, i2, i3, ?_⟩
      refine Ev_br rfl (fun hc => absurd hc (nI_ge (show m + 1 < C_wm S by omega) (by omega))) (fun _ => ?_)
      refine Ev_br rfl (fun _ => ?_) (fun hc => ?_)
      · exact Ev_br rfl (fun hc => absurd (show ¬ (0 : Int32) ≤ kM1 by decide) (fun q => q hc)) (fun _ => i4)
      · have hc : ¬ (nI (m + 1) &&& nI barred) ≠ 0 := hc
        rw [nI_and (by omega) (by omega), ← nI_0, Decidable.not_not, nI_eq (by omega) (by decide)] at hc
        exact absurd hc hba
end

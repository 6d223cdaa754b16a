/-! the class's explore, soonestSet, isSoon, soonest, bar -/
def wayS (S : cS) (a b : List Int32) : cS := Cs_wh (Cs_wg (Cs_wm S (2 ^ ho_E (C_to S))) a) b
def bI (x : Option Nat) : Int32 := match x with
  | none => kM1
  | some b => nI b
def sn (w : Wt) (best : Option Nat) (m : Nat) : Bool := match best with
  | none => true
  | some b => decide ((w.2 m).getD 0 < (w.2 b).getD 0)
/-- the soonest one of the sets below m -/
def so (le : Nat → Bool) (w : Wt) : Nat → Option Nat
  | 0 => none
  | m + 1 => if ((w.2 m).isSome && (sn w (so le w m) m && le (w.1 m))) = true then some m else so le w m
theorem so_succ (le : Nat → Bool) (w : Wt) (m : Nat) : so le w (m + 1) = if ((w.2 m).isSome && (sn w (so le w m) m && le (w.1 m))) = true then some m else so le w m := rfl
theorem so_ok {le : Nat → Bool} {w : Wt} {b : Nat} : ∀ m, so le w m = some b → b < m ∧ (w.2 b).isSome = true ∧ le (w.1 b) = true
  | 0, h => by cases h
  | m + 1, h => by
    rw [so_succ] at h
    split at h
    · rename_i hk
      rw [Bool.and_eq_true, Bool.and_eq_true] at hk
      cases h
      exact ⟨Nat.lt_succ_self _, hk.1, hk.2.2⟩
    · obtain ⟨i1, i2⟩ := so_ok m h
      exact ⟨Nat.lt_succ_of_lt i1, i2⟩
theorem E64 {h : Ho} (hB : HoB h) : 2 ^ ho_E h ≤ 64 := Nat.pow_le_pow_right (by decide) hB.2.2.2.2.2.2.2.1
section
variable (S : cS) (T : aH)
theorem c_explore {start barred : Nat} (hb : barred < 64) (hst : start < 256) (hL : HoL (C_to S)) (hB : HoB (C_to S)) (lh : (C_wh S).length = 64) (lg : (C_wg S).length = 64) : ∃ a b : List Int32, a.length = 64 ∧ b.length = 64 ∧ WR (wayS S a b) (taC' S start barred (2 ^ ho_E (C_to S))) (2 ^ ho_E (C_to S)) ∧ Cl mX7_explore [.ref 97, .ref 3, .int (nI start), .int (nI barred)] (hpC S ++ T) none (hpC (wayS S a b) ++ T) := by
  have hE := hB.2.2.2.2.2.2.2.1
  have h64 := E64 hB
  have h1 : 1 ≤ 2 ^ ho_E (C_to S) := Nat.one_le_two_pow
  have hw0 : WR (whS (wgS (Cs_wm S (2 ^ ho_E (C_to S))) 0 (nI start)) 0 (nI 0)) (fun _ => start, fun _ => some 0) 1 := WR_some (Cs_wm S (2 ^ ho_E (C_to S))) (w := (fun _ => start, fun _ => some 0)) (m := 0) (fun j hj => absurd hj (Nat.not_lt_zero _)) lh lg (by decide) (by decide) hst rfl (fun _ _ => rfl) rfl (fun _ _ => rfl)
  obtain ⟨a, b, i1, i2, i3, i4⟩ := c_expl_loop T (start := start) hb (2 ^ ho_E (C_to S) - 1) 1 (whS (wgS (Cs_wm S (2 ^ ho_E (C_to S))) 0 (nI start)) 0 (nI 0)) none hL hB rfl (by show ((C_wh S).set _ _).length = 64; rw [List.length_set]; exact lh) (by show ((C_wg S).set _ _).length = 64; rw [List.length_set]; exact lg) (Nat.le_refl _) (by show 1 + (2 ^ ho_E (C_to S) - 1) = 2 ^ ho_E (C_to S); omega) hw0 (fun j h q => by
    have q : some 0 = some h := q
    cases q
    omega)
  rw [wgh_abs] at i3 i4
  refine ⟨a, b, i1, i2, i3, ?_⟩
  refine a_run_ev 6 rfl ?_
  refine Ev_h (h2 := hpC (Cs_wm S (2 ^ ho_E (C_to S))) ++ T) (by rw [nI_shl1 (by omega)]; rfl) ?_
  refine Ev_ca rfl (c_putWg (Cs_wm S (2 ^ ho_E (C_to S))) T lg (j := 0) (by decide)) ?_
  refine Ev_ca rfl (c_putWh (wgS (Cs_wm S (2 ^ ho_E (C_to S))) 0 (nI start)) T lh (j := 0) (x := nI 0) (by decide)) ?_
  exact a_run_ev 2 rfl i4
theorem c_soon_loop {w : Wt} {k barred : Nat} (hW : WR S w (C_wm S)) (hm : C_wm S ≤ 64) (lh : (C_wh S).length = 64) (lg : (C_wg S).length = 64) (hL : MoL (C_nw S)) (hB : MoB (C_nw S)) (hU : ho_U (C_to S) ≤ 4) : ∀ (d set : Nat) (z : Option Value), set + d = C_wm S → Ev [] mX8_soonestSet (22, [some (.ref 0), some (.int (nI k)), some (.int (nI barred)), some (.int (bI (so (leC S) w set))), some (.int (nI set)), z], [], hpC S ++ T) (some (.int (bI (so (leC S) w (C_wm S))))) (hpC S ++ T)
  | 0, set, z, h => by
    have e9 : set = C_wm S := by omega
    subst e9
    exact Ev_br rfl (fun _ => Ev_rt rfl rfl rfl rfl) (fun hc => absurd (nI_le (Nat.le_refl _) (by omega)) hc)
  | d + 1, set, z, h => by
    have hs : set < C_wm S := by omega
    have ih := fun z2 => c_soon_loop (k := k) (barred := barred) hW hm lh lg hL hB hU d (set + 1) z2 (by omega)
    have hws := hW set hs
    refine Ev_br rfl (fun hc => absurd hc (nI_ge hs (by omega))) (fun _ => ?_)
    -- from 69 on
    have mid : ∀ fl : Nat, fl < 2 → ((w.2 set).isSome = true → fl = (sn w (so (leC S) w set) set).toNat) → Ev [] mX8_soonestSet (69, [some (.ref 0), some (.int (nI k)), some (.int (nI barred)), some (.int (bI (so (leC S) w set))), some (.int (nI set)), z], [.int (nI fl)], hpC S ++ T) (some (.int (bI (so (leC S) w (C_wm S))))) (hpC S ++ T) := by
      intro fl hf2 hfl
      have no : so (leC S) w (set + 1) = so (leC S) w set → Ev [] mX8_soonestSet (110, [some (.ref 0), some (.int (nI k)), some (.int (nI barred)), some (.int (bI (so (leC S) w set))), some (.int (nI set)), some (.int (nI fl))], [], hpC S ++ T) (some (.int (bI (so (leC S) w (C_wm S))))) (hpC S ++ T) := by
        intro e
        refine Ev_jpe rfl ?_ (ih (some (.int (nI fl))))
        rw [nI_add, e]
      refine Ev_ca rfl (c_Wopen S T lh hW hs hm) ?_
      cases hx : w.2 set with
      | none =>
        refine Ev_br rfl (fun _ => no ?_) (fun hc => absurd nI_0 hc)
        rw [so_succ, hx]
        rfl
      | some hh =>
        have hfl := hfl (by rw [hx]; rfl)
        obtain ⟨q1, q2, q3⟩ := hws.2 hh hx
        refine Ev_br rfl (fun hc => absurd hc b1z) (fun _ => ?_)
        cases hsn : sn w (so (leC S) w set) set with
        | false =>
          rw [hsn] at hfl
          have hfl : fl = 0 := hfl
          subst hfl
          refine Ev_br rfl (fun _ => no ?_) (fun hc => absurd nI_0 hc)
          rw [so_succ, hsn, hx]
          rfl
        | true =>
          rw [hsn] at hfl
          have hfl : fl = 1 := hfl
          subst hfl
          refine Ev_br rfl (fun hc => absurd hc b1z) (fun _ => ?_)
          refine Ev_ca rfl (c_atI _ 98 (C_wg S) set rfl (by omega) (by omega)) ?_
          rw [show (C_wg S).getD set 0 = nI (w.1 set) from q3]
          refine Ev_ca rfl (c_isLetIn S T hL hB q2 hU) ?_
          cases hle : leC S (w.1 set) with
          | false =>
            refine Ev_br rfl (fun _ => no ?_) (fun hc => absurd nI_0 hc)
            rw [so_succ, hsn, hx, hle]
            rfl
          | true =>
            refine Ev_br rfl (fun hc => absurd hc b1z) (fun _ => ?_)
            refine Ev_jpe rfl ?_ (ih (some (.int (nI 1))))
            have e9 : so (leC S) w (set + 1) = some set := by
              rw [so_succ, hsn, hx, hle]
              rfl
            rw [nI_add, e9]
            rfl
    cases hso : so (leC S) w set with
    | none =>
      rw [hso] at mid
      refine Ev_br rfl (fun _ => ?_) (fun hc => absurd (show kM1 < 0 by decide) hc)
      exact Ev_jp rfl (mid 1 (by decide) (fun _ => rfl))
    | some b =>
      rw [hso] at mid
      obtain ⟨s1, s2, s3⟩ := so_ok set hso
      obtain ⟨hb, hbe⟩ := Option.isSome_iff_exists.mp s2
      have hwb := hW b (by omega)
      obtain ⟨t1, t2, t3⟩ := hwb.2 hb hbe
      refine Ev_br rfl (fun hc => absurd hc (nI_pos (show b < 2 ^ 31 by omega))) (fun _ => ?_)
      refine Ev_ca rfl (c_atI _ 99 (C_wh S) set rfl (by omega) (by omega)) ?_
      refine Ev_ca rfl (c_atI _ 99 (C_wh S) b rfl (by omega) (by omega)) ?_
      rw [show (C_wh S).getD set 0 = hv (w.2 set) from hws.1, show (C_wh S).getD b 0 = hv (w.2 b) from hwb.1, hbe]
      refine Ev_br rfl (fun hc => ?_) (fun hc => ?_)
      · have hc : nI hb ≤ hv (w.2 set) := hc
        refine a_run_ev 1 rfl (mid 0 (by decide) (fun hi => ?_))
        obtain ⟨hh, hx⟩ := Option.isSome_iff_exists.mp hi
        obtain ⟨q1, q2, q3⟩ := hws.2 hh hx
        rw [hx] at hc
        have hc : nI hb ≤ nI hh := hc
        rw [nI_leI (by omega) (by omega)] at hc
        have : sn w (some b) set = false := by
          show decide ((w.2 set).getD 0 < (w.2 b).getD 0) = false
          rw [hx, hbe]
          exact decide_eq_false (by show ¬ hh < hb; omega)
        rw [this]
        rfl
      · have hc : ¬ nI hb ≤ hv (w.2 set) := hc
        refine Ev_jp rfl (mid 1 (by decide) (fun hi => ?_))
        obtain ⟨hh, hx⟩ := Option.isSome_iff_exists.mp hi
        obtain ⟨q1, q2, q3⟩ := hws.2 hh hx
        rw [hx] at hc
        have hc : ¬ nI hb ≤ nI hh := hc
        rw [nI_leI (by omega) (by omega)] at hc
        have : sn w (some b) set = true := by
          show decide ((w.2 set).getD 0 < (w.2 b).getD 0) = true
          rw [hx, hbe]
          exact decide_eq_true (by show hh < hb; omega)
        rw [this]
        rfl
/-- the soonest set of a KNOCKER, without some ERRANDS -/
abbrev soC (k barred : Nat) : Option Nat := so (leC S) (taC' S (sgC S k) barred (2 ^ ho_E (C_to S))) (2 ^ ho_E (C_to S))
abbrev wtC (k barred : Nat) : Wt := taC' S (sgC S k) barred (2 ^ ho_E (C_to S))
theorem c_soonestSet {k barred : Nat} (hk : k < 2 ^ 31) (hb : barred < 64) (hL : HoL (C_to S)) (hB : HoB (C_to S)) (lh : (C_wh S).length = 64) (lg : (C_wg S).length = 64) (hL2 : MoL (C_nw S)) (hB2 : MoB (C_nw S)) : ∃ a b : List Int32, a.length = 64 ∧ b.length = 64 ∧ WR (wayS S a b) (wtC S k barred) (2 ^ ho_E (C_to S)) ∧ Cl mX8_soonestSet [.ref 0, .int (nI k), .int (nI barred)] (hpC S ++ T) (some (.int (bI (soC S k barred)))) (hpC (wayS S a b) ++ T) := by
  have h64 := E64 hB
  obtain ⟨a, b, i1, i2, i3, i4⟩ := c_explore S T hb (hB2.1 k) hL hB lh lg
  refine ⟨a, b, i1, i2, i3, ?_⟩
  refine Ev_ca rfl (c_signsOf S T hL2 hk) ?_
  refine Ev_ca rfl i4 ?_
  exact a_run_ev 4 rfl (c_soon_loop (wayS S a b) T i3 h64 i2 i1 hL2 hB2 hB.2.2.2.2.2.2.2.2 (2 ^ ho_E (C_to S)) 0 none (by show 0 + 2 ^ ho_E (C_to S) = 2 ^ ho_E (C_to S); omega))
/-- whether it is so by these HOURS -/
def isS (w : Wt) (x : Option Nat) (h : Nat) : Bool := match x with
  | none => false
  | some b => decide ((w.2 b).getD 0 ≤ h)
abbrev isC (k barred h : Nat) : Bool := isS (wtC S k barred) (soC S k barred) h
theorem c_isSoon {k barred h : Nat} (hk : k < 2 ^ 31) (hb : barred < 64) (hh : h < 100) (hL : HoL (C_to S)) (hB : HoB (C_to S)) (lh : (C_wh S).length = 64) (lg : (C_wg S).length = 64) (hL2 : MoL (C_nw S)) (hB2 : MoB (C_nw S)) : ∃ a b : List Int32, a.length = 64 ∧ b.length = 64 ∧ Cl mX8_isSoon [.ref 0, .int (nI k), .int (nI barred), .int (nI h)] (hpC S ++ T) (some (.int (nI (isC S k barred h).toNat))) (hpC (wayS S a b) ++ T) := by
  have h64 := E64 hB
  obtain ⟨a, b, i1, i2, i3, i4⟩ := c_soonestSet S T hk hb hL hB lh lg hL2 hB2
  refine ⟨a, b, i1, i2, ?_⟩
  refine Ev_ca rfl i4 ?_
  unfold isC
  cases hso : soC S k barred with
  | none => exact Ev_br rfl (fun _ => Ev_rt rfl rfl rfl rfl) (fun hc => absurd (show kM1 < 0 by decide) hc)
  | some x =>
    obtain ⟨s1, s2, s3⟩ := so_ok _ hso
    obtain ⟨hx, hxe⟩ := Option.isSome_iff_exists.mp s2
    have hwx := i3 x s1
    obtain ⟨t1, t2, t3⟩ := hwx.2 hx hxe
    refine Ev_br rfl (fun hc => absurd hc (nI_pos (show x < 2 ^ 31 by omega))) (fun _ => ?_)
    refine Ev_ca rfl (c_atI _ 99 b x rfl (by omega) (by omega)) ?_
    rw [show b.getD x 0 = hv ((wtC S k barred).2 x) from hwx.1, hxe]
    refine Ev_br rfl (fun hc => ?_) (fun hc => ?_)
    · have hc : nI h < nI hx := hc
      rw [nI_ltI (by omega) (by omega)] at hc
      refine Ev_rt rfl rfl ?_ rfl
      show _ = some (Value.int (nI (decide (((wtC S k barred).2 x).getD 0 ≤ h)).toNat))
      rw [hxe, decide_eq_false (by show ¬ hx ≤ h; omega)]
      rfl
    · have hc : ¬ nI h < nI hx := hc
      rw [nI_ltI (by omega) (by omega)] at hc
      refine Ev_jp rfl (Ev_rt rfl rfl ?_ rfl)
      show _ = some (Value.int (nI (decide (((wtC S k barred).2 x).getD 0 ≤ h)).toNat))
      rw [hxe, decide_eq_true (by show hx ≤ h; omega)]
      rfl
end

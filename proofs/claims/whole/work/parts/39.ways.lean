/-! the class's Ways: what can be got, by each set of ERRANDS -/
theorem c_atI (h : aH) (q : Nat) (l : List Int32) (i : Nat) (hq : a_nth h q = some (.inl (0, l))) (hL : l.length ≤ 1000) (hi : i < 2 ^ 31) : Cl mX8_at [.ref q, .int (nI i)] h (some (.int (l.getD i 0))) h := by
  refine Ev_br rfl (fun hc => absurd hc (nI_pos hi)) (fun _ => ?_)
  refine Ev_al rfl hq rfl ?_
  refine Ev_br rfl (fun hc => ?_) (fun hc => ?_)
  · refine Ev_rt rfl rfl ?_ rfl
    have hc : nI l.length ≤ nI i := hc
    rw [nI_leI (by omega) hi] at hc
    rw [List.getD_eq_getElem?_getD, List.getElem?_eq_none hc]
    rfl
  · have hc : ¬ nI l.length ≤ nI i := hc
    rw [nI_leI (by omega) hi] at hc
    refine Ev_ia rfl hq (a_inN (by omega) (by omega)) ?_
    refine Ev_jp rfl ?_
    refine Ev_rt rfl rfl ?_ rfl
    rw [nI_clamp hi]
theorem c_putI (h : aH) (q : Nat) (l : List Int32) (i : Nat) (x : Int32) (hq : a_nth h q = some (.inl (0, l))) (hL : l.length ≤ 1000) (hi : i < l.length) : Cl mX8_put [.ref q, .int (nI i), .int x] h none (h.set q (.inl (0, l.set i x))) := by
  refine Ev_br rfl (fun hc => absurd hc (nI_pos (by omega))) (fun _ => ?_)
  refine Ev_al rfl hq rfl ?_
  refine Ev_br rfl (fun hc => ?_) (fun hc => ?_)
  · have hc : nI l.length ≤ nI i := hc
    rw [nI_leI (by omega) (by omega)] at hc
    omega
  · refine Ev_is rfl hq (a_inN (by omega) (by omega)) ?_
    refine Ev_rt rfl rfl rfl ?_
    rw [nI_clamp (by omega)]
def gI (l : List Int32) (i : Nat) : Int32 := l.getD i 0
theorem gI_set (L : List Int32) (i j : Nat) (x : Int32) : gI (L.set i x) j = if i = j ∧ i < L.length then x else gI L j := by
  unfold gI
  rw [List.getD_eq_getElem?_getD, List.getD_eq_getElem?_getD]
  by_cases e : i = j
  · subst e
    by_cases hl : i < L.length
    · rw [List.getElem?_set_self hl, if_pos ⟨rfl, hl⟩]
      rfl
    · rw [if_neg (fun q => hl q.2), List.set_eq_of_length_le (Nat.le_of_not_lt hl)]
  · rw [List.getElem?_set_ne e, if_neg (fun q => e q.1)]
/-- the set without the ERRAND -/
def ah (set e : Nat) : Nat := set &&& (255 ^^^ 2 ^ e)
theorem ah_ok : ∀ set, set < 64 → ∀ e, e < 6 → (nI set &&& ((nI 1 <<< (nI e &&& 31)) ^^^ kM1) = nI (ah set e)) ∧ (ah set e = set ↔ bt set e = 0) ∧ (bt set e = 1 → ah set e < set) := by decide +kernel
/-- HOURS as they stand in the row: cannot be, or how many -/
def hv (x : Option Nat) : Int32 := match x with
  | none => kM1
  | some h => nI h
theorem hv_none {x : Option Nat} (hb : ∀ h, x = some h → h < 2 ^ 31) : hv x = kM1 ↔ x = none := by
  cases x with
  | none => exact ⟨fun _ => rfl, fun _ => rfl⟩
  | some h =>
    constructor
    · intro q
      have q : nI h = kM1 := q
      have h1 : kM1 < 0 := by decide
      rw [← q] at h1
      exact absurd h1 (nI_pos (hb h rfl))
    · intro q
      cases q
/-- a table of ways: what SIGNS, what HOURS (none: it cannot be) -/
abbrev Wt : Type := (Nat → Nat) × (Nat → Option Nat)
/-- whether the ERRAND can be the last one of the set -/
def lastOk (g n : Nat → Nat) (w : Wt) (set e : Nat) : Bool := bt set e == 1 && ((w.2 (ah set e)).isSome && canR (g e) (n e) (w.1 (ah set e)))
/-- the first of the ERRANDS from e on, d of them, that can be the last one -/
def lastE (g n : Nat → Nat) (w : Wt) (set : Nat) : Nat → Nat → Option Nat
  | 0, _ => none
  | d + 1, e => if lastOk g n w set e = true then some e else lastE g n w set d (e + 1)
section
variable (S : cS) (T : aH)
/-- the rows hold the table for the sets below m -/
def WR (w : Wt) (m : Nat) : Prop := ∀ j, j < m → gI (C_wh S) j = hv (w.2 j) ∧ ∀ h, w.2 j = some h → h < 100000 ∧ w.1 j < 256 ∧ gI (C_wg S) j = nI (w.1 j)
theorem c_Wopen (hl : (C_wh S).length = 64) {w : Wt} {m j : Nat} (hW : WR S w m) (hj : j < m) (hm : m ≤ 64) : Cl mX7_isOpen [.ref 97, .int (nI j)] (hpC S ++ T) (some (.int (nI (w.2 j).isSome.toNat))) (hpC S ++ T) := by
  refine Ev_ca rfl (c_atI _ 99 (C_wh S) j rfl (by omega) (by omega)) ?_
  have h1 := (hW j hj).1
  have h2 := (hW j hj).2
  rw [show (C_wh S).getD j 0 = hv (w.2 j) from h1]
  have h3 := hv_none (x := w.2 j) (fun h q => by have := (h2 h q).1; omega)
  cases hx : w.2 j with
  | none =>
    refine Ev_br rfl (fun _ => Ev_rt rfl rfl rfl rfl) (fun hc => ?_)
    exact absurd (show hv none = kM1 from rfl) hc
  | some h =>
    rw [hx] at h3
    refine Ev_br rfl (fun hc => ?_) (fun _ => Ev_jp rfl (Ev_rt rfl rfl rfl rfl))
    have hc : hv (some h) = kM1 := hc
    exact absurd (h3.mp hc) (fun q => by cases q)
theorem c_lastOf_loop (hL : HoL (C_to S)) (hB : HoB (C_to S)) (lh : (C_wh S).length = 64) (lg : (C_wg S).length = 64) {w : Wt} {set : Nat} (hs : set < 64) (hW : WR S w set) : ∀ (d e : Nat) (z : Option Value), e + d = ho_E (C_to S) → Ev [] mX7_lastOf (2, [some (.ref 97), some (.ref 3), some (.int (nI set)), some (.int (nI e)), z], [], hpC S ++ T) (some (.int (match lastE (geC S) (neC S) w set d e with | some x => nI x | none => kM1))) (hpC S ++ T)
  | 0, e, z, he => by
    have hE := hB.2.2.2.2.2.2.2.1
    have e9 : e = ho_E (C_to S) := by omega
    subst e9
    exact Ev_br rfl (fun _ => Ev_rt rfl rfl rfl rfl) (fun hc => absurd (nI_le (Nat.le_refl _) (by omega)) hc)
  | d + 1, e, z, he => by
    have hE := hB.2.2.2.2.2.2.2.1
    obtain ⟨a1, a2, a3⟩ := ah_ok set hs e (by omega)
    have hl : lastE (geC S) (neC S) w set (d + 1) e = if lastOk (geC S) (neC S) w set e = true then some e else lastE (geC S) (neC S) w set d (e + 1) := rfl
    have hbt := bt_lt set e
    have hle : ah set e ≤ set := Nat.and_le_left
    refine Ev_br rfl (fun hc => absurd hc (nI_ge (show e < ho_E (C_to S) by omega) (by omega))) (fun _ => ?_)
    refine a_run_ev 8 rfl ?_
    refine Ev_eq (c' := (19, [some (.ref 97), some (.ref 3), some (.int (nI set)), some (.int (nI e)), some (.int (nI (ah set e)))], [], hpC S ++ T)) (by rw [← a1]) ?_
    have go : lastOk (geC S) (neC S) w set e = false → ∀ (st9 : aL), st9 = [some (.ref 97), some (.ref 3), some (.int (nI set)), some (.int (nI e)), some (.int (nI (ah set e)))] → Ev [] mX7_lastOf (53, st9, [], hpC S ++ T) (some (.int (match lastE (geC S) (neC S) w set (d + 1) e with | some x => nI x | none => kM1))) (hpC S ++ T) := by
      intro hno st9 e9
      subst e9
      rw [hl, if_neg (by rw [hno]; decide)]
      refine Ev_jpe rfl ?_ (c_lastOf_loop hL hB lh lg hs hW d (e + 1) (some (.int (nI (ah set e)))) (by omega))
      rw [nI_add]
    by_cases hb : bt set e = 1
    · refine Ev_br rfl (fun hc => ?_) (fun _ => ?_)
      · have hc : nI (ah set e) = nI set := hc
        rw [nI_eq (by omega) (by omega)] at hc
        have := a2.mp hc
        omega
      have hlt := a3 hb
      refine Ev_ca rfl (c_Wopen S T lh hW hlt (by omega)) ?_
      cases ho : w.2 (ah set e) with
      | none =>
        refine Ev_br rfl (fun _ => ?_) (fun hc => absurd nI_0 hc)
        exact go (by simp [lastOk, ho]) _ rfl
      | some hh =>
        obtain ⟨q1, q2, q3⟩ := (hW _ hlt).2 hh ho
        refine Ev_br rfl (fun hc => absurd hc b1z) (fun _ => ?_)
        refine Ev_ca rfl (c_atI _ 98 (C_wg S) (ah set e) rfl (by omega) (by omega)) ?_
        rw [show (C_wg S).getD (ah set e) 0 = nI (w.1 (ah set e)) from q3]
        refine Ev_ca rfl (c_isOpen S T (by omega) q2 hL hB) ?_
        cases hcr : canR (geC S e) (neC S e) (w.1 (ah set e)) with
        | false =>
          refine Ev_br rfl (fun _ => ?_) (fun hc => absurd nI_0 hc)
          exact go (by simp [lastOk, hcr]) _ rfl
        | true =>
          refine Ev_br rfl (fun hc => absurd hc b1z) (fun _ => ?_)
          refine Ev_rt rfl rfl ?_ rfl
          rw [hl, if_pos (by simp [lastOk, hb, ho, hcr])]
    · have hb0 : bt set e = 0 := by omega
      refine Ev_br rfl (fun _ => ?_) (fun hc => ?_)
      · exact go (by simp [lastOk, hb0]) _ rfl
      · exact absurd (show nI (ah set e) = nI set by rw [a2.mpr hb0]) hc
theorem c_lastOf (hL : HoL (C_to S)) (hB : HoB (C_to S)) (lh : (C_wh S).length = 64) (lg : (C_wg S).length = 64) {w : Wt} {set : Nat} (hs : set < 64) (hW : WR S w set) : Cl mX7_lastOf [.ref 97, .ref 3, .int (nI set)] (hpC S ++ T) (some (.int (match lastE (geC S) (neC S) w set (ho_E (C_to S)) 0 with | some x => nI x | none => kM1))) (hpC S ++ T) :=
  a_run_ev 2 rfl (c_lastOf_loop S T hL hB lh lg hs hW (ho_E (C_to S)) 0 none (by omega))
/-- the table with one more set -/
def stW (g t n : Nat → Nat) (E barred set : Nat) (w : Wt) : Wt := match (if set &&& barred = 0 then lastE g n w set E 0 else none) with
  | none => (w.1, fun j => if j = set then none else w.2 j)
  | some e => (fun j => if j = set then w.1 (ah set e) ||| 2 ^ g e else w.1 j, fun j => if j = set then (w.2 (ah set e)).map (fun h => h + t e) else w.2 j)
/-- the table of the sets below m -/
def taW (g t n : Nat → Nat) (E start barred : Nat) : Nat → Wt
  | 0 => (fun _ => start, fun _ => some 0)
  | 1 => (fun _ => start, fun _ => some 0)
  | m + 2 => stW g t n E barred (m + 1) (taW g t n E start barred (m + 1))
theorem lastE_ok {g n : Nat → Nat} {w : Wt} {set e : Nat} : ∀ (d e0 : Nat), lastE g n w set d e0 = some e → e0 ≤ e ∧ e < e0 + d ∧ lastOk g n w set e = true
  | 0, e0, h => by cases h
  | d + 1, e0, h => by
    have h : (if lastOk g n w set e0 = true then some e0 else lastE g n w set d (e0 + 1)) = some e := h
    split at h
    · rename_i hk
      cases h
      exact ⟨Nat.le_refl _, by omega, hk⟩
    · obtain ⟨a, b, c⟩ := lastE_ok d (e0 + 1) h
      exact ⟨by omega, by omega, c⟩
def wgS (j : Nat) (x : Int32) : cS := Cs_wg S ((C_wg S).set j x)
def whS (j : Nat) (x : Int32) : cS := Cs_wh S ((C_wh S).set j x)
theorem c_putWg (lg : (C_wg S).length = 64) {j : Nat} {x : Int32} (hj : j < 64) : Cl mX8_put [.ref 98, .int (nI j), .int x] (hpC S ++ T) none (hpC (wgS S j x) ++ T) := c_putI (hpC S ++ T) 98 (C_wg S) j x rfl (by omega) (by omega)
theorem c_putWh (lh : (C_wh S).length = 64) {j : Nat} {x : Int32} (hj : j < 64) : Cl mX8_put [.ref 99, .int (nI j), .int x] (hpC S ++ T) none (hpC (whS S j x) ++ T) := c_putI (hpC S ++ T) 99 (C_wh S) j x rfl (by omega) (by omega)
theorem c_runLast (hL : HoL (C_to S)) (hB : HoB (C_to S)) (lh : (C_wh S).length = 64) (lg : (C_wg S).length = 64) {w : Wt} {set e hh : Nat} (hs : set < 64) (he : e < 6) (hb : bt set e = 1) (ho : w.2 (ah set e) = some hh) (hW : WR S w set) : Cl mX7_runLast [.ref 97, .ref 3, .int (nI set), .int (nI e)] (hpC S ++ T) none (hpC (whS (wgS S set (nI (w.1 (ah set e) ||| 2 ^ geC S e))) set (nI (hh + taC S e))) ++ T) := by
  obtain ⟨a1, a2, a3⟩ := ah_ok set hs e he
  have hlt := a3 hb
  obtain ⟨q1, q2, q3⟩ := (hW _ hlt).2 hh ho
  have q0 : gI (C_wh S) (ah set e) = nI hh := by rw [(hW _ hlt).1, ho]; rfl
  have b1 : geC S e < 8 := hB.2.2.1 e
  have l1 := hL.2.2.1
  have l2 := hL.2.2.2.1
  have hp := pow_lt31 (n := geC S e) (k := 8) b1 (by omega)
  refine a_run_ev 8 rfl ?_
  refine Ev_eq (c' := (9, [some (.ref 97), some (.ref 3), some (.int (nI set)), some (.int (nI e)), some (.int (nI (ah set e)))], [], hpC S ++ T)) (by rw [← a1]; rfl) ?_
  refine Ev_ca rfl (c_atI _ 98 (C_wg S) (ah set e) rfl (by omega) (by omega)) ?_
  rw [show (C_wg S).getD (ah set e) 0 = nI (w.1 (ah set e)) from q3]
  refine Ev_ca rfl (c_at _ 10 (ho_G (C_to S)) e rfl (by omega) (by omega)) ?_
  refine Ev_cae rfl (as' := [.ref 98, .int (nI set), .int (nI (w.1 (ah set e) ||| 2 ^ geC S e))]) ?_ (c_putWg S T lg hs) ?_
  · rw [← nI_or (by omega) (by omega), ← nI_shl1 (by omega)]
    rfl
  refine Ev_ca rfl (c_atI (hpC (wgS S set (nI (w.1 (ah set e) ||| 2 ^ geC S e))) ++ T) 99 (C_wh S) (ah set e) rfl (by omega) (by omega)) ?_
  rw [show (C_wh S).getD (ah set e) 0 = nI hh from q0]
  refine Ev_ca rfl (c_at (hpC (wgS S set (nI (w.1 (ah set e) ||| 2 ^ geC S e))) ++ T) 11 (ho_T (C_to S)) e rfl (by omega) (by omega)) ?_
  refine Ev_cae rfl (as' := [.ref 99, .int (nI set), .int (nI (hh + taC S e))]) ?_ (c_putWh (wgS S set (nI (w.1 (ah set e) ||| 2 ^ geC S e))) T lh hs) (Ev_rt rfl rfl rfl rfl)
  rw [← nI_add]
  rfl
end

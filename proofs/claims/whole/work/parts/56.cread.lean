/-! the class's reader: its small methods -/
theorem tV_some {c : Nat → Nat} {i v : Nat} (h : tV c i = some v) : tK c i = 3 ∧ v ≤ 99 := by
  unfold tV at h
  split at h
  · rename_i hk
    refine ⟨hk, ?_⟩
    have hd := kiF_dig hk
    obtain ⟨d1, d2⟩ := dig_lt hd
    unfold numV at h
    split at h
    · cases h; omega
    · split at h
      · rename_i h2
        have hd2 := lexE_dig hd (q := st c i + 1) (by omega) (by omega)
        obtain ⟨d3, d4⟩ := dig_lt hd2
        cases h
        omega
      · cases h
  · cases h
/-- a NUMBER from a to b -/
def rdN (c : Nat → Nat) (i a b : Nat) : Option Nat := match tV c i with
  | none => none
  | some v => if a ≤ v ∧ v ≤ b then some v else none
theorem rdN_some {c : Nat → Nat} {i a b v : Nat} (h : rdN c i a b = some v) : tV c i = some v ∧ a ≤ v ∧ v ≤ b := by
  unfold rdN at h
  split at h
  · cases h
  · rename_i w hw
    split at h
    · rename_i h2
      cases h
      exact ⟨hw, h2⟩
    · cases h
theorem rdN_none {c : Nat → Nat} {i a b v : Nat} (h : rdN c i a b = none) (hv : tV c i = some v) : v < a ∨ b < v := by
  unfold rdN at h
  rw [hv] at h
  simp only at h
  split at h
  · cases h
  · omega
/-- a SIGN that isn't in the set -/
def sgO (c : Nat → Nat) (i x : Nat) : Option Nat := match tV c i with
  | none => none
  | some v => if v < 8 ∧ bt x v = 0 then some v else none
theorem sgO_some {c : Nat → Nat} {i x v : Nat} (h : sgO c i x = some v) : tV c i = some v ∧ v < 8 ∧ bt x v = 0 := by
  unfold sgO at h
  split at h
  · cases h
  · rename_i w hw
    split at h
    · rename_i h2
      cases h
      exact ⟨hw, h2⟩
    · cases h
theorem sgO_none {c : Nat → Nat} {i x v : Nat} (h : sgO c i x = none) (hv : tV c i = some v) : 8 ≤ v ∨ bt x v = 1 := by
  have hb := bt_lt x v
  unfold sgO at h
  rw [hv] at h
  simp only at h
  split at h
  · cases h
  · omega
def sgs (c : Nat → Nat) : Nat → Nat → Nat → Nat × Nat
  | 0, i, x => (x, i)
  | f + 1, i, x => match sgO c i x with
    | none => (x, i)
    | some v => sgs c f (i + 1) (x ||| 2 ^ v)
theorem or256 {x v : Nat} (hx : x < 256) (hv : v < 8) : x ||| 2 ^ v < 256 := by
  have h := Nat.pow_lt_pow_right (a := 2) (by decide) (show v < 8 from hv)
  exact Nat.or_lt_two_pow (n := 8) hx h
theorem sgs_ok {c : Nat → Nat} {m : Nat} (hm : lastT c m) : ∀ (f i x : Nat), x < 256 → i ≤ m → (sgs c f i x).1 < 256 ∧ i ≤ (sgs c f i x).2 ∧ (sgs c f i x).2 ≤ m
  | 0, i, x, hx, hi => ⟨hx, Nat.le_refl _, hi⟩
  | f + 1, i, x, hx, hi => by
    have e : sgs c (f + 1) i x = match sgO c i x with
      | none => (x, i)
      | some v => sgs c f (i + 1) (x ||| 2 ^ v) := rfl
    rw [e]
    cases h : sgO c i x with
    | none => exact ⟨hx, Nat.le_refl _, hi⟩
    | some v =>
      obtain ⟨h1, h2, h3⟩ := sgO_some h
      have hk := (tV_some h1).1
      have hne : i ≠ m := fun q => by have := hm.2.1; rw [← q] at this; omega
      obtain ⟨q1, q2, q3⟩ := sgs_ok hm f (i + 1) (x ||| 2 ^ v) (or256 hx h2) (by omega)
      exact ⟨q1, Nat.le_of_succ_le q2, q3⟩
theorem K_next {c : Nat → Nat} {m i : Nat} (hm : lastT c m) (hi : i ≤ m) (hk : 2 ≤ tK c i) : i + 1 ≤ m := by
  have hne : i ≠ m := fun q => by have := hm.2.1; rw [← q] at this; omega
  omega
section
variable (S : cS) (T : aH)
def HT (c : Nat → Nat) (m : Nat) : Prop := tl3 S ∧ TR S c (m + 1) ∧ lastT c m
theorem c_kind {c : Nat → Nat} {m : Nat} (hT : HT S c m) (hp9 : C_pl S ≤ m) : Cl mX4_kind [.ref 13] (hpC S ++ T) (some (.int (nI (tK c (C_pl S))))) (hpC S ++ T) := by
  have h3 := hT.2.2.1
  have hg := (hT.2.1 (C_pl S) (by omega)).1
  refine Ev_ca rfl (c_atI _ 15 (C_tk S) (C_pl S) rfl (by have := hT.1.1; omega) (by omega)) ?_
  refine Ev_rt rfl rfl ?_ rfl
  exact congrArg (fun x => some (Value.int x)) hg
/-- whether the place has a STOP -/
def sti (c : Nat → Nat) (i : Nat) : Nat := if tK c i = 2 then i + 1 else i
theorem c_readStop {c : Nat → Nat} {m : Nat} (hT : HT S c m) (hp9 : C_pl S ≤ m) : Cl mX4_readStop [.ref 13] (hpC S ++ T) (some (.int (nI (decide (tK c (C_pl S) = 2)).toNat))) (hpC (Cs_pl S (sti c (C_pl S))) ++ T) := by
  have h8 : tK c (C_pl S) < 8 := kiF_lt _ _ _
  refine Ev_ca rfl (c_kind S T hT hp9) ?_
  refine Ev_br rfl (fun hc => ?_) (fun hc => ?_)
  · have hc : nI (tK c (C_pl S)) = nI 2 := hc
    rw [nI_eq (by omega) (by decide)] at hc
    unfold sti
    rw [decide_eq_true hc, if_pos hc]
    refine a_run_ev 6 rfl ?_
    refine Ev_h (h2 := hpC (Cs_pl S (C_pl S + 1)) ++ T) (by rw [nI_add]; rfl) ?_
    exact Ev_rt rfl rfl rfl rfl
  · have hc : ¬ nI (tK c (C_pl S)) = nI 2 := hc
    rw [nI_eq (by omega) (by decide)] at hc
    unfold sti
    rw [decide_eq_false hc, if_neg hc]
    exact Ev_rt rfl rfl rfl rfl
theorem c_readNumber_t {c : Nat → Nat} {m a b v : Nat} (hT : HT S c m) (hp9 : C_pl S ≤ m) (hb : b < 100) (hv : rdN c (C_pl S) a b = some v) : Cl mX4_readNumber [.ref 13, .int (nI a), .int (nI b)] (hpC S ++ T) (some (.int (nI v))) (hpC (Cs_pl S (C_pl S + 1)) ++ T) := by
  have h3 := hT.2.2.1
  obtain ⟨h1, h2, h4⟩ := rdN_some hv
  have hg : gI (C_tv S) (C_pl S) = nI v := by rw [(hT.2.1 (C_pl S) (by omega)).2.2, h1]; rfl
  refine Ev_ca rfl (c_atI _ 17 (C_tv S) (C_pl S) rfl (by have := hT.1.2.2; omega) (by omega)) ?_
  rw [show (C_tv S).getD (C_pl S) 0 = nI v from hg]
  refine Ev_br rfl (fun hc => absurd hc (nI_nlt h2 (by omega))) (fun _ => ?_)
  refine Ev_br rfl (fun _ => ?_) (fun hc => absurd (nI_le h4 (by omega)) hc)
  refine a_run_ev 6 rfl ?_
  refine Ev_h (h2 := hpC (Cs_pl S (C_pl S + 1)) ++ T) (by rw [nI_add]; rfl) ?_
  exact Ev_rt rfl rfl rfl rfl
theorem c_readNumber_f {c : Nat → Nat} {m a b : Nat} (hT : HT S c m) (hp9 : C_pl S ≤ m) (ha : a < 100) (hb : b < 100) (hv : rdN c (C_pl S) a b = none) : Cl mX4_readNumber [.ref 13, .int (nI a), .int (nI b)] (hpC S ++ T) (some (.int kM1)) (hpC S ++ T) := by
  have h3 := hT.2.2.1
  have hg := (hT.2.1 (C_pl S) (by omega)).2.2
  refine Ev_ca rfl (c_atI _ 17 (C_tv S) (C_pl S) rfl (by have := hT.1.2.2; omega) (by omega)) ?_
  rw [show (C_tv S).getD (C_pl S) 0 = nIo (tV c (C_pl S)) from hg]
  cases ht : tV c (C_pl S) with
  | none =>
    refine Ev_br rfl (fun _ => Ev_rt rfl rfl rfl rfl) (fun hc => ?_)
    have hc : ¬ kM1 < nI a := hc
    exact absurd (Int32.lt_of_lt_of_le (show kM1 < nI 0 by decide) (nI_le (Nat.zero_le a) (by omega))) hc
  | some v =>
    have h9 := (tV_some ht).2
    refine Ev_br rfl (fun _ => Ev_rt rfl rfl rfl rfl) (fun hc => ?_)
    refine Ev_br rfl (fun hc2 => ?_) (fun _ => Ev_rt rfl rfl rfl rfl)
    have hc : ¬ nI v < nI a := hc
    have hc2 : nI v ≤ nI b := hc2
    rw [nI_ltI (by omega) (by omega)] at hc
    rw [nI_leI (by omega) (by omega)] at hc2
    rcases rdN_none hv ht with q | q
    · omega
    · omega
def rdNd (c : Nat → Nat) (i : Nat) : Option Nat := match rdN c i 0 7 with
  | some v => some v
  | none => rdN c i 9 9
theorem c_readNeed_t {c : Nat → Nat} {m v : Nat} (hT : HT S c m) (hp9 : C_pl S ≤ m) (hv : rdNd c (C_pl S) = some v) : Cl mX4_readNeed [.ref 13] (hpC S ++ T) (some (.int (nI v))) (hpC (Cs_pl S (C_pl S + 1)) ++ T) := by
  unfold rdNd at hv
  cases h1 : rdN c (C_pl S) 0 7 with
  | some w =>
    rw [h1] at hv
    cases hv
    have h9 := (rdN_some h1).2.2
    refine Ev_ca rfl (c_readNumber_t S T hT hp9 (by decide) h1) ?_
    exact Ev_br rfl (fun _ => Ev_rt rfl rfl rfl rfl) (fun hc => absurd (nI_le (Nat.zero_le v) (by omega)) hc)
  | none =>
    rw [h1] at hv
    refine Ev_ca rfl (c_readNumber_f S T hT hp9 (by decide) (by decide) h1) ?_
    refine Ev_br rfl (fun hc => absurd (show kM1 ≥ 0 from hc) (by decide)) (fun _ => ?_)
    refine Ev_ca rfl (c_readNumber_t S T hT hp9 (by decide) hv) ?_
    exact Ev_jp rfl (Ev_rt rfl rfl rfl rfl)
theorem c_readNeed_f {c : Nat → Nat} {m : Nat} (hT : HT S c m) (hp9 : C_pl S ≤ m) (hv : rdNd c (C_pl S) = none) : Cl mX4_readNeed [.ref 13] (hpC S ++ T) (some (.int kM1)) (hpC S ++ T) := by
  unfold rdNd at hv
  cases h1 : rdN c (C_pl S) 0 7 with
  | some w => rw [h1] at hv; cases hv
  | none =>
    rw [h1] at hv
    refine Ev_ca rfl (c_readNumber_f S T hT hp9 (by decide) (by decide) h1) ?_
    refine Ev_br rfl (fun hc => absurd (show kM1 ≥ 0 from hc) (by decide)) (fun _ => ?_)
    refine Ev_ca rfl (c_readNumber_f S T hT hp9 (by decide) (by decide) hv) ?_
    exact Ev_jp rfl (Ev_rt rfl rfl rfl rfl)
end
section
variable (T : aH)
theorem c_signs_loop {c : Nat → Nat} {m : Nat} : ∀ (f n x : Nat) (S : cS) (z : Option Value), n + f = 8 → HT S c m → C_pl S ≤ m → x < 256 → Ev [] mX4_readSigns (4, [some (.ref 13), some (.int (nI x)), some (.int (nI n)), z], [], hpC S ++ T) (some (.int (nI (sgs c f (C_pl S) x).1))) (hpC (Cs_pl S (sgs c f (C_pl S) x).2) ++ T)
  | 0, n, x, S, z, e, hT, hp9, hx => by
    exact Ev_br rfl (fun _ => Ev_rt rfl rfl rfl rfl) (fun hc => absurd (nI_le (show 8 ≤ n by omega) (by omega)) hc)
  | f + 1, n, x, S, z, e, hT, hp9, hx => by
    have h3 := hT.2.2.1
    have hg := (hT.2.1 (C_pl S) (by omega)).2.2
    have es : sgs c (f + 1) (C_pl S) x = match sgO c (C_pl S) x with
      | none => (x, C_pl S)
      | some v => sgs c f (C_pl S + 1) (x ||| 2 ^ v) := rfl
    rw [es]
    refine Ev_br rfl (fun hc => absurd hc (nI_ge (show n < 8 by omega) (by decide))) (fun _ => ?_)
    refine Ev_ca rfl (c_atI _ 17 (C_tv S) (C_pl S) rfl (by have := hT.1.2.2; omega) (by omega)) ?_
    rw [show (C_tv S).getD (C_pl S) 0 = nIo (tV c (C_pl S)) from hg]
    cases ho : sgO c (C_pl S) x with
    | none =>
      cases ht : tV c (C_pl S) with
      | none =>
        refine Ev_ca rfl (c_isSign_f _ (x := kM1) (Or.inl (by decide))) ?_
        exact Ev_br rfl (fun _ => Ev_rt rfl rfl rfl rfl) (fun hc => absurd nI_0 hc)
      | some v =>
        have h9 := (tV_some ht).2
        by_cases hv : v < 8
        · refine Ev_ca rfl (c_isSign_t _ hv) ?_
          refine Ev_br rfl (fun hc => absurd hc b1z) (fun _ => ?_)
          refine Ev_ca rfl (c_has _ (n := x) (k := v) (by omega) (by omega)) ?_
          have hb : bt x v = 1 := by
            rcases sgO_none ho ht with q | q
            · omega
            · exact q
          rw [hb]
          refine Ev_br rfl (fun hc => absurd hc b1z) (fun _ => ?_)
          exact Ev_jp rfl (Ev_rt rfl rfl rfl rfl)
        · refine Ev_ca rfl (c_isSign_f _ (x := nI v) (Or.inr (nI_le (by omega) (by omega)))) ?_
          exact Ev_br rfl (fun _ => Ev_rt rfl rfl rfl rfl) (fun hc => absurd nI_0 hc)
    | some v =>
      obtain ⟨h1, h2, h4⟩ := sgO_some ho
      have hk := (tV_some h1).1
      have hn := K_next hT.2.2 hp9 (by omega)
      have hpw : 2 ^ v < 256 := Nat.pow_lt_pow_right (a := 2) (by decide) (show v < 8 from h2)
      have ih := c_signs_loop (c := c) (m := m) f (n + 1) (x ||| 2 ^ v) (Cs_pl S (C_pl S + 1)) (some (.int (nI v))) (by omega) hT hn (or256 hx h2)
      rw [h1]
      refine Ev_ca rfl (c_isSign_t _ h2) ?_
      refine Ev_br rfl (fun hc => absurd hc b1z) (fun _ => ?_)
      refine Ev_ca rfl (c_has _ (n := x) (k := v) (by omega) (by omega)) ?_
      rw [h4]
      refine Ev_br rfl (fun _ => ?_) (fun hc => absurd nI_0 hc)
      refine a_run_ev 12 rfl ?_
      refine Ev_h (h2 := hpC (Cs_pl S (C_pl S + 1)) ++ T) (by rw [nI_add]; rfl) ?_
      refine Ev_jpe rfl ?_ ih
      rw [show nIo (some v) = nI v from rfl, nI_shl1 (by omega), nI_or (by omega) (by omega), nI_add]
      all_goals rfl
theorem c_readSigns {c : Nat → Nat} {m : Nat} (S : cS) (hT : HT S c m) (hp9 : C_pl S ≤ m) : Cl mX4_readSigns [.ref 13] (hpC S ++ T) (some (.int (nI (sgs c 8 (C_pl S) 0).1))) (hpC (Cs_pl S (sgs c 8 (C_pl S) 0).2) ++ T) :=
  a_run_ev 4 rfl (c_signs_loop T 8 0 0 S none rfl hT hp9 (by decide))
end

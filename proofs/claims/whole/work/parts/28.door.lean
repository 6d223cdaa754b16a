/-! the door: who is let in, by the class -/
theorem Ev_cae {scr : List Int32} {mi : Nat} {c : aF} {q : Nat} {as as' : List Value} {npc : Nat} {ls : aL} {r : List Value} {hh : aH} {w v : Option Value} {h1 h' : aH} (h : a_cac scr 99 mi c = some (q, as, npc, ls, r, hh)) (has : as = as') (C : Cl q as' hh w h1) (k : Ev scr mi (npc, ls, w.toList ++ r, h1) v h') : Ev scr mi c v h' := by
  subst has
  exact Ev_ca h C k
theorem Ev_eq {scr : List Int32} {mi : Nat} {c c' : aF} {v : Option Value} {h' : aH} (e : c = c') (k : Ev scr mi c' v h') : Ev scr mi c v h' := e ▸ k
theorem Ev_jpe {scr : List Int32} {mi : Nat} {c c1 c2 : aF} {v : Option Value} {h' : aH} (h : a_jpc 99 mi c = some c1) (e : c1 = c2) (k : Ev scr mi c2 v h') : Ev scr mi c v h' := Ev_jp h (e ▸ k)
def gd (L : List Nat) (i : Nat) : Nat := L.getD i 0
theorem gd_set (L : List Nat) (i j x : Nat) : gd (L.set i x) j = if i = j ∧ i < L.length then x else gd L j := by
  unfold gd
  rw [List.getD_eq_getElem?_getD, List.getD_eq_getElem?_getD]
  by_cases e : i = j
  · subst e
    by_cases hl : i < L.length
    · rw [List.getElem?_set_self hl, if_pos ⟨rfl, hl⟩]
      rfl
    · rw [if_neg (fun q => hl q.2), List.set_eq_of_length_le (Nat.le_of_not_lt hl)]
  · rw [List.getElem?_set_ne e, if_neg (fun q => e q.1)]
/-- a moment's rows are as long as they are, and hold small numbers -/
def MoL (m : Mo) : Prop := m.1.length = 5 ∧ m.2.1.length = 5 ∧ m.2.2.1.length = 4 ∧ m.2.2.2.length = 4
def MoB (m : Mo) : Prop := (∀ i, gd m.1 i < 256) ∧ (∀ i, gd m.2.1 i < 100) ∧ (∀ i, gd m.2.2.1 i < 256) ∧ (∀ i, gd m.2.2.2 i < 9)
def HoL (h : Ho) : Prop := MoL (ho_F h) ∧ (ho_R h).length = 5 ∧ (ho_G h).length = 6 ∧ (ho_T h).length = 6 ∧ (ho_N h).length = 6
def HoB (h : Ho) : Prop := MoB (ho_F h) ∧ (∀ i, gd (ho_R h) i < 2) ∧ (∀ i, gd (ho_G h) i < 8) ∧ (∀ i, gd (ho_T h) i < 10) ∧ (∀ i, gd (ho_N h) i < 10) ∧ ho_L h < 256 ∧ ho_K h ≤ 5 ∧ ho_E h ≤ 6 ∧ ho_U h ≤ 4
/-- how many of the first n RULES are met -/
def met (sets manys : Nat → Nat) (x : Nat) : Nat → Nat
  | 0 => 0
  | n + 1 => met sets manys x n + if manys n ≤ pop (x &&& sets n) then 1 else 0
theorem met_succ (sets manys : Nat → Nat) (x n : Nat) : met sets manys x (n + 1) = met sets manys x n + if manys n ≤ pop (x &&& sets n) then 1 else 0 := rfl
theorem met_le (sets manys : Nat → Nat) (x : Nat) : ∀ n, met sets manys x n ≤ n
  | 0 => Nat.le_refl _
  | n + 1 => by
    have := met_le sets manys x n
    unfold met
    split <;> omega
theorem met_congr {s1 m1 s2 m2 : Nat → Nat} {x : Nat} : ∀ n, (∀ i, i < n → s1 i = s2 i ∧ m1 i = m2 i) → met s1 m1 x n = met s2 m2 x n
  | 0, _ => rfl
  | n + 1, h => by
    unfold met
    rw [met_congr n (fun i hi => h i (Nat.lt_succ_of_lt hi)), (h n (Nat.lt_succ_self n)).1, (h n (Nat.lt_succ_self n)).2]
/-- with these SIGNS one is let in -/
def lets (U : Nat) (sets manys : Nat → Nat) (x : Nat) : Bool := decide (met sets manys x U = U)
section
variable (S : cS) (T : aH)
abbrev sgC (k : Nat) : Nat := gd (C_nw S).1 k
abbrev hrC (k : Nat) : Nat := gd (C_nw S).2.1 k
abbrev seC (k : Nat) : Nat := gd (C_nw S).2.2.1 k
abbrev maC (k : Nat) : Nat := gd (C_nw S).2.2.2 k
theorem c_signsOf (hL : MoL (C_nw S)) {k : Nat} (hk : k < 2 ^ 31) : Cl mX8_signsOf [.ref 0, .int (nI k)] (hpC S ++ T) (some (.int (nI (sgC S k)))) (hpC S ++ T) := by
  have := hL.1
  exact Ev_ca rfl (c_at _ 29 (C_nw S).1 k rfl (by omega) hk) (Ev_rt rfl rfl rfl rfl)
theorem c_hasEnough (hL : MoL (C_nw S)) (hB : MoB (C_nw S)) {x i : Nat} (hx : x < 256) (hi : i < 2 ^ 31) : Cl mX8_hasEnough [.ref 0, .int (nI x), .int (nI i)] (hpC S ++ T) (some (.int (nI (if maC S i ≤ pop (x &&& seC S i) then 1 else 0)))) (hpC S ++ T) := by
  have hl1 := hL.2.2.1
  have hl2 := hL.2.2.2
  have hs : seC S i < 256 := hB.2.2.1 i
  have hm : maC S i < 9 := hB.2.2.2 i
  have hle : x &&& seC S i ≤ x := Nat.and_le_left
  have hp := pop_le (x &&& seC S i)
  refine Ev_ca rfl (c_at _ 31 (C_nw S).2.2.1 i rfl (by omega) hi) ?_
  refine Ev_cae rfl (as' := [.int (nI (x &&& seC S i))]) ?_ (c_bitCount _ (by omega)) ?_
  · show [Value.int (nI x &&& nI (seC S i))] = _
    rw [nI_and (by omega) (by omega)]
  refine Ev_ca rfl (c_at _ 32 (C_nw S).2.2.2 i rfl (by omega) hi) ?_
  refine Ev_br rfl (fun hc => ?_) (fun hc => ?_)
  · have hc : nI (pop (x &&& seC S i)) < nI (maC S i) := hc
    rw [nI_ltI (by omega) (by omega)] at hc
    refine Ev_rt rfl rfl ?_ rfl
    rw [if_neg (by omega)]
  · have hc : ¬ nI (pop (x &&& seC S i)) < nI (maC S i) := hc
    rw [nI_ltI (by omega) (by omega)] at hc
    refine Ev_jp rfl (Ev_rt rfl rfl ?_ rfl)
    rw [if_pos (by omega)]
theorem c_rulesMet_loop (hL : MoL (C_nw S)) (hB : MoB (C_nw S)) {x : Nat} (hx : x < 256) (hU : ho_U (C_to S) ≤ 4) : ∀ (d i : Nat), i + d = ho_U (C_to S) → Ev [] mX8_rulesMet (4, [some (.ref 0), some (.int (nI x)), some (.int (nI (met (seC S) (maC S) x i))), some (.int (nI i))], [], hpC S ++ T) (some (.int (nI (met (seC S) (maC S) x (ho_U (C_to S)))))) (hpC S ++ T)
  | 0, i, h => by
    have e : i = ho_U (C_to S) := by omega
    subst e
    refine Ev_br rfl (fun _ => Ev_rt rfl rfl rfl rfl) (fun hc => ?_)
    exact absurd (nI_le (Nat.le_refl _) (by omega)) hc
  | d + 1, i, h => by
    refine Ev_br rfl (fun hc => absurd hc (nI_ge (show i < ho_U (C_to S) by omega) (by omega))) (fun _ => ?_)
    refine Ev_ca rfl (c_hasEnough S T hL hB hx (by omega)) ?_
    by_cases hm : maC S i ≤ pop (x &&& seC S i)
    · rw [if_pos hm]
      refine Ev_br rfl (fun hc => absurd hc (show ¬ nI 1 = 0 by decide)) (fun _ => ?_)
      refine Ev_jpe rfl ?_ (c_rulesMet_loop hL hB hx hU d (i + 1) (by omega))
      rw [nI_add, nI_add]
      rw [met_succ, if_pos hm]
      rfl
    · rw [if_neg hm]
      refine Ev_br rfl (fun _ => ?_) (fun hc => absurd nI_0 hc)
      refine Ev_jpe rfl ?_ (c_rulesMet_loop hL hB hx hU d (i + 1) (by omega))
      rw [nI_add]
      rw [met_succ, if_neg hm]
      rfl
theorem c_rulesMet (hL : MoL (C_nw S)) (hB : MoB (C_nw S)) {x : Nat} (hx : x < 256) (hU : ho_U (C_to S) ≤ 4) : Cl mX8_rulesMet [.ref 0, .int (nI x)] (hpC S ++ T) (some (.int (nI (met (seC S) (maC S) x (ho_U (C_to S)))))) (hpC S ++ T) := by
  refine a_run_ev 4 rfl (c_rulesMet_loop S T hL hB hx hU (ho_U (C_to S)) 0 (by omega))
abbrev leC (x : Nat) : Bool := lets (ho_U (C_to S)) (seC S) (maC S) x
theorem c_isLetIn (hL : MoL (C_nw S)) (hB : MoB (C_nw S)) {x : Nat} (hx : x < 256) (hU : ho_U (C_to S) ≤ 4) : Cl mX8_isLetIn [.ref 0, .int (nI x)] (hpC S ++ T) (some (.int (nI (leC S x).toNat))) (hpC S ++ T) := by
  have hle := met_le (seC S) (maC S) x (ho_U (C_to S))
  refine Ev_ca rfl (c_rulesMet S T hL hB hx hU) ?_
  refine Ev_br rfl (fun hc => ?_) (fun hc => ?_)
  · have hc : ¬ nI (met (seC S) (maC S) x (ho_U (C_to S))) = nI (ho_U (C_to S)) := hc
    rw [nI_eq (by omega) (by omega)] at hc
    refine Ev_rt rfl rfl ?_ rfl
    rw [show leC S x = false from decide_eq_false hc]
    rfl
  · have hc : ¬ ¬ nI (met (seC S) (maC S) x (ho_U (C_to S))) = nI (ho_U (C_to S)) := hc
    rw [nI_eq (by omega) (by omega)] at hc
    refine Ev_jp rfl (Ev_rt rfl rfl ?_ rfl)
    rw [show leC S x = true from decide_eq_true (Decidable.not_not.mp hc)]
    rfl
/-- bits of the first n for which f holds -/
def bits (f : Nat → Bool) : Nat → Nat
  | 0 => 0
  | n + 1 => bits f n ||| (if f n then 2 ^ n else 0)
theorem bits_lt (f : Nat → Bool) : ∀ n, bits f n < 2 ^ n
  | 0 => Nat.one_pos
  | n + 1 => by
    have h := bits_lt f n
    have h2 : 2 ^ n < 2 ^ (n + 1) := Nat.pow_lt_pow_right (by decide) (Nat.lt_succ_self n)
    unfold bits
    refine Nat.or_lt_two_pow (by omega) ?_
    split
    · exact h2
    · exact Nat.two_pow_pos _
theorem bits_succ (f : Nat → Bool) (n : Nat) : bits f (n + 1) = bits f n ||| (if f n then 2 ^ n else 0) := rfl
theorem bits_congr {f g : Nat → Bool} : ∀ n, (∀ i, i < n → f i = g i) → bits f n = bits g n
  | 0, _ => rfl
  | n + 1, h => by
    rw [bits_succ, bits_succ, bits_congr n (fun i hi => h i (Nat.lt_succ_of_lt hi)), h n (Nat.lt_succ_self n)]
theorem pow_lt31 {n k : Nat} (h : n < k) (hk : k ≤ 30) : 2 ^ n < 2 ^ 30 := Nat.pow_lt_pow_right (by decide) (by omega)
theorem c_letIn_loop (hL : MoL (C_nw S)) (hB : MoB (C_nw S)) (hK : ho_K (C_to S) ≤ 5) (hU : ho_U (C_to S) ≤ 4) : ∀ (d k : Nat), k + d = ho_K (C_to S) → Ev [] mX8_letIn (4, [some (.ref 0), some (.int (nI (bits (fun k => leC S (sgC S k)) k))), some (.int (nI k))], [], hpC S ++ T) (some (.int (nI (bits (fun k => leC S (sgC S k)) (ho_K (C_to S)))))) (hpC S ++ T)
  | 0, k, h => by
    have e : k = ho_K (C_to S) := by omega
    subst e
    refine Ev_br rfl (fun _ => Ev_rt rfl rfl rfl rfl) (fun hc => ?_)
    exact absurd (nI_le (Nat.le_refl _) (by omega)) hc
  | d + 1, k, h => by
    have hsg : sgC S k < 256 := hB.1 k
    refine Ev_br rfl (fun hc => absurd hc (nI_ge (show k < ho_K (C_to S) by omega) (by omega))) (fun _ => ?_)
    refine Ev_ca rfl (c_signsOf S T hL (by omega)) ?_
    refine Ev_ca rfl (c_isLetIn S T hL hB hsg hU) ?_
    have hb := bits_lt (fun k => leC S (sgC S k)) k
    have hp := pow_lt31 (n := k) (k := 30) (by omega) (by omega)
    cases hm : leC S (sgC S k) with
    | true =>
      refine Ev_br rfl (fun hc => absurd hc (show ¬ nI 1 = 0 by decide)) (fun _ => ?_)
      refine Ev_jpe rfl ?_ (c_letIn_loop hL hB hK hU d (k + 1) (by omega))
      rw [nI_shl1 (by omega), nI_or (by omega) (by omega), nI_add, bits_succ, hm]
      rfl
    | false =>
      refine Ev_br rfl (fun _ => ?_) (fun hc => absurd nI_0 hc)
      refine Ev_jpe rfl ?_ (c_letIn_loop hL hB hK hU d (k + 1) (by omega))
      rw [nI_add, bits_succ, hm, if_neg (by decide), Nat.or_zero]
      rfl
theorem c_letIn (hL : MoL (C_nw S)) (hB : MoB (C_nw S)) (hK : ho_K (C_to S) ≤ 5) (hU : ho_U (C_to S) ≤ 4) : Cl mX8_letIn [.ref 0] (hpC S ++ T) (some (.int (nI (bits (fun k => leC S (sgC S k)) (ho_K (C_to S)))))) (hpC S ++ T) :=
  a_run_ev 4 rfl (c_letIn_loop S T hL hB hK hU (ho_K (C_to S)) 0 (by omega))
abbrev riC (k : Nat) : Nat := gd (ho_R (C_to S)) k
theorem c_rightOnes_loop (hL : HoL (C_to S)) (hB : HoB (C_to S)) : ∀ (d k : Nat), k + d = ho_K (C_to S) → Ev [] mX8_rightOnes (4, [some (.ref 0), some (.int (nI (bits (fun k => riC S k == 1) k))), some (.int (nI k))], [], hpC S ++ T) (some (.int (nI (bits (fun k => riC S k == 1) (ho_K (C_to S)))))) (hpC S ++ T)
  | 0, k, h => by
    have hK := hB.2.2.2.2.2.2.1
    have e : k = ho_K (C_to S) := by omega
    subst e
    refine Ev_br rfl (fun _ => Ev_rt rfl rfl rfl rfl) (fun hc => ?_)
    exact absurd (nI_le (Nat.le_refl _) (by omega)) hc
  | d + 1, k, h => by
    have hK := hB.2.2.2.2.2.2.1
    have hr : riC S k < 2 := hB.2.1 k
    have hl := hL.2.1
    refine Ev_br rfl (fun hc => absurd hc (nI_ge (show k < ho_K (C_to S) by omega) (by omega))) (fun _ => ?_)
    refine Ev_ca rfl (c_at _ 9 (ho_R (C_to S)) k rfl (by omega) (by omega)) ?_
    have hb := bits_lt (fun k => riC S k == 1) k
    have hp := pow_lt31 (n := k) (k := 30) (by omega) (by omega)
    refine Ev_br rfl (fun hc => ?_) (fun hc => ?_)
    · have hc : ¬ nI (riC S k) = nI 1 := hc
      rw [nI_eq (by omega) (by decide)] at hc
      refine Ev_jpe rfl ?_ (c_rightOnes_loop hL hB d (k + 1) (by omega))
      rw [nI_add, bits_succ, if_neg (by rw [beq_iff_eq]; exact hc), Nat.or_zero]
      rfl
    · have hc : ¬ ¬ nI (riC S k) = nI 1 := hc
      rw [nI_eq (by omega) (by decide), Decidable.not_not] at hc
      refine Ev_jpe rfl ?_ (c_rightOnes_loop hL hB d (k + 1) (by omega))
      rw [nI_shl1 (by omega), nI_or (by omega) (by omega), nI_add, bits_succ, if_pos (by rw [beq_iff_eq]; exact hc)]
      rfl
theorem c_rightOnes (hL : HoL (C_to S)) (hB : HoB (C_to S)) : Cl mX8_rightOnes [.ref 0] (hpC S ++ T) (some (.int (nI (bits (fun k => riC S k == 1) (ho_K (C_to S)))))) (hpC S ++ T) :=
  a_run_ev 4 rfl (c_rightOnes_loop S T hL hB (ho_K (C_to S)) 0 (by omega))
/-- all SIGNS of the first n RULES -/
def ors (f : Nat → Nat) : Nat → Nat
  | 0 => 0
  | n + 1 => ors f n ||| f n
theorem ors_lt {f : Nat → Nat} (h : ∀ i, f i < 256) : ∀ n, ors f n < 256
  | 0 => by
    show 0 < 256
    decide
  | n + 1 => Nat.or_lt_two_pow (n := 8) (ors_lt h n) (h n)
theorem ors_congr {f g : Nat → Nat} : ∀ n, (∀ i, i < n → f i = g i) → ors f n = ors g n
  | 0, _ => rfl
  | n + 1, h => by
    show ors f n ||| f n = ors g n ||| g n
    rw [ors_congr n (fun i hi => h i (Nat.lt_succ_of_lt hi)), h n (Nat.lt_succ_self n)]
theorem c_signsOfRules_loop (hL : MoL (C_nw S)) (hB : MoB (C_nw S)) (hU : ho_U (C_to S) ≤ 4) : ∀ (d i : Nat), i + d = ho_U (C_to S) → Ev [] mX8_signsOfRules (4, [some (.ref 0), some (.int (nI (ors (seC S) i))), some (.int (nI i))], [], hpC S ++ T) (some (.int (nI (ors (seC S) (ho_U (C_to S)))))) (hpC S ++ T)
  | 0, k, h => by
    have e : k = ho_U (C_to S) := by omega
    subst e
    refine Ev_br rfl (fun _ => Ev_rt rfl rfl rfl rfl) (fun hc => ?_)
    exact absurd (nI_le (Nat.le_refl _) (by omega)) hc
  | d + 1, k, h => by
    have hl := hL.2.2.1
    have hs : seC S k < 256 := hB.2.2.1 k
    have ho : ors (seC S) k < 256 := ors_lt (fun i => hB.2.2.1 i) k
    refine Ev_br rfl (fun hc => absurd hc (nI_ge (show k < ho_U (C_to S) by omega) (by omega))) (fun _ => ?_)
    refine Ev_ca rfl (c_at _ 31 (C_nw S).2.2.1 k rfl (by omega) (by omega)) ?_
    refine Ev_jpe rfl ?_ (c_signsOfRules_loop hL hB hU d (k + 1) (by omega))
    show (_, [_, some (Value.int (nI (ors (seC S) k) ||| nI (seC S k))), some (Value.int (nI k + nI 1))], _, _) = _
    rw [nI_or (by omega) (by omega), nI_add]
    rfl
theorem c_signsOfRules (hL : MoL (C_nw S)) (hB : MoB (C_nw S)) (hU : ho_U (C_to S) ≤ 4) : Cl mX8_signsOfRules [.ref 0] (hpC S ++ T) (some (.int (nI (ors (seC S) (ho_U (C_to S)))))) (hpC S ++ T) :=
  a_run_ev 4 rfl (c_signsOfRules_loop S T hL hB hU (ho_U (C_to S)) 0 (by omega))
end

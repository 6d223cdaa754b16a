/-! the TOKENS of a text; the class's split -/
theorem lexE_gt (c : Nat → Nat) (s : Nat) : s < lexE c s := by
  unfold lexE
  split
  · exact adv_ge _ (s + 1) rfl
  · split
    · exact adv_ge _ (s + 1) rfl
    · omega
theorem lexE_le (c : Nat → Nat) {s : Nat} (h : s < 300) : lexE c s ≤ 300 := by
  have h1 := adv_le (c := c) (P := lett) _ (s + 1) rfl
  have h2 := adv_le (c := c) (P := dig) _ (s + 1) rfl
  unfold lexE
  split
  · omega
  · split <;> omega
theorem lexE_dig {c : Nat → Nat} {s q : Nat} (hd : dig (c s) = true) (h1 : s ≤ q) (h2 : q < lexE c s) : dig (c q) = true := by
  have hl : lett (c s) = false := by
    have := dig_lt hd
    cases h : lett (c s) with
    | false => rfl
    | true => have := lett_lt h; omega
  unfold lexE at h2
  rw [hl, if_neg (by decide), if_pos hd] at h2
  by_cases hq : q = s
  · rw [hq]; exact hd
  · exact adv_in _ (s + 1) q rfl (by omega) h2
theorem lexE_let {c : Nat → Nat} {s q : Nat} (hd : lett (c s) = true) (h1 : s ≤ q) (h2 : q < lexE c s) : lett (c q) = true := by
  unfold lexE at h2
  rw [if_pos hd] at h2
  by_cases hq : q = s
  · rw [hq]; exact hd
  · exact adv_in _ (s + 1) q rfl (by omega) h2
def skp (c : Nat → Nat) (p : Nat) : Nat := adv c (fun x => decide (x = 32)) p
/-- where the i-th TOKEN starts -/
def st (c : Nat → Nat) : Nat → Nat
  | 0 => skp c 0
  | i + 1 => skp c (lexE c (st c i))
/-- the KIND of the i-th TOKEN -/
def tK (c : Nat → Nat) (i : Nat) : Nat := kiF c (st c i) (lexE c (st c i))
def tV (c : Nat → Nat) (i : Nat) : Option Nat := if tK c i = 3 then numV c (st c i) (lexE c (st c i)) else none
/-- a text: 300 bytes at the most -/
def txt (c : Nat → Nat) : Prop := (∀ q, c q < 257) ∧ ∀ q, 300 ≤ q → c q = 256
theorem kiF_0 {c : Nat → Nat} {s e : Nat} (h : kiF c s e ≠ 0) : c s ≠ 256 := by
  intro q
  unfold kiF at h
  rw [if_pos q] at h
  exact h rfl
theorem kiF_lt (c : Nat → Nat) (s e : Nat) : kiF c s e < 8 := by
  unfold kiF
  repeat' split
  all_goals decide
theorem skp_le {c : Nat → Nat} {p : Nat} (h : p ≤ 300) : skp c p ≤ 300 := by
  have := adv_le (c := c) (P := fun x => decide (x = 32)) _ p rfl
  unfold skp
  omega
theorem skp_ge (c : Nat → Nat) (p : Nat) : p ≤ skp c p := adv_ge _ p rfl
theorem st_lt {c : Nat → Nat} (ht : txt c) {i : Nat} (h : tK c i ≠ 0) : st c i < 300 := by
  have h1 := kiF_0 h
  by_cases h2 : st c i < 300
  · exact h2
  · exact absurd (ht.2 _ (by omega)) h1
theorem st_le {c : Nat → Nat} (ht : txt c) : ∀ i, (∀ j, j < i → tK c j ≠ 0) → st c i ≤ 300
  | 0, _ => skp_le (by decide)
  | i + 1, h => skp_le (lexE_le c (st_lt ht (h i (by omega))))
theorem st_ge (c : Nat → Nat) : ∀ i, i ≤ st c i
  | 0 => Nat.zero_le _
  | i + 1 => by
    have h1 := st_ge c i
    have h2 := lexE_gt c (st c i)
    have h3 := skp_ge c (lexE c (st c i))
    show i + 1 ≤ skp c (lexE c (st c i))
    omega
/-- the last TOKEN -/
def lastT (c : Nat → Nat) (m : Nat) : Prop := m ≤ 300 ∧ tK c m < 2 ∧ ∀ j, j < m → 2 ≤ tK c j
theorem lastT_from {c : Nat → Nat} (ht : txt c) : ∀ (d i : Nat), i + d = 301 → (∀ j, j < i → 2 ≤ tK c j) → ∃ m, lastT c m
  | 0, i, e, h => by
    have h1 := st_le ht i (fun j hj => by have := h j hj; omega)
    have h2 := st_ge c i
    omega
  | d + 1, i, e, h => by
    by_cases hk : tK c i < 2
    · exact ⟨i, by omega, hk, h⟩
    · refine lastT_from ht d (i + 1) (by omega) (fun j hj => ?_)
      by_cases hj2 : j = i
      · subst hj2; omega
      · exact h j (by omega)
theorem lastT_ex {c : Nat → Nat} (ht : txt c) : ∃ m, lastT c m := lastT_from ht 301 0 rfl (fun j hj => by omega)
theorem numV_some {c : Nat → Nat} {s e : Nat} (h : kiF c s e = 3) : ∃ v, numV c s e = some v := by
  unfold kiF at h
  split at h
  · cases h
  split at h
  · cases h
  split at h
  · split at h
    · rename_i h2
      exact Option.isSome_iff_exists.mp h2
    · cases h
  repeat' split at h
  all_goals cases h
theorem kiF_dig {c : Nat → Nat} {s e : Nat} (h : kiF c s e = 3) : dig (c s) = true := by
  unfold kiF at h
  split at h
  · cases h
  split at h
  · cases h
  split at h
  · rename_i h2
    exact h2
  repeat' split at h
  all_goals cases h
section
variable (S : cS) (T : aH)
def TR (c : Nat → Nat) (n : Nat) : Prop := ∀ j, j < n → gI (C_tk S) j = nI (tK c j) ∧ gI (C_ts S) j = nI (st c j) ∧ gI (C_tv S) j = nIo (tV c j)
def tkS (a b e : List Int32) : cS := Cs_tv (Cs_ts (Cs_tk S a) b) e
theorem chC_txt (hL : C_tl S ≤ 300) : txt (chC S) := ⟨chC_lt S, fun q hq => if_neg (by omega)⟩
theorem c_putTs (l : (C_ts S).length = 301) {j : Nat} {x : Int32} (hj : j < 301) : Cl mX8_put [.ref 16, .int (nI j), .int x] (hpC S ++ T) none (hpC (Cs_ts S ((C_ts S).set j x)) ++ T) := c_putI (hpC S ++ T) 16 (C_ts S) j x rfl (by omega) (by omega)
theorem c_putTk (l : (C_tk S).length = 301) {j : Nat} {x : Int32} (hj : j < 301) : Cl mX8_put [.ref 15, .int (nI j), .int x] (hpC S ++ T) none (hpC (Cs_tk S ((C_tk S).set j x)) ++ T) := c_putI (hpC S ++ T) 15 (C_tk S) j x rfl (by omega) (by omega)
theorem c_putTv (l : (C_tv S).length = 301) {j : Nat} {x : Int32} (hj : j < 301) : Cl mX8_put [.ref 17, .int (nI j), .int x] (hpC S ++ T) none (hpC (Cs_tv S ((C_tv S).set j x)) ++ T) := c_putI (hpC S ++ T) 17 (C_tv S) j x rfl (by omega) (by omega)
/-- behind the i-th TOKEN -/
def tokS (c : Nat → Nat) (i : Nat) : cS := Cs_tv (Cs_tk (Cs_ts S ((C_ts S).set i (nI (st c i)))) ((C_tk S).set i (nI (tK c i)))) ((C_tv S).set i (nIo (tV c i)))
def tl3 : Prop := (C_tk S).length = 301 ∧ (C_ts S).length = 301 ∧ (C_tv S).length = 301
theorem tokS_l3 {c : Nat → Nat} {i : Nat} (h : tl3 S) : tl3 (tokS S c i) := by
  refine ⟨?_, ?_, ?_⟩
  · show ((C_tk S).set i (nI (tK c i))).length = 301
    rw [List.length_set]; exact h.1
  · show ((C_ts S).set i (nI (st c i))).length = 301
    rw [List.length_set]; exact h.2.1
  · show ((C_tv S).set i (nIo (tV c i))).length = 301
    rw [List.length_set]; exact h.2.2
theorem tokS_TR {c : Nat → Nat} {i : Nat} (h : tl3 S) (hi : i < 301) (hT : TR S c i) : TR (tokS S c i) c (i + 1) := by
  intro j hj
  show gI ((C_tk S).set i (nI (tK c i))) j = _ ∧ gI ((C_ts S).set i (nI (st c i))) j = _ ∧ gI ((C_tv S).set i (nIo (tV c i))) j = _
  rw [gI_set, gI_set, gI_set, h.1, h.2.1, h.2.2]
  by_cases e : i = j
  · subst e
    rw [if_pos ⟨rfl, hi⟩, if_pos ⟨rfl, hi⟩, if_pos ⟨rfl, hi⟩]
    exact ⟨rfl, rfl, rfl⟩
  · rw [if_neg (fun q => e q.1), if_neg (fun q => e q.1), if_neg (fun q => e q.1)]
    exact hT j (by omega)
theorem c_split_tok {i p s : Nat} {z4 z5 z6 : Option Value} {v : Option Value} {h' : aH} (hl : (C_tb S).length = 300) (hL : C_tl S ≤ 300) (h3 : tl3 S) (hi : i < 301) (hp9 : p < 2 ^ 20) (hs : st (chC S) i = s) (hsk : skp (chC S) p = s) (hs9 : s ≤ 300) (kk : Ev [] mX6_split (82, [some (.ref 14), some (.ref 1), some (.int (nI p)), some (.int (nI i)), some (.int (nI s)), some (.int (nI (lexE (chC S) s))), some (.int (nI (tK (chC S) i)))], [], hpC (tokS S (chC S) i) ++ T) v h') : Ev [] mX6_split (4, [some (.ref 14), some (.ref 1), some (.int (nI p)), some (.int (nI i)), z4, z5, z6], [], hpC S ++ T) v h' := by
  have hgt := lexE_gt (chC S) s
  have he9 : lexE (chC S) s ≤ 301 := by
    have h1 := adv_le (c := chC S) (P := lett) _ (s + 1) rfl
    have h2 := adv_le (c := chC S) (P := dig) _ (s + 1) rfl
    unfold lexE
    split
    · omega
    · split <;> omega
  have hd2 : dig (chC S s) = true → lexE (chC S) s - s = 2 → dig (chC S (s + 1)) = true := fun q1 q2 => lexE_dig q1 (by omega) (by omega)
  have eK : tK (chC S) i = kiF (chC S) s (lexE (chC S) s) := by unfold tK; rw [hs]
  have eV : tV (chC S) i = if kiF (chC S) s (lexE (chC S) s) = 3 then numV (chC S) s (lexE (chC S) s) else none := by unfold tV; rw [eK, hs]
  have hk8 := kiF_lt (chC S) s (lexE (chC S) s)
  refine Ev_br rfl (fun hc => absurd hc (nI_nlt (show i ≤ 300 by omega) (by decide))) (fun _ => ?_)
  refine Ev_ca rfl (c_passBlanks S T hl hL hp9) ?_
  rw [show adv (chC S) (fun c => decide (c = 32)) p = s from hsk]
  refine Ev_ca rfl (c_endOf S T hl hL (s := s) (by omega)) ?_
  refine Ev_ca rfl (c_kindOf S T hl hL (s := s) (by omega) hgt (by omega) hd2) ?_
  refine Ev_ca rfl (c_putTs S T h3.2.1 hi) ?_
  refine Ev_ca rfl (c_putTk (Cs_ts S ((C_ts S).set i (nI s))) T h3.1 hi) ?_
  have fin : ∀ y : Int32, y = nIo (tV (chC S) i) → Ev [] mX6_split (79, [some (.ref 14), some (.ref 1), some (.int (nI p)), some (.int (nI i)), some (.int (nI s)), some (.int (nI (lexE (chC S) s))), some (.int (nI (kiF (chC S) s (lexE (chC S) s))))], [.int y, .int (nI i), .ref 17], hpC (Cs_tk (Cs_ts S ((C_ts S).set i (nI s))) ((C_tk S).set i (nI (kiF (chC S) s (lexE (chC S) s))))) ++ T) v h' := by
    intro y hy
    subst hy
    refine Ev_ca rfl (c_putTv (Cs_tk (Cs_ts S ((C_ts S).set i (nI s))) ((C_tk S).set i (nI (kiF (chC S) s (lexE (chC S) s))))) T h3.2.2 hi) ?_
    have kk2 := kk
    unfold tokS at kk2
    rw [hs, eK] at kk2
    exact kk2
  by_cases hk : kiF (chC S) s (lexE (chC S) s) = 3
  · refine Ev_br rfl (fun hc => ?_) (fun _ => ?_)
    · have hc : ¬ nI (kiF (chC S) s (lexE (chC S) s)) = nI 3 := hc
      rw [nI_eq (by omega) (by decide)] at hc
      exact absurd hk hc
    · have hdg := kiF_dig hk
      refine Ev_ca rfl (c_numberOf (Cs_tk (Cs_ts S ((C_ts S).set i (nI s))) ((C_tk S).set i (nI (kiF (chC S) s (lexE (chC S) s))))) T hl hL (s := s) (by omega) hgt (by omega) hdg (hd2 hdg)) ?_
      refine Ev_jp rfl ?_
      refine fin _ ?_
      rw [eV, if_pos hk]
      rfl
  · refine Ev_br rfl (fun _ => ?_) (fun hc => ?_)
    · refine a_run_ev 1 rfl ?_
      refine fin _ ?_
      rw [eV, if_neg hk]
      rfl
    · have hc : ¬ ¬ nI (kiF (chC S) s (lexE (chC S) s)) = nI 3 := hc
      rw [Decidable.not_not, nI_eq (by omega) (by decide)] at hc
      exact absurd hc hk
end
theorem c_split_loop {m : Nat} : ∀ (d i p : Nat) (S : cS) (z4 z5 z6 : Option Value), i + d = m → (C_tb S).length = 300 → C_tl S ≤ 300 → tl3 S → lastT (chC S) m → TR S (chC S) i → p < 2 ^ 20 → skp (chC S) p = st (chC S) i → ∃ a b e : List Int32, tl3 (tkS S a b e) ∧ TR (tkS S a b e) (chC S) (m + 1) ∧ ∀ T, Ev [] mX6_split (4, [some (.ref 14), some (.ref 1), some (.int (nI p)), some (.int (nI i)), z4, z5, z6], [], hpC S ++ T) none (hpC (tkS S a b e) ++ T)
  | 0, i, p, S, z4, z5, z6, he, hl, hL, h3, hm, hT, hp9, hsk => by
    have he : i = m := by omega
    subst he
    have hs9 := st_le (chC_txt S hL) i (fun j hj => by have := hm.2.2 j hj; omega)
    have hk2 := hm.2.1
    refine ⟨(C_tk S).set i (nI (tK (chC S) i)), (C_ts S).set i (nI (st (chC S) i)), (C_tv S).set i (nIo (tV (chC S) i)), tokS_l3 S h3, tokS_TR S h3 (by have := hm.1; omega) hT, fun T => ?_⟩
    refine c_split_tok S T hl hL h3 (by have := hm.1; omega) hp9 rfl hsk hs9 ?_
    refine Ev_br rfl (fun _ => Ev_rt rfl rfl rfl rfl) (fun hc => ?_)
    refine Ev_br rfl (fun hc2 => ?_) (fun _ => Ev_rt rfl rfl rfl rfl)
    have hc : ¬ nI (tK (chC S) i) = nI 0 := hc
    have hc2 : ¬ nI (tK (chC S) i) = nI 1 := hc2
    rw [nI_eq (by omega) (by decide)] at hc hc2
    omega
  | d + 1, i, p, S, z4, z5, z6, he, hl, hL, h3, hm, hT, hp9, hsk => by
    have hm3 := hm.1
    have hs9 := st_le (chC_txt S hL) i (fun j hj => by have := hm.2.2 j (by omega); omega)
    have hk2 := hm.2.2 i (by omega)
    have hst := st_lt (chC_txt S hL) (i := i) (by omega)
    have hle := lexE_le (chC S) hst
    have hk8 : tK (chC S) i < 8 := kiF_lt _ _ _
    obtain ⟨a, b, e, q1, q2, q3⟩ := c_split_loop d (i + 1) (lexE (chC S) (st (chC S) i)) (tokS S (chC S) i) (some (.int (nI (st (chC S) i)))) (some (.int (nI (lexE (chC S) (st (chC S) i))))) (some (.int (nI (tK (chC S) i)))) (by omega) hl hL (tokS_l3 S h3) hm (tokS_TR S h3 (by omega) hT) (by omega) rfl
    refine ⟨a, b, e, q1, q2, fun T => ?_⟩
    refine c_split_tok S T hl hL h3 (by omega) hp9 rfl hsk hs9 ?_
    refine Ev_br rfl (fun hc => ?_) (fun _ => ?_)
    · have hc : nI (tK (chC S) i) = nI 0 := hc
      rw [nI_eq (by omega) (by decide)] at hc
      omega
    refine Ev_br rfl (fun _ => ?_) (fun hc => ?_)
    · refine Ev_jpe rfl ?_ (q3 T)
      rw [nI_add]
      all_goals rfl
    · have hc : ¬ ¬ nI (tK (chC S) i) = nI 1 := hc
      rw [Decidable.not_not, nI_eq (by omega) (by decide)] at hc
      omega
theorem c_split_all {m : Nat} (S : cS) (hl : (C_tb S).length = 300) (hL : C_tl S ≤ 300) (h3 : tl3 S) (hm : lastT (chC S) m) : ∃ a b e : List Int32, tl3 (tkS S a b e) ∧ TR (tkS S a b e) (chC S) (m + 1) ∧ ∀ T, Cl mX6_split [.ref 14, .ref 1] (hpC S ++ T) none (hpC (tkS S a b e) ++ T) := by
  obtain ⟨a, b, e, q1, q2, q3⟩ := c_split_loop m 0 0 S none none none (by omega) hl hL h3 hm (fun j hj => by omega) (by decide) rfl
  exact ⟨a, b, e, q1, q2, fun T => a_run_ev 4 rfl (q3 T)⟩

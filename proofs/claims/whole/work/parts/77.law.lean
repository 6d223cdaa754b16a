/-! THE LAW: both at every call of the script -/
theorem and31_nat (z : Int32) : z &&& nI 31 = nI (z.toBitVec.toNat % 32) := by
  apply Int32.toBitVec_inj.mp
  apply BitVec.eq_of_toNat_eq
  rw [Int32.toBitVec_and, BitVec.toNat_and]
  show z.toBitVec.toNat &&& 31 = (BitVec.ofNat 32 (z.toBitVec.toNat % 32)).toNat
  have h := Nat.mod_lt z.toBitVec.toNat (show 0 < 32 by decide)
  rw [BitVec.toNat_ofNat, Nat.mod_eq_of_lt (show z.toBitVec.toNat % 32 < 2 ^ 32 by omega)]
  exact Nat.and_two_pow_sub_one_eq_mod z.toBitVec.toNat 5
/-- the loop's head -/
abbrev lwF (i : Nat) (S : cS) (M : mS) : aF := (18, [some (.float 20), some (.ref 0), some (.ref 104), some (.int (nI i))], [], hp S M)
/-- a script's number -/
abbrev sv (xs : List Int32) (i j : Nat) : Int32 := xs.getD (nI i + nI j).toNatClampNeg 0
section
variable {xs : List Int32} {i : Nat} {S : cS} {M : mS} {v : Option Value} {h' : aH}
theorem law_end (kk : Ev xs mL_law (lwF (i + 4) S M) v h') : Ev xs mL_law (882, [some (.float 20), some (.ref 0), some (.ref 104), some (.int (nI i))], [], hp S M) v h' := by
  refine Ev_jpe rfl ?_ kk
  rw [nI_add]
  all_goals rfl
/-- what one call comes to -/
def lwG (xs : List Int32) (i : Nat) (S : cS) (M : mS) (t : Nat) : Prop := ∃ S' M', Inv S' M' ∧ ∀ (v : Option Value) (h' : aH), Ev xs mL_law (lwF (i + 4) S' M') v h' → Ev xs mL_law (t, [some (.float 20), some (.ref 0), some (.ref 104), some (.int (nI i))], [], hp S M) v h'
theorem law_type (h : Inv S M) (h3 : ∀ j, j < 4 → a_in (nI i + nI j) xs.length = true) : lwG xs i S M 152 := by
  obtain ⟨x, S', M', hx, hI, C8, C9⟩ := j_type h (((sv xs i 1).toInt64 <<< ((nI 32).toInt64 &&& 63)) ||| ((sv xs i 2).toInt64 &&& a_kl 4294967295)) (sv xs i 3)
  cases x with
  | int y =>
    refine ⟨S', M', hI, fun v h' kk => ?_⟩
    refine Ev_ck rfl (h3 1 (by decide)) ?_
    refine Ev_ck rfl (h3 2 (by decide)) ?_
    refine Ev_ck rfl (h3 3 (by decide)) ?_
    refine Ev_ca rfl C8 ?_
    refine Ev_ck rfl (h3 1 (by decide)) ?_
    refine Ev_ck rfl (h3 2 (by decide)) ?_
    refine Ev_ck rfl (h3 3 (by decide)) ?_
    refine Ev_ca rfl C9 ?_
    exact Ev_br rfl (fun _ => law_end kk) (fun q => absurd rfl q)
  | _ => exact (Bool.false_ne_true hx).elim
theorem law_clear (h : Inv S M) (h3 : ∀ j, j < 4 → a_in (nI i + nI j) xs.length = true) : lwG xs i S M 215 := by
  obtain ⟨x, S', M', hx, hI, C8, C9⟩ := j_clear h
  cases x with
  | int y =>
    refine ⟨S', M', hI, fun v h' kk => ?_⟩
    refine Ev_ca rfl C8 ?_
    refine Ev_ca rfl C9 ?_
    exact Ev_br rfl (fun _ => law_end kk) (fun q => absurd rfl q)
  | _ => exact (Bool.false_ne_true hx).elim
theorem law_house (h : Inv S M) (h3 : ∀ j, j < 4 → a_in (nI i + nI j) xs.length = true) : lwG xs i S M 228 := by
  obtain ⟨x, S', M', hx, hI, C8, C9⟩ := j_house h
  cases x with
  | int y =>
    refine ⟨S', M', hI, fun v h' kk => ?_⟩
    refine Ev_ca rfl C8 ?_
    refine Ev_ca rfl C9 ?_
    exact Ev_br rfl (fun _ => law_end kk) (fun q => absurd rfl q)
  | _ => exact (Bool.false_ne_true hx).elim
theorem law_knocker (h : Inv S M) (h3 : ∀ j, j < 4 → a_in (nI i + nI j) xs.length = true) : lwG xs i S M 241 := by
  obtain ⟨x, S', M', hx, hI, C8, C9⟩ := j_knocker h (sv xs i 1) (sv xs i 2)
  cases x with
  | int y =>
    refine ⟨S', M', hI, fun v h' kk => ?_⟩
    refine Ev_ck rfl (h3 1 (by decide)) ?_
    refine Ev_ck rfl (h3 2 (by decide)) ?_
    refine Ev_ca rfl C8 ?_
    refine Ev_ck rfl (h3 1 (by decide)) ?_
    refine Ev_ck rfl (h3 2 (by decide)) ?_
    refine Ev_ca rfl C9 ?_
    exact Ev_br rfl (fun _ => law_end kk) (fun q => absurd rfl q)
  | _ => exact (Bool.false_ne_true hx).elim
theorem law_errand (h : Inv S M) (h3 : ∀ j, j < 4 → a_in (nI i + nI j) xs.length = true) : lwG xs i S M 274 := by
  obtain ⟨x, S', M', hx, hI, C8, C9⟩ := j_errand h (sv xs i 1) (sv xs i 2)
  cases x with
  | int y =>
    refine ⟨S', M', hI, fun v h' kk => ?_⟩
    refine Ev_ck rfl (h3 1 (by decide)) ?_
    refine Ev_ck rfl (h3 2 (by decide)) ?_
    refine Ev_ca rfl C8 ?_
    refine Ev_ck rfl (h3 1 (by decide)) ?_
    refine Ev_ck rfl (h3 2 (by decide)) ?_
    refine Ev_ca rfl C9 ?_
    exact Ev_br rfl (fun _ => law_end kk) (fun q => absurd rfl q)
  | _ => exact (Bool.false_ne_true hx).elim
theorem law_rule (h : Inv S M) (h3 : ∀ j, j < 4 → a_in (nI i + nI j) xs.length = true) : lwG xs i S M 307 := by
  obtain ⟨x, S', M', hx, hI, C8, C9⟩ := j_rule h (sv xs i 1) (sv xs i 2)
  cases x with
  | int y =>
    refine ⟨S', M', hI, fun v h' kk => ?_⟩
    refine Ev_ck rfl (h3 1 (by decide)) ?_
    refine Ev_ck rfl (h3 2 (by decide)) ?_
    refine Ev_ca rfl C8 ?_
    refine Ev_ck rfl (h3 1 (by decide)) ?_
    refine Ev_ck rfl (h3 2 (by decide)) ?_
    refine Ev_ca rfl C9 ?_
    exact Ev_br rfl (fun _ => law_end kk) (fun q => absurd rfl q)
  | _ => exact (Bool.false_ne_true hx).elim
theorem law_runs (h : Inv S M) (h3 : ∀ j, j < 4 → a_in (nI i + nI j) xs.length = true) : lwG xs i S M 340 := by
  obtain ⟨x, S', M', hx, hI, C8, C9⟩ := j_runs h (sv xs i 1) (sv xs i 2)
  cases x with
  | int y =>
    refine ⟨S', M', hI, fun v h' kk => ?_⟩
    refine Ev_ck rfl (h3 1 (by decide)) ?_
    refine Ev_ck rfl (h3 2 (by decide)) ?_
    refine Ev_ca rfl C8 ?_
    refine Ev_ck rfl (h3 1 (by decide)) ?_
    refine Ev_ck rfl (h3 2 (by decide)) ?_
    refine Ev_ca rfl C9 ?_
    exact Ev_br rfl (fun _ => law_end kk) (fun q => absurd rfl q)
  | _ => exact (Bool.false_ne_true hx).elim
theorem law_knocks (h : Inv S M) (h3 : ∀ j, j < 4 → a_in (nI i + nI j) xs.length = true) : lwG xs i S M 373 := by
  obtain ⟨x, S', M', hx, hI, C8, C9⟩ := j_knocks h (sv xs i 1) (sv xs i 2)
  cases x with
  | int y =>
    refine ⟨S', M', hI, fun v h' kk => ?_⟩
    refine Ev_ck rfl (h3 1 (by decide)) ?_
    refine Ev_ck rfl (h3 2 (by decide)) ?_
    refine Ev_ca rfl C8 ?_
    refine Ev_ck rfl (h3 1 (by decide)) ?_
    refine Ev_ck rfl (h3 2 (by decide)) ?_
    refine Ev_ca rfl C9 ?_
    exact Ev_br rfl (fun _ => law_end kk) (fun q => absurd rfl q)
  | _ => exact (Bool.false_ne_true hx).elim
theorem law_hoarse (h : Inv S M) (h3 : ∀ j, j < 4 → a_in (nI i + nI j) xs.length = true) : lwG xs i S M 406 := by
  obtain ⟨x, S', M', hx, hI, C8, C9⟩ := j_hoarse h (sv xs i 1) (sv xs i 2)
  cases x with
  | int y =>
    refine ⟨S', M', hI, fun v h' kk => ?_⟩
    refine Ev_ck rfl (h3 1 (by decide)) ?_
    refine Ev_ck rfl (h3 2 (by decide)) ?_
    refine Ev_ca rfl C8 ?_
    refine Ev_ck rfl (h3 1 (by decide)) ?_
    refine Ev_ck rfl (h3 2 (by decide)) ?_
    refine Ev_ca rfl C9 ?_
    exact Ev_br rfl (fun _ => law_end kk) (fun q => absurd rfl q)
  | _ => exact (Bool.false_ne_true hx).elim
theorem law_change (h : Inv S M) (h3 : ∀ j, j < 4 → a_in (nI i + nI j) xs.length = true) : lwG xs i S M 439 := by
  obtain ⟨x, S', M', hx, hI, C8, C9⟩ := j_change h (sv xs i 1) (sv xs i 2) (sv xs i 3)
  cases x with
  | int y =>
    refine ⟨S', M', hI, fun v h' kk => ?_⟩
    refine Ev_ck rfl (h3 1 (by decide)) ?_
    refine Ev_ck rfl (h3 2 (by decide)) ?_
    refine Ev_ck rfl (h3 3 (by decide)) ?_
    refine Ev_ca rfl C8 ?_
    refine Ev_ck rfl (h3 1 (by decide)) ?_
    refine Ev_ck rfl (h3 2 (by decide)) ?_
    refine Ev_ck rfl (h3 3 (by decide)) ?_
    refine Ev_ca rfl C9 ?_
    exact Ev_br rfl (fun _ => law_end kk) (fun q => absurd rfl q)
  | _ => exact (Bool.false_ne_true hx).elim
theorem law_undo (h : Inv S M) (h3 : ∀ j, j < 4 → a_in (nI i + nI j) xs.length = true) : lwG xs i S M 482 := by
  obtain ⟨x, S', M', hx, hI, C8, C9⟩ := j_undo h
  cases x with
  | int y =>
    refine ⟨S', M', hI, fun v h' kk => ?_⟩
    refine Ev_ca rfl C8 ?_
    refine Ev_ca rfl C9 ?_
    exact Ev_br rfl (fun _ => law_end kk) (fun q => absurd rfl q)
  | _ => exact (Bool.false_ne_true hx).elim
theorem law_now (h : Inv S M) (h3 : ∀ j, j < 4 → a_in (nI i + nI j) xs.length = true) : lwG xs i S M 495 := by
  obtain ⟨x, S', M', hx, hI, C8, C9⟩ := j_now h (sv xs i 1)
  cases x with
  | int y =>
    refine ⟨S', M', hI, fun v h' kk => ?_⟩
    refine Ev_ck rfl (h3 1 (by decide)) ?_
    refine Ev_ca rfl C8 ?_
    refine Ev_ck rfl (h3 1 (by decide)) ?_
    refine Ev_ca rfl C9 ?_
    exact Ev_br rfl (fun _ => law_end kk) (fun q => absurd rfl q)
  | _ => exact (Bool.false_ne_true hx).elim
theorem law_soonest (h : Inv S M) (h3 : ∀ j, j < 4 → a_in (nI i + nI j) xs.length = true) : lwG xs i S M 518 := by
  obtain ⟨x, S', M', hx, hI, C8, C9⟩ := j_soonest h (sv xs i 1) (sv xs i 2)
  cases x with
  | int y =>
    refine ⟨S', M', hI, fun v h' kk => ?_⟩
    refine Ev_ck rfl (h3 1 (by decide)) ?_
    refine Ev_ck rfl (h3 2 (by decide)) ?_
    refine Ev_ca rfl C8 ?_
    refine Ev_ck rfl (h3 1 (by decide)) ?_
    refine Ev_ck rfl (h3 2 (by decide)) ?_
    refine Ev_ca rfl C9 ?_
    exact Ev_br rfl (fun _ => law_end kk) (fun q => absurd rfl q)
  | _ => exact (Bool.false_ne_true hx).elim
theorem law_bar (h : Inv S M) (h3 : ∀ j, j < 4 → a_in (nI i + nI j) xs.length = true) : lwG xs i S M 551 := by
  obtain ⟨x, S', M', hx, hI, C8, C9⟩ := j_bar h (sv xs i 1) (sv xs i 2)
  cases x with
  | int y =>
    refine ⟨S', M', hI, fun v h' kk => ?_⟩
    refine Ev_ck rfl (h3 1 (by decide)) ?_
    refine Ev_ck rfl (h3 2 (by decide)) ?_
    refine Ev_ca rfl C8 ?_
    refine Ev_ck rfl (h3 1 (by decide)) ?_
    refine Ev_ck rfl (h3 2 (by decide)) ?_
    refine Ev_ca rfl C9 ?_
    exact Ev_br rfl (fun _ => law_end kk) (fun q => absurd rfl q)
  | _ => exact (Bool.false_ne_true hx).elim
theorem law_ask (h : Inv S M) (h3 : ∀ j, j < 4 → a_in (nI i + nI j) xs.length = true) : lwG xs i S M 584 := by
  obtain ⟨x, S', M', hx, hI, C8, C9⟩ := j_ask h (sv xs i 1)
  cases x with
  | int y =>
    refine ⟨S', M', hI, fun v h' kk => ?_⟩
    refine Ev_ck rfl (h3 1 (by decide)) ?_
    refine Ev_ca rfl C8 ?_
    refine Ev_ck rfl (h3 1 (by decide)) ?_
    refine Ev_ca rfl C9 ?_
    exact Ev_br rfl (fun _ => law_end kk) (fun q => absurd rfl q)
  | _ => exact (Bool.false_ne_true hx).elim
theorem law_safe (h : Inv S M) (h3 : ∀ j, j < 4 → a_in (nI i + nI j) xs.length = true) : lwG xs i S M 607 := by
  obtain ⟨x, S', M', hx, hI, C8, C9⟩ := j_safe h (sv xs i 1) (sv xs i 2)
  cases x with
  | int y =>
    refine ⟨S', M', hI, fun v h' kk => ?_⟩
    refine Ev_ck rfl (h3 1 (by decide)) ?_
    refine Ev_ck rfl (h3 2 (by decide)) ?_
    refine Ev_ca rfl C8 ?_
    refine Ev_ck rfl (h3 1 (by decide)) ?_
    refine Ev_ck rfl (h3 2 (by decide)) ?_
    refine Ev_ca rfl C9 ?_
    exact Ev_br rfl (fun _ => law_end kk) (fun q => absurd rfl q)
  | _ => exact (Bool.false_ne_true hx).elim
theorem law_odds (h : Inv S M) (h3 : ∀ j, j < 4 → a_in (nI i + nI j) xs.length = true) : lwG xs i S M 640 := by
  obtain ⟨x, S', M', hx, hI, C8, C9⟩ := j_odds h (sv xs i 1) (sv xs i 2) (sv xs i 3)
  cases x with
  | long y =>
    refine ⟨S', M', hI, fun v h' kk => ?_⟩
    refine Ev_ck rfl (h3 1 (by decide)) ?_
    refine Ev_ck rfl (h3 2 (by decide)) ?_
    refine Ev_ck rfl (h3 3 (by decide)) ?_
    refine Ev_ca rfl C8 ?_
    refine Ev_ck rfl (h3 1 (by decide)) ?_
    refine Ev_ck rfl (h3 2 (by decide)) ?_
    refine Ev_ck rfl (h3 3 (by decide)) ?_
    refine Ev_ca rfl C9 ?_
    exact Ev_br rfl (fun _ => law_end kk) (fun q => absurd (lg_cmpE.mpr rfl) q)
  | _ => exact (Bool.false_ne_true hx).elim
theorem law_shown (h : Inv S M) (h3 : ∀ j, j < 4 → a_in (nI i + nI j) xs.length = true) : lwG xs i S M 684 := by
  obtain ⟨x, S', M', hx, hI, C8, C9⟩ := j_shown h (sv xs i 1) (sv xs i 2)
  cases x with
  | int y =>
    refine ⟨S', M', hI, fun v h' kk => ?_⟩
    refine Ev_ck rfl (h3 1 (by decide)) ?_
    refine Ev_ck rfl (h3 2 (by decide)) ?_
    refine Ev_ca rfl C8 ?_
    refine Ev_ck rfl (h3 1 (by decide)) ?_
    refine Ev_ck rfl (h3 2 (by decide)) ?_
    refine Ev_ca rfl C9 ?_
    exact Ev_br rfl (fun _ => law_end kk) (fun q => absurd rfl q)
  | _ => exact (Bool.false_ne_true hx).elim
theorem law_forget (h : Inv S M) (h3 : ∀ j, j < 4 → a_in (nI i + nI j) xs.length = true) : lwG xs i S M 717 := by
  obtain ⟨x, S', M', hx, hI, C8, C9⟩ := j_forget h
  cases x with
  | int y =>
    refine ⟨S', M', hI, fun v h' kk => ?_⟩
    refine Ev_ca rfl C8 ?_
    refine Ev_ca rfl C9 ?_
    exact Ev_br rfl (fun _ => law_end kk) (fun q => absurd rfl q)
  | _ => exact (Bool.false_ne_true hx).elim
theorem law_who (h : Inv S M) (h3 : ∀ j, j < 4 → a_in (nI i + nI j) xs.length = true) : lwG xs i S M 730 := by
  obtain ⟨x, S', M', hx, hI, C8, C9⟩ := j_who h
  cases x with
  | int y =>
    refine ⟨S', M', hI, fun v h' kk => ?_⟩
    refine Ev_ca rfl C8 ?_
    refine Ev_ca rfl C9 ?_
    exact Ev_br rfl (fun _ => law_end kk) (fun q => absurd rfl q)
  | _ => exact (Bool.false_ne_true hx).elim
theorem law_tell (h : Inv S M) (h3 : ∀ j, j < 4 → a_in (nI i + nI j) xs.length = true) : lwG xs i S M 743 := by
  obtain ⟨x, S', M', hx, hI, C8, C9⟩ := j_tell h (sv xs i 1)
  cases x with
  | int y =>
    refine ⟨S', M', hI, fun v h' kk => ?_⟩
    refine Ev_ck rfl (h3 1 (by decide)) ?_
    refine Ev_ca rfl C8 ?_
    refine Ev_ck rfl (h3 1 (by decide)) ?_
    refine Ev_ca rfl C9 ?_
    exact Ev_br rfl (fun _ => law_end kk) (fun q => absurd rfl q)
  | _ => exact (Bool.false_ne_true hx).elim
theorem law_rate (h : Inv S M) (h3 : ∀ j, j < 4 → a_in (nI i + nI j) xs.length = true) : lwG xs i S M 766 := by
  obtain ⟨x, S', M', hx, hI, C8, C9⟩ := j_rate h (sv xs i 1) (sv xs i 2)
  cases x with
  | int y =>
    refine ⟨S', M', hI, fun v h' kk => ?_⟩
    refine Ev_ck rfl (h3 1 (by decide)) ?_
    refine Ev_ck rfl (h3 2 (by decide)) ?_
    refine Ev_ca rfl C8 ?_
    refine Ev_ck rfl (h3 1 (by decide)) ?_
    refine Ev_ck rfl (h3 2 (by decide)) ?_
    refine Ev_ca rfl C9 ?_
    exact Ev_br rfl (fun _ => law_end kk) (fun q => absurd rfl q)
  | _ => exact (Bool.false_ne_true hx).elim
theorem law_keep (h : Inv S M) (h3 : ∀ j, j < 4 → a_in (nI i + nI j) xs.length = true) : lwG xs i S M 799 := by
  obtain ⟨x, S', M', hx, hI, C8, C9⟩ := j_keep h (sv xs i 1)
  cases x with
  | int y =>
    refine ⟨S', M', hI, fun v h' kk => ?_⟩
    refine Ev_ck rfl (h3 1 (by decide)) ?_
    refine Ev_ca rfl C8 ?_
    refine Ev_ck rfl (h3 1 (by decide)) ?_
    refine Ev_ca rfl C9 ?_
    exact Ev_br rfl (fun _ => law_end kk) (fun q => absurd rfl q)
  | _ => exact (Bool.false_ne_true hx).elim
theorem law_back (h : Inv S M) (h3 : ∀ j, j < 4 → a_in (nI i + nI j) xs.length = true) : lwG xs i S M 822 := by
  obtain ⟨x, S', M', hx, hI, C8, C9⟩ := j_back h (sv xs i 1)
  cases x with
  | int y =>
    refine ⟨S', M', hI, fun v h' kk => ?_⟩
    refine Ev_ck rfl (h3 1 (by decide)) ?_
    refine Ev_ca rfl C8 ?_
    refine Ev_ck rfl (h3 1 (by decide)) ?_
    refine Ev_ca rfl C9 ?_
    exact Ev_br rfl (fun _ => law_end kk) (fun q => absurd rfl q)
  | _ => exact (Bool.false_ne_true hx).elim
theorem law_count (h : Inv S M) (h3 : ∀ j, j < 4 → a_in (nI i + nI j) xs.length = true) : lwG xs i S M 845 := by
  obtain ⟨x, S', M', hx, hI, C8, C9⟩ := j_count h (sv xs i 1)
  cases x with
  | int y =>
    refine ⟨S', M', hI, fun v h' kk => ?_⟩
    refine Ev_ck rfl (h3 1 (by decide)) ?_
    refine Ev_ca rfl C8 ?_
    refine Ev_ck rfl (h3 1 (by decide)) ?_
    refine Ev_ca rfl C9 ?_
    exact Ev_br rfl (fun _ => law_end kk) (fun q => absurd rfl q)
  | _ => exact (Bool.false_ne_true hx).elim
theorem law_trace (h : Inv S M) (h3 : ∀ j, j < 4 → a_in (nI i + nI j) xs.length = true) : lwG xs i S M 868 := by
  obtain ⟨x, S', M', hx, hI, C8, C9⟩ := j_trace h
  cases x with
  | long y =>
    refine ⟨S', M', hI, fun v h' kk => ?_⟩
    refine Ev_ca rfl C8 ?_
    refine Ev_ca rfl C9 ?_
    exact Ev_br rfl (fun _ => law_end kk) (fun q => absurd (lg_cmpE.mpr rfl) q)
  | _ => exact (Bool.false_ne_true hx).elim
theorem law_step (h : Inv S M) (hl : xs.length ≤ 256) (hi : i + 4 ≤ xs.length) : lwG xs i S M 26 := by
  have h3 : ∀ j, j < 4 → a_in (nI i + nI j) xs.length = true := fun j hj => by
    rw [nI_add]
    exact a_inN (by omega) (by omega)
  have h0 : a_in (nI i) xs.length = true := a_inN (by omega) (by omega)
  have go : ∀ (n t : Nat), n = (xs.getD (nI i).toNatClampNeg 0).toBitVec.toNat % 32 → (if (nI n).toInt < 0 ∨ 25 < (nI n).toInt then some 850 else (#[120, 183, 196, 209, 242, 275, 308, 341, 374, 407, 450, 463, 486, 519, 552, 575, 608, 652, 685, 698, 711, 734, 767, 790, 813, 836] : Array Int)[((nI n).toInt - 0).toNat]?) = some ((t : Int) - (32 : Nat)) → lwG xs i S M t → lwG xs i S M 26 := by
    intro n t hn ht hg
    obtain ⟨S', M', hI, hk⟩ := hg
    refine ⟨S', M', hI, fun v h' kk => ?_⟩
    refine Ev_ck rfl h0 ?_
    refine a_run_ev 2 rfl ?_
    refine Ev_eq (c' := (32, [some (.float 20), some (.ref 0), some (.ref 104), some (.int (nI i))], [.int (nI n)], hp S M)) ?_ ?_
    · rw [hn, ← and31_nat]
      all_goals rfl
    · exact Ev_sw rfl t ht (hk v h' kk)
  have hn32 := Nat.mod_lt (xs.getD (nI i).toNatClampNeg 0).toBitVec.toNat (show 0 < 32 by decide)
  generalize hn : (xs.getD (nI i).toNatClampNeg 0).toBitVec.toNat % 32 = n at go hn32
  by_cases h26 : 26 ≤ n
  · refine go n 882 rfl ?_ ⟨S, M, h, fun v h' kk => law_end kk⟩
    rw [if_pos (Or.inr (by rw [nI_toInt (by omega)]; omega))]
    rfl
  match n, h26 with
  | 0, _ => exact go 0 152 rfl (by decide) (law_type h h3)
  | 1, _ => exact go 1 215 rfl (by decide) (law_clear h h3)
  | 2, _ => exact go 2 228 rfl (by decide) (law_house h h3)
  | 3, _ => exact go 3 241 rfl (by decide) (law_knocker h h3)
  | 4, _ => exact go 4 274 rfl (by decide) (law_errand h h3)
  | 5, _ => exact go 5 307 rfl (by decide) (law_rule h h3)
  | 6, _ => exact go 6 340 rfl (by decide) (law_runs h h3)
  | 7, _ => exact go 7 373 rfl (by decide) (law_knocks h h3)
  | 8, _ => exact go 8 406 rfl (by decide) (law_hoarse h h3)
  | 9, _ => exact go 9 439 rfl (by decide) (law_change h h3)
  | 10, _ => exact go 10 482 rfl (by decide) (law_undo h h3)
  | 11, _ => exact go 11 495 rfl (by decide) (law_now h h3)
  | 12, _ => exact go 12 518 rfl (by decide) (law_soonest h h3)
  | 13, _ => exact go 13 551 rfl (by decide) (law_bar h h3)
  | 14, _ => exact go 14 584 rfl (by decide) (law_ask h h3)
  | 15, _ => exact go 15 607 rfl (by decide) (law_safe h h3)
  | 16, _ => exact go 16 640 rfl (by decide) (law_odds h h3)
  | 17, _ => exact go 17 684 rfl (by decide) (law_shown h h3)
  | 18, _ => exact go 18 717 rfl (by decide) (law_forget h h3)
  | 19, _ => exact go 19 730 rfl (by decide) (law_who h h3)
  | 20, _ => exact go 20 743 rfl (by decide) (law_tell h h3)
  | 21, _ => exact go 21 766 rfl (by decide) (law_rate h h3)
  | 22, _ => exact go 22 799 rfl (by decide) (law_keep h h3)
  | 23, _ => exact go 23 822 rfl (by decide) (law_back h h3)
  | 24, _ => exact go 24 845 rfl (by decide) (law_count h h3)
  | 25, _ => exact go 25 868 rfl (by decide) (law_trace h h3)
  | n + 26, h26 => exact absurd (by omega) h26
theorem law_loop (hl : xs.length ≤ 256) : ∀ (d i : Nat) (S : cS) (M : mS), xs.length + 4 - i ≤ d → i ≤ 300 → Inv S M → ∃ S' M', Inv S' M' ∧ Ev xs mL_law (lwF i S M) (some (.int (nI 1))) (hp S' M')
  | d, i, S, M, hd, hi3, h => by
    have hsub : (nI xs.length - nI 4).toInt = (xs.length : Int) - 4 := pk_sub_toInt (by omega) (by decide)
    have hcond : nI xs.length - nI 4 < nI i ↔ xs.length < i + 4 := by
      rw [Int32.lt_iff_toInt_lt, hsub, nI_toInt (by omega)]
      omega
    by_cases hi : i + 4 ≤ xs.length
    · obtain ⟨S1, M1, h1, k1⟩ := law_step h hl hi
      match d, hd with
      | 0, hd => omega
      | d + 1, hd =>
        obtain ⟨S2, M2, h2, k2⟩ := law_loop hl d (i + 4) S1 M1 (by omega) (by omega) h1
        refine ⟨S2, M2, h2, ?_⟩
        refine Ev_ck rfl rfl ?_
        refine Ev_br rfl (fun q => ?_) (fun _ => k1 _ _ k2)
        have := hcond.mp q
        omega
    · refine ⟨S, M, h, ?_⟩
      refine Ev_ck rfl rfl ?_
      refine Ev_br rfl (fun _ => Ev_rt rfl rfl rfl rfl) (fun q => ?_)
      exact absurd (hcond.mpr (by omega)) q
end
-- both at first
theorem gd_rep (n i : Nat) : gd (List.replicate n 0) i = 0 := by
  unfold gd
  rw [List.getD_eq_getElem?_getD, List.getElem?_replicate]
  split <;> rfl
theorem MoL_0 : MoL Mo0 := ⟨rfl, rfl, rfl, rfl⟩
theorem MoB_0 : MoB Mo0 := ⟨fun i => by show gd (List.replicate 5 0) i < 256; rw [gd_rep]; decide, fun i => by show gd (List.replicate 5 0) i < 100; rw [gd_rep]; decide, fun i => by show gd (List.replicate 4 0) i < 256; rw [gd_rep]; decide, fun i => by show gd (List.replicate 4 0) i < 9; rw [gd_rep]; decide⟩
theorem HoL_0 : HoL Ho0 := ⟨MoL_0, rfl, rfl, rfl, rfl⟩
theorem HoB_0 : HoB Ho0 := ⟨MoB_0, fun i => by show gd (List.replicate 5 0) i < 2; rw [gd_rep]; decide, fun i => by show gd (List.replicate 6 0) i < 8; rw [gd_rep]; decide, fun i => by show gd (List.replicate 6 0) i < 10; rw [gd_rep]; decide, fun i => by show gd (List.replicate 6 0) i < 10; rw [gd_rep]; decide, (by decide), (by decide), (by decide), (by decide)⟩
set_option maxRecDepth 100000 in
theorem CW_0 : CW S0 := ⟨⟨rfl, (by decide), rfl, rfl, rfl⟩, ⟨HoL_0, HoB_0, HoL_0, HoB_0, fun i => gd_rep 5 i⟩, ⟨MoL_0, MoB_0, fun _ => ⟨MoL_0, MoB_0⟩, fun _ => ⟨MoL_0, MoB_0⟩⟩, ⟨(by decide), (by decide), (by decide)⟩, ⟨rfl, rfl, rfl⟩, ⟨rfl, rfl, (by decide), fun i => by show gd (List.replicate 6 0) i < 8; rw [gd_rep]; decide, fun i => by show gd (List.replicate 6 0) i < 2; rw [gd_rep]; decide⟩⟩
set_option maxRecDepth 100000 in
theorem MW_0 : MW M0 := by
  refine ⟨⟨rfl, rfl, rfl, rfl, rfl, rfl, rfl, rfl, rfl, rfl, rfl⟩, ⟨fun k _ => ?_, fun k _ => ?_, fun k _ => ?_, fun e _ => ?_, (by decide), (by decide), (by decide), (by decide)⟩, ⟨fun k => ?_, fun k => ?_, fun k => ?_, fun k => ?_⟩, ⟨rfl, (by decide), fun p => ?_⟩, ⟨(by decide), fun i _ => ?_⟩, (by decide), fun m hm => absurd hm (Nat.not_lt_zero m), fun i _ => ⟨fun k _ => ?_, fun k _ => ?_⟩⟩
  · show gd (List.replicate 18 0) k < 256 ∧ gd (List.replicate 18 0) (5 + k) < 100
    rw [gd_rep, gd_rep]; decide
  · show gd (List.replicate 18 0) (10 + k) < 256 ∧ gd (List.replicate 18 0) (14 + k) < 9
    rw [gd_rep, gd_rep]; decide
  · show gd (List.replicate 10 0) k < 2
    rw [gd_rep]; decide
  · show gd (List.replicate 36 0) (3 * e) < 8 ∧ gd (List.replicate 36 0) (3 * e + 1) < 10 ∧ gd (List.replicate 36 0) (3 * e + 2) < 10
    rw [gd_rep, gd_rep, gd_rep]; decide
  · show gd (List.replicate 10 0) k < 2
    rw [gd_rep]; decide
  · show gd (List.replicate 10 0) k < 256
    rw [gd_rep]; decide
  · show gd (List.replicate 36 0) (3 * k) < 8 ∧ gd (List.replicate 36 0) (3 * k + 1) < 10 ∧ gd (List.replicate 36 0) (3 * k + 2) < 10
    rw [gd_rep, gd_rep, gd_rep]; decide
  · show gd (List.replicate 16 0) (2 * k) < 256 ∧ gd (List.replicate 16 0) (2 * k + 1) < 9
    rw [gd_rep, gd_rep]; decide
  · show gd (List.replicate 300 0) p < 256
    rw [gd_rep]; decide
  · show gd (List.replicate 6 0) i < 8 ∧ gd (List.replicate 6 0) i < 2
    rw [gd_rep]; decide
  · show gd (List.replicate 36 0) (18 * i + k) < 256 ∧ gd (List.replicate 36 0) (18 * i + (5 + k)) < 100
    rw [gd_rep, gd_rep]; decide
  · show gd (List.replicate 36 0) (18 * i + (10 + k)) < 256 ∧ gd (List.replicate 36 0) (18 * i + (14 + k)) < 9
    rw [gd_rep, gd_rep]; decide
set_option maxRecDepth 100000 in
theorem Inv_0 : Inv S0 M0 := by
  refine ⟨CW_0, MW_0, ⟨rfl, rfl, rfl, rfl, fun k hk => absurd hk (Nat.not_lt_zero k), fun k hk => absurd hk (Nat.not_lt_zero k)⟩, ⟨fun k hk => absurd hk (Nat.not_lt_zero k), fun k hk => absurd hk (Nat.not_lt_zero k)⟩, ⟨rfl, fun p hk => absurd hk (Nat.not_lt_zero p)⟩, ⟨rfl, fun p hk => absurd hk (Nat.not_lt_zero p)⟩, fun i hi => ⟨?_, fun q => ?_⟩, ⟨rfl, fun p hk => absurd hk (Nat.not_lt_zero p)⟩, rfl⟩
  · show gd (List.replicate 2 0) i = bt 0 i
    rw [gd_rep, bt_0]
  · have q : bt 0 i = 1 := q
    rw [bt_0] at q
    cases q
/-- the heap never grows behind the constructors -/
theorem hp_len (S : cS) (M : mS) : (hp S M).length = 116 := rfl
theorem law_all (xs : List Int32) (hl : xs.length ≤ 256) : ∃ S' M', Inv S' M' ∧ Ev xs mL_law (0, [some (.float 20), none, none, none], [], []) (some (.int (nI 1))) (hp S' M') := by
  obtain ⟨S', M', h, k⟩ := law_loop hl (xs.length + 4) 0 S0 M0 (by omega) (by decide) Inv_0
  refine ⟨S', M', h, ?_⟩
  refine Ev_ca rfl (w := none) (h1 := hpC S0) ⟨3000, c_C_init⟩ ?_
  refine Ev_ca rfl (w := none) (h1 := hp S0 M0) ⟨3000, c_M_init⟩ ?_
  exact a_run_ev 3 rfl k

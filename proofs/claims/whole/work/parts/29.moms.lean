/-! the moments: what is remembered, fetched, kept -/
def updM (f : Nat → Mo) (i : Nat) (m : Mo) : Nat → Mo := fun j => if j = i then m else f j
theorem len_map (L : List Nat) : (L.map nI).length = L.length := List.length_map _
section
variable (S : cS) (T : aH)
theorem c_past_row {i : Nat} (hi : i < 10) : Cl mX3_row [.ref 33, .int (nI i)] (hpC S ++ T) (some (.ref (35 + 5 * i))) (hpC S ++ T) := by
  match i, hi with
  | 0, _ => exact Ev_br rfl (fun hc => absurd hc (show ¬ nI 0 < 0 by decide)) (fun _ => Ev_br rfl (fun hc => absurd hc (show ¬ nI 10 ≤ nI 0 by decide)) (fun _ => Ev_ck rfl rfl (Ev_jp rfl (Ev_rt rfl rfl rfl rfl))))
  | 1, _ => exact Ev_br rfl (fun hc => absurd hc (show ¬ nI 1 < 0 by decide)) (fun _ => Ev_br rfl (fun hc => absurd hc (show ¬ nI 10 ≤ nI 1 by decide)) (fun _ => Ev_ck rfl rfl (Ev_jp rfl (Ev_rt rfl rfl rfl rfl))))
  | 2, _ => exact Ev_br rfl (fun hc => absurd hc (show ¬ nI 2 < 0 by decide)) (fun _ => Ev_br rfl (fun hc => absurd hc (show ¬ nI 10 ≤ nI 2 by decide)) (fun _ => Ev_ck rfl rfl (Ev_jp rfl (Ev_rt rfl rfl rfl rfl))))
  | 3, _ => exact Ev_br rfl (fun hc => absurd hc (show ¬ nI 3 < 0 by decide)) (fun _ => Ev_br rfl (fun hc => absurd hc (show ¬ nI 10 ≤ nI 3 by decide)) (fun _ => Ev_ck rfl rfl (Ev_jp rfl (Ev_rt rfl rfl rfl rfl))))
  | 4, _ => exact Ev_br rfl (fun hc => absurd hc (show ¬ nI 4 < 0 by decide)) (fun _ => Ev_br rfl (fun hc => absurd hc (show ¬ nI 10 ≤ nI 4 by decide)) (fun _ => Ev_ck rfl rfl (Ev_jp rfl (Ev_rt rfl rfl rfl rfl))))
  | 5, _ => exact Ev_br rfl (fun hc => absurd hc (show ¬ nI 5 < 0 by decide)) (fun _ => Ev_br rfl (fun hc => absurd hc (show ¬ nI 10 ≤ nI 5 by decide)) (fun _ => Ev_ck rfl rfl (Ev_jp rfl (Ev_rt rfl rfl rfl rfl))))
  | 6, _ => exact Ev_br rfl (fun hc => absurd hc (show ¬ nI 6 < 0 by decide)) (fun _ => Ev_br rfl (fun hc => absurd hc (show ¬ nI 10 ≤ nI 6 by decide)) (fun _ => Ev_ck rfl rfl (Ev_jp rfl (Ev_rt rfl rfl rfl rfl))))
  | 7, _ => exact Ev_br rfl (fun hc => absurd hc (show ¬ nI 7 < 0 by decide)) (fun _ => Ev_br rfl (fun hc => absurd hc (show ¬ nI 10 ≤ nI 7 by decide)) (fun _ => Ev_ck rfl rfl (Ev_jp rfl (Ev_rt rfl rfl rfl rfl))))
  | 8, _ => exact Ev_br rfl (fun hc => absurd hc (show ¬ nI 8 < 0 by decide)) (fun _ => Ev_br rfl (fun hc => absurd hc (show ¬ nI 10 ≤ nI 8 by decide)) (fun _ => Ev_ck rfl rfl (Ev_jp rfl (Ev_rt rfl rfl rfl rfl))))
  | 9, _ => exact Ev_br rfl (fun hc => absurd hc (show ¬ nI 9 < 0 by decide)) (fun _ => Ev_br rfl (fun hc => absurd hc (show ¬ nI 10 ≤ nI 9 by decide)) (fun _ => Ev_ck rfl rfl (Ev_jp rfl (Ev_rt rfl rfl rfl rfl))))
theorem c_past_store {i : Nat} (hi : i < 10) (hL : MoL (C_nw S)) (hP : ∀ j, MoL (C_pm S j)) : Cl mX3_store [.ref 33, .int (nI i), .ref 28] (hpC S ++ T) none (hpC (Cs_pm S (updM (C_pm S) i (C_nw S))) ++ T) := by
  have h1 := hL.1; have h2 := hL.2.1; have h3 := hL.2.2.1; have h4 := hL.2.2.2
  refine Ev_ca rfl (c_past_row S T hi) ?_
  match i, hi with
  | 0, _ => exact Ev_ca rfl (c_Mcopy _ (q := 35) (o := 28) rfl rfl rfl rfl rfl rfl rfl rfl rfl rfl rfl rfl rfl rfl rfl rfl ⟨by rw [len_map, len_map, hL.1, (hP 0).1], by rw [len_map]; omega⟩ ⟨by rw [len_map, len_map, hL.2.1, (hP 0).2.1], by rw [len_map]; omega⟩ ⟨by rw [len_map, len_map, hL.2.2.1, (hP 0).2.2.1], by rw [len_map]; omega⟩ ⟨by rw [len_map, len_map, hL.2.2.2, (hP 0).2.2.2], by rw [len_map]; omega⟩) (Ev_rt rfl rfl rfl rfl)
  | 1, _ => exact Ev_ca rfl (c_Mcopy _ (q := 40) (o := 28) rfl rfl rfl rfl rfl rfl rfl rfl rfl rfl rfl rfl rfl rfl rfl rfl ⟨by rw [len_map, len_map, hL.1, (hP 1).1], by rw [len_map]; omega⟩ ⟨by rw [len_map, len_map, hL.2.1, (hP 1).2.1], by rw [len_map]; omega⟩ ⟨by rw [len_map, len_map, hL.2.2.1, (hP 1).2.2.1], by rw [len_map]; omega⟩ ⟨by rw [len_map, len_map, hL.2.2.2, (hP 1).2.2.2], by rw [len_map]; omega⟩) (Ev_rt rfl rfl rfl rfl)
  | 2, _ => exact Ev_ca rfl (c_Mcopy _ (q := 45) (o := 28) rfl rfl rfl rfl rfl rfl rfl rfl rfl rfl rfl rfl rfl rfl rfl rfl ⟨by rw [len_map, len_map, hL.1, (hP 2).1], by rw [len_map]; omega⟩ ⟨by rw [len_map, len_map, hL.2.1, (hP 2).2.1], by rw [len_map]; omega⟩ ⟨by rw [len_map, len_map, hL.2.2.1, (hP 2).2.2.1], by rw [len_map]; omega⟩ ⟨by rw [len_map, len_map, hL.2.2.2, (hP 2).2.2.2], by rw [len_map]; omega⟩) (Ev_rt rfl rfl rfl rfl)
  | 3, _ => exact Ev_ca rfl (c_Mcopy _ (q := 50) (o := 28) rfl rfl rfl rfl rfl rfl rfl rfl rfl rfl rfl rfl rfl rfl rfl rfl ⟨by rw [len_map, len_map, hL.1, (hP 3).1], by rw [len_map]; omega⟩ ⟨by rw [len_map, len_map, hL.2.1, (hP 3).2.1], by rw [len_map]; omega⟩ ⟨by rw [len_map, len_map, hL.2.2.1, (hP 3).2.2.1], by rw [len_map]; omega⟩ ⟨by rw [len_map, len_map, hL.2.2.2, (hP 3).2.2.2], by rw [len_map]; omega⟩) (Ev_rt rfl rfl rfl rfl)
  | 4, _ => exact Ev_ca rfl (c_Mcopy _ (q := 55) (o := 28) rfl rfl rfl rfl rfl rfl rfl rfl rfl rfl rfl rfl rfl rfl rfl rfl ⟨by rw [len_map, len_map, hL.1, (hP 4).1], by rw [len_map]; omega⟩ ⟨by rw [len_map, len_map, hL.2.1, (hP 4).2.1], by rw [len_map]; omega⟩ ⟨by rw [len_map, len_map, hL.2.2.1, (hP 4).2.2.1], by rw [len_map]; omega⟩ ⟨by rw [len_map, len_map, hL.2.2.2, (hP 4).2.2.2], by rw [len_map]; omega⟩) (Ev_rt rfl rfl rfl rfl)
  | 5, _ => exact Ev_ca rfl (c_Mcopy _ (q := 60) (o := 28) rfl rfl rfl rfl rfl rfl rfl rfl rfl rfl rfl rfl rfl rfl rfl rfl ⟨by rw [len_map, len_map, hL.1, (hP 5).1], by rw [len_map]; omega⟩ ⟨by rw [len_map, len_map, hL.2.1, (hP 5).2.1], by rw [len_map]; omega⟩ ⟨by rw [len_map, len_map, hL.2.2.1, (hP 5).2.2.1], by rw [len_map]; omega⟩ ⟨by rw [len_map, len_map, hL.2.2.2, (hP 5).2.2.2], by rw [len_map]; omega⟩) (Ev_rt rfl rfl rfl rfl)
  | 6, _ => exact Ev_ca rfl (c_Mcopy _ (q := 65) (o := 28) rfl rfl rfl rfl rfl rfl rfl rfl rfl rfl rfl rfl rfl rfl rfl rfl ⟨by rw [len_map, len_map, hL.1, (hP 6).1], by rw [len_map]; omega⟩ ⟨by rw [len_map, len_map, hL.2.1, (hP 6).2.1], by rw [len_map]; omega⟩ ⟨by rw [len_map, len_map, hL.2.2.1, (hP 6).2.2.1], by rw [len_map]; omega⟩ ⟨by rw [len_map, len_map, hL.2.2.2, (hP 6).2.2.2], by rw [len_map]; omega⟩) (Ev_rt rfl rfl rfl rfl)
  | 7, _ => exact Ev_ca rfl (c_Mcopy _ (q := 70) (o := 28) rfl rfl rfl rfl rfl rfl rfl rfl rfl rfl rfl rfl rfl rfl rfl rfl ⟨by rw [len_map, len_map, hL.1, (hP 7).1], by rw [len_map]; omega⟩ ⟨by rw [len_map, len_map, hL.2.1, (hP 7).2.1], by rw [len_map]; omega⟩ ⟨by rw [len_map, len_map, hL.2.2.1, (hP 7).2.2.1], by rw [len_map]; omega⟩ ⟨by rw [len_map, len_map, hL.2.2.2, (hP 7).2.2.2], by rw [len_map]; omega⟩) (Ev_rt rfl rfl rfl rfl)
  | 8, _ => exact Ev_ca rfl (c_Mcopy _ (q := 75) (o := 28) rfl rfl rfl rfl rfl rfl rfl rfl rfl rfl rfl rfl rfl rfl rfl rfl ⟨by rw [len_map, len_map, hL.1, (hP 8).1], by rw [len_map]; omega⟩ ⟨by rw [len_map, len_map, hL.2.1, (hP 8).2.1], by rw [len_map]; omega⟩ ⟨by rw [len_map, len_map, hL.2.2.1, (hP 8).2.2.1], by rw [len_map]; omega⟩ ⟨by rw [len_map, len_map, hL.2.2.2, (hP 8).2.2.2], by rw [len_map]; omega⟩) (Ev_rt rfl rfl rfl rfl)
  | 9, _ => exact Ev_ca rfl (c_Mcopy _ (q := 80) (o := 28) rfl rfl rfl rfl rfl rfl rfl rfl rfl rfl rfl rfl rfl rfl rfl rfl ⟨by rw [len_map, len_map, hL.1, (hP 9).1], by rw [len_map]; omega⟩ ⟨by rw [len_map, len_map, hL.2.1, (hP 9).2.1], by rw [len_map]; omega⟩ ⟨by rw [len_map, len_map, hL.2.2.1, (hP 9).2.2.1], by rw [len_map]; omega⟩ ⟨by rw [len_map, len_map, hL.2.2.2, (hP 9).2.2.2], by rw [len_map]; omega⟩) (Ev_rt rfl rfl rfl rfl)
theorem c_past_fetch {i : Nat} (hi : i < 10) (hL : MoL (C_nw S)) (hP : ∀ j, MoL (C_pm S j)) : Cl mX3_fetch [.ref 33, .int (nI i), .ref 28] (hpC S ++ T) none (hpC (Cs_nw S (C_pm S i)) ++ T) := by
  refine Ev_ca rfl (c_past_row S T hi) ?_
  match i, hi with
  | 0, _ =>
    have h1 := (hP 0).1; have h2 := (hP 0).2.1; have h3 := (hP 0).2.2.1; have h4 := (hP 0).2.2.2
    exact Ev_ca rfl (c_Mcopy _ (q := 28) (o := 35) rfl rfl rfl rfl rfl rfl rfl rfl rfl rfl rfl rfl rfl rfl rfl rfl ⟨by rw [len_map, len_map, (hP 0).1, hL.1], by rw [len_map]; omega⟩ ⟨by rw [len_map, len_map, (hP 0).2.1, hL.2.1], by rw [len_map]; omega⟩ ⟨by rw [len_map, len_map, (hP 0).2.2.1, hL.2.2.1], by rw [len_map]; omega⟩ ⟨by rw [len_map, len_map, (hP 0).2.2.2, hL.2.2.2], by rw [len_map]; omega⟩) (Ev_rt rfl rfl rfl rfl)
  | 1, _ =>
    have h1 := (hP 1).1; have h2 := (hP 1).2.1; have h3 := (hP 1).2.2.1; have h4 := (hP 1).2.2.2
    exact Ev_ca rfl (c_Mcopy _ (q := 28) (o := 40) rfl rfl rfl rfl rfl rfl rfl rfl rfl rfl rfl rfl rfl rfl rfl rfl ⟨by rw [len_map, len_map, (hP 1).1, hL.1], by rw [len_map]; omega⟩ ⟨by rw [len_map, len_map, (hP 1).2.1, hL.2.1], by rw [len_map]; omega⟩ ⟨by rw [len_map, len_map, (hP 1).2.2.1, hL.2.2.1], by rw [len_map]; omega⟩ ⟨by rw [len_map, len_map, (hP 1).2.2.2, hL.2.2.2], by rw [len_map]; omega⟩) (Ev_rt rfl rfl rfl rfl)
  | 2, _ =>
    have h1 := (hP 2).1; have h2 := (hP 2).2.1; have h3 := (hP 2).2.2.1; have h4 := (hP 2).2.2.2
    exact Ev_ca rfl (c_Mcopy _ (q := 28) (o := 45) rfl rfl rfl rfl rfl rfl rfl rfl rfl rfl rfl rfl rfl rfl rfl rfl ⟨by rw [len_map, len_map, (hP 2).1, hL.1], by rw [len_map]; omega⟩ ⟨by rw [len_map, len_map, (hP 2).2.1, hL.2.1], by rw [len_map]; omega⟩ ⟨by rw [len_map, len_map, (hP 2).2.2.1, hL.2.2.1], by rw [len_map]; omega⟩ ⟨by rw [len_map, len_map, (hP 2).2.2.2, hL.2.2.2], by rw [len_map]; omega⟩) (Ev_rt rfl rfl rfl rfl)
  | 3, _ =>
    have h1 := (hP 3).1; have h2 := (hP 3).2.1; have h3 := (hP 3).2.2.1; have h4 := (hP 3).2.2.2
    exact Ev_ca rfl (c_Mcopy _ (q := 28) (o := 50) rfl rfl rfl rfl rfl rfl rfl rfl rfl rfl rfl rfl rfl rfl rfl rfl ⟨by rw [len_map, len_map, (hP 3).1, hL.1], by rw [len_map]; omega⟩ ⟨by rw [len_map, len_map, (hP 3).2.1, hL.2.1], by rw [len_map]; omega⟩ ⟨by rw [len_map, len_map, (hP 3).2.2.1, hL.2.2.1], by rw [len_map]; omega⟩ ⟨by rw [len_map, len_map, (hP 3).2.2.2, hL.2.2.2], by rw [len_map]; omega⟩) (Ev_rt rfl rfl rfl rfl)
  | 4, _ =>
    have h1 := (hP 4).1; have h2 := (hP 4).2.1; have h3 := (hP 4).2.2.1; have h4 := (hP 4).2.2.2
    exact Ev_ca rfl (c_Mcopy _ (q := 28) (o := 55) rfl rfl rfl rfl rfl rfl rfl rfl rfl rfl rfl rfl rfl rfl rfl rfl ⟨by rw [len_map, len_map, (hP 4).1, hL.1], by rw [len_map]; omega⟩ ⟨by rw [len_map, len_map, (hP 4).2.1, hL.2.1], by rw [len_map]; omega⟩ ⟨by rw [len_map, len_map, (hP 4).2.2.1, hL.2.2.1], by rw [len_map]; omega⟩ ⟨by rw [len_map, len_map, (hP 4).2.2.2, hL.2.2.2], by rw [len_map]; omega⟩) (Ev_rt rfl rfl rfl rfl)
  | 5, _ =>
    have h1 := (hP 5).1; have h2 := (hP 5).2.1; have h3 := (hP 5).2.2.1; have h4 := (hP 5).2.2.2
    exact Ev_ca rfl (c_Mcopy _ (q := 28) (o := 60) rfl rfl rfl rfl rfl rfl rfl rfl rfl rfl rfl rfl rfl rfl rfl rfl ⟨by rw [len_map, len_map, (hP 5).1, hL.1], by rw [len_map]; omega⟩ ⟨by rw [len_map, len_map, (hP 5).2.1, hL.2.1], by rw [len_map]; omega⟩ ⟨by rw [len_map, len_map, (hP 5).2.2.1, hL.2.2.1], by rw [len_map]; omega⟩ ⟨by rw [len_map, len_map, (hP 5).2.2.2, hL.2.2.2], by rw [len_map]; omega⟩) (Ev_rt rfl rfl rfl rfl)
  | 6, _ =>
    have h1 := (hP 6).1; have h2 := (hP 6).2.1; have h3 := (hP 6).2.2.1; have h4 := (hP 6).2.2.2
    exact Ev_ca rfl (c_Mcopy _ (q := 28) (o := 65) rfl rfl rfl rfl rfl rfl rfl rfl rfl rfl rfl rfl rfl rfl rfl rfl ⟨by rw [len_map, len_map, (hP 6).1, hL.1], by rw [len_map]; omega⟩ ⟨by rw [len_map, len_map, (hP 6).2.1, hL.2.1], by rw [len_map]; omega⟩ ⟨by rw [len_map, len_map, (hP 6).2.2.1, hL.2.2.1], by rw [len_map]; omega⟩ ⟨by rw [len_map, len_map, (hP 6).2.2.2, hL.2.2.2], by rw [len_map]; omega⟩) (Ev_rt rfl rfl rfl rfl)
  | 7, _ =>
    have h1 := (hP 7).1; have h2 := (hP 7).2.1; have h3 := (hP 7).2.2.1; have h4 := (hP 7).2.2.2
    exact Ev_ca rfl (c_Mcopy _ (q := 28) (o := 70) rfl rfl rfl rfl rfl rfl rfl rfl rfl rfl rfl rfl rfl rfl rfl rfl ⟨by rw [len_map, len_map, (hP 7).1, hL.1], by rw [len_map]; omega⟩ ⟨by rw [len_map, len_map, (hP 7).2.1, hL.2.1], by rw [len_map]; omega⟩ ⟨by rw [len_map, len_map, (hP 7).2.2.1, hL.2.2.1], by rw [len_map]; omega⟩ ⟨by rw [len_map, len_map, (hP 7).2.2.2, hL.2.2.2], by rw [len_map]; omega⟩) (Ev_rt rfl rfl rfl rfl)
  | 8, _ =>
    have h1 := (hP 8).1; have h2 := (hP 8).2.1; have h3 := (hP 8).2.2.1; have h4 := (hP 8).2.2.2
    exact Ev_ca rfl (c_Mcopy _ (q := 28) (o := 75) rfl rfl rfl rfl rfl rfl rfl rfl rfl rfl rfl rfl rfl rfl rfl rfl ⟨by rw [len_map, len_map, (hP 8).1, hL.1], by rw [len_map]; omega⟩ ⟨by rw [len_map, len_map, (hP 8).2.1, hL.2.1], by rw [len_map]; omega⟩ ⟨by rw [len_map, len_map, (hP 8).2.2.1, hL.2.2.1], by rw [len_map]; omega⟩ ⟨by rw [len_map, len_map, (hP 8).2.2.2, hL.2.2.2], by rw [len_map]; omega⟩) (Ev_rt rfl rfl rfl rfl)
  | 9, _ =>
    have h1 := (hP 9).1; have h2 := (hP 9).2.1; have h3 := (hP 9).2.2.1; have h4 := (hP 9).2.2.2
    exact Ev_ca rfl (c_Mcopy _ (q := 28) (o := 80) rfl rfl rfl rfl rfl rfl rfl rfl rfl rfl rfl rfl rfl rfl rfl rfl ⟨by rw [len_map, len_map, (hP 9).1, hL.1], by rw [len_map]; omega⟩ ⟨by rw [len_map, len_map, (hP 9).2.1, hL.2.1], by rw [len_map]; omega⟩ ⟨by rw [len_map, len_map, (hP 9).2.2.1, hL.2.2.1], by rw [len_map]; omega⟩ ⟨by rw [len_map, len_map, (hP 9).2.2.2, hL.2.2.2], by rw [len_map]; omega⟩) (Ev_rt rfl rfl rfl rfl)
theorem c_images_row {i : Nat} (hi : i < 2) : Cl mX3_row [.ref 85, .int (nI i)] (hpC S ++ T) (some (.ref (87 + 5 * i))) (hpC S ++ T) := by
  match i, hi with
  | 0, _ => exact Ev_br rfl (fun hc => absurd hc (show ¬ nI 0 < 0 by decide)) (fun _ => Ev_br rfl (fun hc => absurd hc (show ¬ nI 2 ≤ nI 0 by decide)) (fun _ => Ev_ck rfl rfl (Ev_jp rfl (Ev_rt rfl rfl rfl rfl))))
  | 1, _ => exact Ev_br rfl (fun hc => absurd hc (show ¬ nI 1 < 0 by decide)) (fun _ => Ev_br rfl (fun hc => absurd hc (show ¬ nI 2 ≤ nI 1 by decide)) (fun _ => Ev_ck rfl rfl (Ev_jp rfl (Ev_rt rfl rfl rfl rfl))))
theorem c_images_store {i : Nat} (hi : i < 2) (hL : MoL (C_nw S)) (hP : ∀ j, MoL (C_im S j)) : Cl mX3_store [.ref 85, .int (nI i), .ref 28] (hpC S ++ T) none (hpC (Cs_im S (updM (C_im S) i (C_nw S))) ++ T) := by
  have h1 := hL.1; have h2 := hL.2.1; have h3 := hL.2.2.1; have h4 := hL.2.2.2
  refine Ev_ca rfl (c_images_row S T hi) ?_
  match i, hi with
  | 0, _ => exact Ev_ca rfl (c_Mcopy _ (q := 87) (o := 28) rfl rfl rfl rfl rfl rfl rfl rfl rfl rfl rfl rfl rfl rfl rfl rfl ⟨by rw [len_map, len_map, hL.1, (hP 0).1], by rw [len_map]; omega⟩ ⟨by rw [len_map, len_map, hL.2.1, (hP 0).2.1], by rw [len_map]; omega⟩ ⟨by rw [len_map, len_map, hL.2.2.1, (hP 0).2.2.1], by rw [len_map]; omega⟩ ⟨by rw [len_map, len_map, hL.2.2.2, (hP 0).2.2.2], by rw [len_map]; omega⟩) (Ev_rt rfl rfl rfl rfl)
  | 1, _ => exact Ev_ca rfl (c_Mcopy _ (q := 92) (o := 28) rfl rfl rfl rfl rfl rfl rfl rfl rfl rfl rfl rfl rfl rfl rfl rfl ⟨by rw [len_map, len_map, hL.1, (hP 1).1], by rw [len_map]; omega⟩ ⟨by rw [len_map, len_map, hL.2.1, (hP 1).2.1], by rw [len_map]; omega⟩ ⟨by rw [len_map, len_map, hL.2.2.1, (hP 1).2.2.1], by rw [len_map]; omega⟩ ⟨by rw [len_map, len_map, hL.2.2.2, (hP 1).2.2.2], by rw [len_map]; omega⟩) (Ev_rt rfl rfl rfl rfl)
theorem c_images_fetch {i : Nat} (hi : i < 2) (hL : MoL (C_nw S)) (hP : ∀ j, MoL (C_im S j)) : Cl mX3_fetch [.ref 85, .int (nI i), .ref 28] (hpC S ++ T) none (hpC (Cs_nw S (C_im S i)) ++ T) := by
  refine Ev_ca rfl (c_images_row S T hi) ?_
  match i, hi with
  | 0, _ =>
    have h1 := (hP 0).1; have h2 := (hP 0).2.1; have h3 := (hP 0).2.2.1; have h4 := (hP 0).2.2.2
    exact Ev_ca rfl (c_Mcopy _ (q := 28) (o := 87) rfl rfl rfl rfl rfl rfl rfl rfl rfl rfl rfl rfl rfl rfl rfl rfl ⟨by rw [len_map, len_map, (hP 0).1, hL.1], by rw [len_map]; omega⟩ ⟨by rw [len_map, len_map, (hP 0).2.1, hL.2.1], by rw [len_map]; omega⟩ ⟨by rw [len_map, len_map, (hP 0).2.2.1, hL.2.2.1], by rw [len_map]; omega⟩ ⟨by rw [len_map, len_map, (hP 0).2.2.2, hL.2.2.2], by rw [len_map]; omega⟩) (Ev_rt rfl rfl rfl rfl)
  | 1, _ =>
    have h1 := (hP 1).1; have h2 := (hP 1).2.1; have h3 := (hP 1).2.2.1; have h4 := (hP 1).2.2.2
    exact Ev_ca rfl (c_Mcopy _ (q := 28) (o := 92) rfl rfl rfl rfl rfl rfl rfl rfl rfl rfl rfl rfl rfl rfl rfl rfl ⟨by rw [len_map, len_map, (hP 1).1, hL.1], by rw [len_map]; omega⟩ ⟨by rw [len_map, len_map, (hP 1).2.1, hL.2.1], by rw [len_map]; omega⟩ ⟨by rw [len_map, len_map, (hP 1).2.2.1, hL.2.2.1], by rw [len_map]; omega⟩ ⟨by rw [len_map, len_map, (hP 1).2.2.2, hL.2.2.2], by rw [len_map]; omega⟩) (Ev_rt rfl rfl rfl rfl)
end

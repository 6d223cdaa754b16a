/-! what the settled state holds -/
def oth1 (M : mS) : List Nat × List Nat × List Nat × Nat × Nat × Nat × Nat × List Nat × List Nat × List Nat × List Nat × Nat := (M_tx M, M_er M, M_td M, M_kn M, M_em M, M_ru M, M_ld M, M_kp M, M_ud M, M_ss M, M_sh M, M_tr M)
theorem it1_oth (M : mS) : ∀ k, oth1 (it1 M k) = oth1 M
  | 0 => rfl
  | k + 1 => it1_oth M k
def oth2 (M : mS) : List Nat × List Nat × List Nat × List Nat × List Nat × Nat × Nat × Nat × Nat × List Nat × List Nat × List Nat × List Nat × Nat := (M_tx M, M_rg M, M_sg M, M_s M, M_td M, M_kn M, M_em M, M_ru M, M_ld M, M_kp M, M_ud M, M_ss M, M_sh M, M_tr M)
theorem it2_oth (M : mS) : ∀ k, oth2 (it2 M k) = oth2 M
  | 0 => rfl
  | k + 1 => it2_oth M k
def oth3 (M : mS) : List Nat × List Nat × List Nat × List Nat × List Nat × Nat × Nat × Nat × Nat × List Nat × List Nat × List Nat × List Nat × Nat := (M_tx M, M_rg M, M_sg M, M_er M, M_td M, M_kn M, M_em M, M_ru M, M_ld M, M_kp M, M_ud M, M_ss M, M_sh M, M_tr M)
theorem it3_oth (M : mS) : ∀ k, oth3 (it3 M k) = oth3 M
  | 0 => rfl
  | k + 1 => it3_oth M k
theorem it1_gd {M : mS} (h : LL M) : ∀ k, k ≤ 5 → (∀ j, gd (M_rg (it1 M k)) j = if j < k then gd (M_rg M) (5 + j) else gd (M_rg M) j) ∧ (∀ j, gd (M_sg (it1 M k)) j = if j < k then gd (M_sg M) (5 + j) else gd (M_sg M) j) ∧ (∀ j, j < k → gd (M_s (it1 M k)) j = (if j < M_kn M then gd (M_sg M) (5 + j) else 0) ∧ gd (M_s (it1 M k)) (5 + j) = 0)
  | 0, _ => ⟨fun j => by rw [if_neg (by omega)]; rfl, fun j => by rw [if_neg (by omega)]; rfl, fun j hj => by omega⟩
  | k + 1, hk => by
    obtain ⟨i1, i2, i3⟩ := it1_gd h k (by omega)
    have hh := LL_i1 h k
    have ekn : M_kn (it1 M k) = M_kn M := congrArg (fun q => q.2.2.2.1) (it1_oth M k)
    have l1 := hh.1
    have l2 := hh.2.1
    have l3 := hh.2.2.2.2.1
    have e1 : M_rg (it1 M (k + 1)) = (M_rg (it1 M k)).set k (gd (M_rg (it1 M k)) (5 + k)) := rfl
    have e2 : M_sg (it1 M (k + 1)) = (M_sg (it1 M k)).set k (gd (M_sg (it1 M k)) (5 + k)) := rfl
    have e3 : M_s (it1 M (k + 1)) = ((M_s (it1 M k)).set k (if k < M_kn (it1 M k) then gd (M_sg (it1 M k)) (5 + k) else 0)).set (5 + k) 0 := rfl
    have w1 : gd (M_rg (it1 M k)) (5 + k) = gd (M_rg M) (5 + k) := by rw [i1, if_neg (by omega)]
    have w2 : gd (M_sg (it1 M k)) (5 + k) = gd (M_sg M) (5 + k) := by rw [i2, if_neg (by omega)]
    rw [e1, e2, e3, w1, w2, ekn]
    refine ⟨fun j => ?_, fun j => ?_, fun j hj => ?_⟩
    · by_cases q : k = j
      · subst q
        rw [gd_set_eq (by omega), if_pos (by omega)]
      · rw [gd_set_ne q, i1]
        by_cases q2 : j < k
        · rw [if_pos q2, if_pos (by omega)]
        · rw [if_neg q2, if_neg (by omega)]
    · by_cases q : k = j
      · subst q
        rw [gd_set_eq (by omega), if_pos (by omega)]
      · rw [gd_set_ne q, i2]
        by_cases q2 : j < k
        · rw [if_pos q2, if_pos (by omega)]
        · rw [if_neg q2, if_neg (by omega)]
    · by_cases q : k = j
      · subst q
        refine ⟨?_, ?_⟩
        · rw [gd_set_ne (by omega), gd_set_eq (by omega)]
        · rw [gd_set_eq (by rw [List.length_set]; omega)]
      · obtain ⟨j1, j2⟩ := i3 j (by omega)
        refine ⟨?_, ?_⟩
        · rw [gd_set_ne (by omega), gd_set_ne q, j1]
        · rw [gd_set_ne (by omega), gd_set_ne (by omega), j2]
theorem it2_gd {M : mS} (h : LL M) : ∀ k, k ≤ 18 → ∀ j, gd (M_er (it2 M k)) j = if j < k then gd (M_er M) (18 + j) else gd (M_er M) j
  | 0, _, j => by rw [if_neg (by omega)]; rfl
  | k + 1, hk, j => by
    have ih := it2_gd h k (by omega)
    have l := (LL_i2 h k).2.2.1
    have e1 : M_er (it2 M (k + 1)) = (M_er (it2 M k)).set k (gd (M_er (it2 M k)) (18 + k)) := rfl
    have w1 : gd (M_er (it2 M k)) (18 + k) = gd (M_er M) (18 + k) := by rw [ih, if_neg (by omega)]
    rw [e1, w1]
    by_cases q : k = j
    · subst q
      rw [gd_set_eq (by omega), if_pos (by omega)]
    · rw [gd_set_ne q, ih]
      by_cases q2 : j < k
      · rw [if_pos q2, if_pos (by omega)]
      · rw [if_neg q2, if_neg (by omega)]
theorem it3_gd {M : mS} (h : LL M) : ∀ k, k ≤ 4 → (∀ j, j < 10 → gd (M_s (it3 M k)) j = gd (M_s M) j) ∧ (∀ i, i < k → gd (M_s (it3 M k)) (10 + i) = (if i < M_ru M then gd (M_td M) (8 + 2 * i) else 0) ∧ gd (M_s (it3 M k)) (14 + i) = (if i < M_ru M then gd (M_td M) (9 + 2 * i) else 0))
  | 0, _ => ⟨fun j _ => rfl, fun i hi => by omega⟩
  | k + 1, hk => by
    obtain ⟨i1, i2⟩ := it3_gd h k (by omega)
    have l := (LL_i3 h k).2.2.2.2.1
    have eru : M_ru (it3 M k) = M_ru M := congrArg (fun q => q.2.2.2.2.2.2.2.1) (it3_oth M k)
    have etd : M_td (it3 M k) = M_td M := congrArg (fun q => q.2.2.2.2.1) (it3_oth M k)
    have e1 : M_s (it3 M (k + 1)) = ((M_s (it3 M k)).set (10 + k) (if k < M_ru (it3 M k) then gd (M_td (it3 M k)) (8 + 2 * k) else 0)).set (14 + k) (if k < M_ru (it3 M k) then gd (M_td (it3 M k)) (9 + 2 * k) else 0) := rfl
    rw [e1, eru, etd]
    refine ⟨fun j hj => ?_, fun i hi => ?_⟩
    · rw [gd_set_ne (by omega), gd_set_ne (by omega)]
      exact i1 j hj
    · by_cases q : k = i
      · subst q
        refine ⟨?_, ?_⟩
        · rw [gd_set_ne (by omega), gd_set_eq (by omega)]
        · rw [gd_set_eq (by rw [List.length_set]; omega)]
      · obtain ⟨j1, j2⟩ := i2 i (by omega)
        refine ⟨?_, ?_⟩
        · rw [gd_set_ne (by omega), gd_set_ne (by omega), j1]
        · rw [gd_set_ne (by omega), gd_set_ne (by omega), j2]
def finM (C : mS) (L : List Nat) : mS := Ms_ik (Ms_sm (Ms_um (Ms_ty C 0) 0) 0) L
def setC (M N : mS) (l : Nat) : Prop := (M_tx N = M_tx M ∧ M_td N = M_td M ∧ M_kn N = M_dk M ∧ M_em N = M_de M ∧ M_ru N = M_du M ∧ M_ld N = l ∧ M_kp N = M_kp M ∧ M_ud N = M_ud M ∧ M_ss N = M_ss M ∧ M_sh N = M_sh M ∧ M_tr N = M_tr M) ∧ ((M_rg N).length = 10 ∧ (M_sg N).length = 10 ∧ (M_er N).length = 36 ∧ (M_s N).length = 18 ∧ (M_ik N).length = 2) ∧ ((∀ j, gd (M_rg N) j = if j < 5 then gd (M_rg M) (5 + j) else gd (M_rg M) j) ∧ (∀ j, gd (M_sg N) j = if j < 5 then gd (M_sg M) (5 + j) else gd (M_sg M) j) ∧ (∀ j, gd (M_er N) j = if j < 18 then gd (M_er M) (18 + j) else gd (M_er M) j)) ∧ ((∀ j, j < 5 → gd (M_s N) j = (if j < M_dk M then gd (M_sg M) (5 + j) else 0) ∧ gd (M_s N) (5 + j) = 0) ∧ (∀ i, i < 4 → gd (M_s N) (10 + i) = (if i < M_du M then gd (M_td M) (8 + 2 * i) else 0) ∧ gd (M_s N) (14 + i) = (if i < M_du M then gd (M_td M) (9 + 2 * i) else 0))) ∧ (∀ i, i < 2 → gd (M_ik N) i = 0) ∧ M_ty N = 0 ∧ M_um N = 0 ∧ M_sm N = 0
theorem setC_gen {M A9 B9 C9 : mS} {l : Nat} (h : LL (cntM M l)) (o1 : oth1 A9 = oth1 (cntM M l)) (o2 : oth2 B9 = oth2 A9) (o3 : oth3 C9 = oth3 B9) (h3 : LL C9) (a1 : ∀ j, gd (M_rg A9) j = if j < 5 then gd (M_rg M) (5 + j) else gd (M_rg M) j) (a2 : ∀ j, gd (M_sg A9) j = if j < 5 then gd (M_sg M) (5 + j) else gd (M_sg M) j) (a3 : ∀ j, j < 5 → gd (M_s A9) j = (if j < M_dk M then gd (M_sg M) (5 + j) else 0) ∧ gd (M_s A9) (5 + j) = 0) (b1 : ∀ j, gd (M_er B9) j = if j < 18 then gd (M_er A9) (18 + j) else gd (M_er A9) j) (c1 : ∀ j, j < 10 → gd (M_s C9) j = gd (M_s B9) j) (c2 : ∀ i, i < 4 → gd (M_s C9) (10 + i) = (if i < M_ru B9 then gd (M_td B9) (8 + 2 * i) else 0) ∧ gd (M_s C9) (14 + i) = (if i < M_ru B9 then gd (M_td B9) (9 + 2 * i) else 0)) : setC M (finM C9 (((M_ik M).set 0 0).set 1 0)) l := by
  have p0 : M_tx B9 = M_tx A9 := congrArg (fun q => q.1) o2
  have p1 : M_rg B9 = M_rg A9 := congrArg (fun q => q.2.1) o2
  have p2 : M_sg B9 = M_sg A9 := congrArg (fun q => q.2.2.1) o2
  have p3 : M_s B9 = M_s A9 := congrArg (fun q => q.2.2.2.1) o2
  have p4 : M_td B9 = M_td A9 := congrArg (fun q => q.2.2.2.2.1) o2
  have p5 : M_kn B9 = M_kn A9 := congrArg (fun q => q.2.2.2.2.2.1) o2
  have p6 : M_em B9 = M_em A9 := congrArg (fun q => q.2.2.2.2.2.2.1) o2
  have p7 : M_ru B9 = M_ru A9 := congrArg (fun q => q.2.2.2.2.2.2.2.1) o2
  have p8 : M_ld B9 = M_ld A9 := congrArg (fun q => q.2.2.2.2.2.2.2.2.1) o2
  have p9 : M_kp B9 = M_kp A9 := congrArg (fun q => q.2.2.2.2.2.2.2.2.2.1) o2
  have p10 : M_ud B9 = M_ud A9 := congrArg (fun q => q.2.2.2.2.2.2.2.2.2.2.1) o2
  have p11 : M_ss B9 = M_ss A9 := congrArg (fun q => q.2.2.2.2.2.2.2.2.2.2.2.1) o2
  have p12 : M_sh B9 = M_sh A9 := congrArg (fun q => q.2.2.2.2.2.2.2.2.2.2.2.2.1) o2
  have p13 : M_tr B9 = M_tr A9 := congrArg (fun q => q.2.2.2.2.2.2.2.2.2.2.2.2.2) o2
  have r0 : M_tx A9 = M_tx M := congrArg (fun q => q.1) o1
  have r1 : M_er A9 = M_er M := congrArg (fun q => q.2.1) o1
  have r2 : M_td A9 = M_td M := congrArg (fun q => q.2.2.1) o1
  have r3 : M_kn A9 = M_dk M := congrArg (fun q => q.2.2.2.1) o1
  have r4 : M_em A9 = M_de M := congrArg (fun q => q.2.2.2.2.1) o1
  have r5 : M_ru A9 = M_du M := congrArg (fun q => q.2.2.2.2.2.1) o1
  have r6 : M_ld A9 = l := congrArg (fun q => q.2.2.2.2.2.2.1) o1
  have r7 : M_kp A9 = M_kp M := congrArg (fun q => q.2.2.2.2.2.2.2.1) o1
  have r8 : M_ud A9 = M_ud M := congrArg (fun q => q.2.2.2.2.2.2.2.2.1) o1
  have r9 : M_ss A9 = M_ss M := congrArg (fun q => q.2.2.2.2.2.2.2.2.2.1) o1
  have r10 : M_sh A9 = M_sh M := congrArg (fun q => q.2.2.2.2.2.2.2.2.2.2.1) o1
  have r11 : M_tr A9 = M_tr M := congrArg (fun q => q.2.2.2.2.2.2.2.2.2.2.2) o1
  have ik : (M_ik M).length = 2 := h.2.2.2.2.2.1
  refine ⟨⟨(congrArg (fun q => q.1) o3).trans (p0.trans r0), (congrArg (fun q => q.2.2.2.2.1) o3).trans (p4.trans r2), (congrArg (fun q => q.2.2.2.2.2.1) o3).trans (p5.trans r3), (congrArg (fun q => q.2.2.2.2.2.2.1) o3).trans (p6.trans r4), (congrArg (fun q => q.2.2.2.2.2.2.2.1) o3).trans (p7.trans r5), (congrArg (fun q => q.2.2.2.2.2.2.2.2.1) o3).trans (p8.trans r6), (congrArg (fun q => q.2.2.2.2.2.2.2.2.2.1) o3).trans (p9.trans r7), (congrArg (fun q => q.2.2.2.2.2.2.2.2.2.2.1) o3).trans (p10.trans r8), (congrArg (fun q => q.2.2.2.2.2.2.2.2.2.2.2.1) o3).trans (p11.trans r9), (congrArg (fun q => q.2.2.2.2.2.2.2.2.2.2.2.2.1) o3).trans (p12.trans r10), (congrArg (fun q => q.2.2.2.2.2.2.2.2.2.2.2.2.2) o3).trans (p13.trans r11)⟩, ⟨h3.1, h3.2.1, h3.2.2.1, h3.2.2.2.2.1, len_s (len_s ik)⟩, ⟨fun j => ?_, fun j => ?_, fun j => ?_⟩, ⟨fun j hj => ?_, fun i hi => ?_⟩, fun i hi => ?_, rfl, rfl, rfl⟩
  · show gd (M_rg C9) j = _
    rw [show M_rg C9 = M_rg B9 from congrArg (fun q => q.2.1) o3, p1]
    exact a1 j
  · show gd (M_sg C9) j = _
    rw [show M_sg C9 = M_sg B9 from congrArg (fun q => q.2.2.1) o3, p2]
    exact a2 j
  · show gd (M_er C9) j = _
    rw [show M_er C9 = M_er B9 from congrArg (fun q => q.2.2.2.1) o3, b1, r1]
  · show gd (M_s C9) j = _ ∧ gd (M_s C9) (5 + j) = _
    rw [c1 j (by omega), c1 (5 + j) (by omega), p3]
    exact a3 j hj
  · obtain ⟨d1, d2⟩ := c2 i hi
    rw [p7, p4, r5, r2] at d1 d2
    exact ⟨d1, d2⟩
  · show gd (((M_ik M).set 0 0).set 1 0) i = 0
    by_cases q : i = 0
    · subst q
      rw [gd_set_ne (by decide), gd_set_eq (by omega)]
    · rw [show i = 1 by omega, gd_set_eq (by rw [List.length_set]; omega)]
/-- all that the settled state holds -/
theorem setM_all {M : mS} {l : Nat} (h : LL (cntM M l)) : setC M (setM M l) l := by
  have o1 := it1_oth (cntM M l) 5
  have o2 := it2_oth (it1 (cntM M l) 5) 18
  have o3 := it3_oth (it2 (it1 (cntM M l) 5) 18) 4
  have h1 := LL_i1 h 5
  have h2 := LL_i2 h1 18
  have h3 := LL_i3 h2 4
  obtain ⟨a1, a2, a3⟩ := it1_gd h 5 (Nat.le_refl _)
  have b1 := it2_gd h1 18 (Nat.le_refl _)
  obtain ⟨c1, c2⟩ := it3_gd h2 4 (Nat.le_refl _)
  unfold setM
  generalize it3 (it2 (it1 (cntM M l) 5) 18) 4 = C9 at o3 h3 c1 c2 ⊢
  generalize it2 (it1 (cntM M l) 5) 18 = B9 at o2 o3 h2 b1 c1 c2
  generalize it1 (cntM M l) 5 = A9 at o1 o2 h1 a1 a2 a3 b1
  exact setC_gen h o1 o2 o3 h3 a1 a2 a3 b1 c1 c2

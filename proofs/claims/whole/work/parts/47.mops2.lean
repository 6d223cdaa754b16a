/-! the reference's notes, canRun, runs, knocks, hoarse, change, undo -/
/-- the rows moved down, the first k of them -/
def shD (L : List Nat) : Nat → List Nat
  | 0 => L
  | k + 1 => (shD L k).set k (gd (shD L k) (k + 4))
theorem shD_len (L : List Nat) : ∀ k, (shD L k).length = L.length
  | 0 => rfl
  | k + 1 => by
    show ((shD L k).set k _).length = _
    rw [List.length_set]
    exact shD_len L k
theorem gd_ext {L K : List Nat} (hl : L.length = K.length) (h : ∀ i, i < L.length → gd L i = gd K i) : L = K := by
  refine List.ext_getElem hl (fun i h1 h2 => ?_)
  have := h i h1
  unfold gd at this
  rw [List.getD_eq_getElem?_getD, List.getD_eq_getElem?_getD, List.getElem?_eq_getElem h1, List.getElem?_eq_getElem h2] at this
  exact this
theorem shD_gd (L : List Nat) (hl : L.length = 40) : ∀ k, k ≤ 36 → ∀ i, gd (shD L k) i = if i < k then gd L (i + 4) else gd L i
  | 0, _, i => by rw [if_neg (by omega)]; rfl
  | k + 1, hk, i => by
    show gd ((shD L k).set k (gd (shD L k) (k + 4))) i = _
    have ih := shD_gd L hl k (by omega)
    have h1 : gd (shD L k) (k + 4) = gd L (k + 4) := by rw [ih, if_neg (by omega)]
    rw [gd_set, shD_len, h1, ih i]
    by_cases e : k = i
    · subst e
      rw [if_pos ⟨rfl, by omega⟩, if_pos (by omega)]
    · rw [if_neg (fun q => e q.1)]
      by_cases h : i < k
      · rw [if_pos h, if_pos (by omega)]
      · rw [if_neg h, if_neg (by omega)]
def shF (L : List Nat) : List Nat := L.drop 4 ++ L.drop 36
theorem shF_len {L : List Nat} (hl : L.length = 40) : (shF L).length = 40 := by
  unfold shF
  rw [List.length_append, List.length_drop, List.length_drop]
  omega
theorem shF_gd {L : List Nat} (hl : L.length = 40) (i : Nat) (hi : i < 36) : gd (shF L) i = gd L (i + 4) := by
  unfold shF gd
  rw [List.getD_eq_getElem?_getD, List.getD_eq_getElem?_getD, List.getElem?_append_left (by rw [List.length_drop]; omega), List.getElem?_drop, Nat.add_comm 4 i]
theorem shF_eq {L : List Nat} (hl : L.length = 40) : shD L 36 = shF L := by
  refine gd_ext ((shD_len L 36).trans (hl.trans (shF_len hl).symm)) (fun i hi => ?_)
  rw [shD_len] at hi
  rw [shD_gd L hl 36 (Nat.le_refl _)]
  by_cases h : i < 36
  · rw [if_pos h, shF_gd hl i h]
  · rw [if_neg h]
    unfold shF gd
    rw [List.getD_eq_getElem?_getD, List.getD_eq_getElem?_getD, List.getElem?_append_right (by rw [List.length_drop]; omega), List.getElem?_drop, List.length_drop]
    congr 2
    omega
def puN (L : List Nat) (m kd wh a b : Nat) : List Nat := (((L.set (4 * m) kd).set (4 * m + 1) wh).set (4 * m + 2) a).set (4 * m + 3) b
def no1 (M : mS) (kd wh a b : Nat) : mS := Ms_um (Ms_ud M (puN (M_ud M) (M_um M) kd wh a b)) (M_um M + 1)
/-- the state behind notes() -/
def noS (M : mS) (kd wh a b : Nat) : mS := if M_um M = 10 then no1 (Ms_um (Ms_ud M (shF (M_ud M))) 9) kd wh a b else no1 M kd wh a b
section
variable (S : cS)
theorem r_notes_tail (M : mS) {kd wh a b : Nat} {z : Option Value} (hl : (M_ud M).length = 40) (hm : M_um M < 10) : Ev [] mX9_notes (47, [some (.ref 104), some (.int (nI kd)), some (.int (nI wh)), some (.int (nI a)), some (.int (nI b)), z], [], hp S M) none (hp S (no1 M kd wh a b)) := by
  refine a_run_ev 5 rfl ?_
  refine Ev_eq (c' := (55, [some (.ref 104), some (.int (nI kd)), some (.int (nI wh)), some (.int (nI a)), some (.int (nI b)), some (.int (nI (4 * M_um M)))], [], hp S M)) (by rw [← pk_mul]) ?_
  refine Ev_isl rfl (i := 4 * M_um M) (y := kd) rfl rfl (by omega) (by omega) (h2 := hp S (Ms_ud M ((M_ud M).set (4 * M_um M) kd))) rfl ?_
  refine Ev_isl rfl (i := 4 * M_um M + 1) (y := wh) (nI_add _ _) rfl (show 4 * M_um M + 1 < ((M_ud M).set (4 * M_um M) kd).length by rw [List.length_set]; omega) (show ((M_ud M).set (4 * M_um M) kd).length ≤ 1000 by rw [List.length_set]; omega) (h2 := hp S (Ms_ud M (((M_ud M).set (4 * M_um M) kd).set (4 * M_um M + 1) wh))) rfl ?_
  refine Ev_isl rfl (i := 4 * M_um M + 2) (y := a) (nI_add _ _) rfl (show 4 * M_um M + 2 < (((M_ud M).set (4 * M_um M) kd).set (4 * M_um M + 1) wh).length by rw [List.length_set, List.length_set]; omega) (show (((M_ud M).set (4 * M_um M) kd).set (4 * M_um M + 1) wh).length ≤ 1000 by rw [List.length_set, List.length_set]; omega) (h2 := hp S (Ms_ud M ((((M_ud M).set (4 * M_um M) kd).set (4 * M_um M + 1) wh).set (4 * M_um M + 2) a))) rfl ?_
  refine Ev_isl rfl (i := 4 * M_um M + 3) (y := b) (nI_add _ _) rfl (show 4 * M_um M + 3 < ((((M_ud M).set (4 * M_um M) kd).set (4 * M_um M + 1) wh).set (4 * M_um M + 2) a).length by rw [List.length_set, List.length_set, List.length_set]; omega) (show ((((M_ud M).set (4 * M_um M) kd).set (4 * M_um M + 1) wh).set (4 * M_um M + 2) a).length ≤ 1000 by rw [List.length_set, List.length_set, List.length_set]; omega) (h2 := hp S (Ms_ud M (puN (M_ud M) (M_um M) kd wh a b))) rfl ?_
  refine a_run_ev 6 rfl ?_
  refine Ev_h (h2 := hp S (no1 M kd wh a b)) (by rw [nI_add]; rfl) ?_
  exact Ev_rt rfl rfl rfl rfl
theorem r_notes_loop (M : mS) {kd wh a b : Nat} (hl : (M_ud M).length = 40) (X : List Nat) (hX : shD (M_ud M) 36 = X) : ∀ (d k : Nat), k + d = 36 → Ev [] mX9_notes (12, [some (.ref 104), some (.int (nI kd)), some (.int (nI wh)), some (.int (nI a)), some (.int (nI b)), some (.int (nI k))], [], hp S (Ms_ud M (shD (M_ud M) k))) none (hp S (no1 (Ms_um (Ms_ud M X) 9) kd wh a b))
  | 0, k, e => by
    have e : k = 36 := by omega
    subst e
    have hXl : X.length = 40 := by rw [← hX, shD_len]; exact hl
    rw [hX]
    refine Ev_br rfl (fun _ => ?_) (fun hc => absurd (nI_le (Nat.le_refl _) (by decide)) hc)
    refine a_run_ev 3 rfl (Ev_h (h2 := hp S (Ms_um (Ms_ud M X) 9)) rfl ?_)
    exact r_notes_tail S (Ms_um (Ms_ud M X) 9) hXl (show 9 < 10 by decide)
  | d + 1, k, e => by
    have hl2 := shD_len (M_ud M) k
    have ih := r_notes_loop M (kd := kd) (wh := wh) (a := a) (b := b) hl X hX d (k + 1) (by omega)
    have hs : shD (M_ud M) (k + 1) = (shD (M_ud M) k).set k (gd (shD (M_ud M) k) (k + 4)) := rfl
    rw [hs] at ih
    generalize shD (M_ud M) k = Y at hl2 ih ⊢
    refine Ev_br rfl (fun hc => absurd hc (nI_ge (show k < 36 by omega) (by decide))) (fun _ => ?_)
    refine Ev_ial rfl (i := k + 4) (nI_add _ _) (show k + 4 < Y.length by omega) (show Y.length ≤ 1000 by omega) ?_
    refine Ev_isl rfl (i := k) (y := gd Y (k + 4)) rfl rfl (show k < Y.length by omega) (show Y.length ≤ 1000 by omega) (h2 := hp S (Ms_ud M (Y.set k (gd Y (k + 4))))) rfl ?_
    refine Ev_jpe rfl ?_ ih
    rw [nI_add]
theorem r_notes (M : mS) {kd wh a b : Nat} (hl : (M_ud M).length = 40) (hm : M_um M ≤ 10) : Cl mX9_notes [.ref 104, .int (nI kd), .int (nI wh), .int (nI a), .int (nI b)] (hp S M) none (hp S (noS M kd wh a b)) := by
  unfold noS
  by_cases h10 : M_um M = 10
  · rw [if_pos h10]
    refine Ev_br rfl (fun hc => ?_) (fun _ => ?_)
    · have hc : nI (M_um M) ≠ nI 10 := hc
      rw [h10] at hc
      exact absurd rfl hc
    · exact a_run_ev 2 rfl (r_notes_loop S M hl (shF (M_ud M)) (shF_eq hl) 36 0 (by omega))
  · rw [if_neg h10]
    refine Ev_br rfl (fun _ => r_notes_tail S M hl (by omega)) (fun hc => ?_)
    have hc : ¬ nI (M_um M) ≠ nI 10 := hc
    rw [Decidable.not_not, nI_eq (by omega) (by decide)] at hc
    exact absurd hc h10
variable (M : mS)
theorem r_canRun (hL : ML M) (hB : MB M) {e x : Nat} (he : e < 6) (hx : x < 256) : Cl mX9_canRun [.ref 104, .int (nI x), .int (nI e)] (hp S M) (some (.int (nI (canR (geM M e) (neM M e) x).toNat))) (hp S M) := by
  have l := hL.2.2.2.1
  obtain ⟨b1, b2, b3⟩ := hB.2.2.2.1 e he
  have b1 : gd (M_er M) (3 * e) < 8 := b1
  have b3 : gd (M_er M) (3 * e + 2) < 10 := b3
  have t1 := bt_lt x (gd (M_er M) (3 * e))
  have t2 := bt_lt x (gd (M_er M) (3 * e + 2))
  show Ev _ _ _ (some (.int (nI (canR (gd (M_er M) (3 * e)) (gd (M_er M) (3 * e + 2)) x).toNat))) _
  refine Ev_ial rfl (i := 3 * e + 2) (by rw [pk_mul, nI_add]) (by omega) (by omega) ?_
  refine Ev_ial rfl (i := 3 * e) (pk_mul _ _) (by omega) (by omega) ?_
  generalize gd (M_er M) (3 * e + 2) = n at b3 t2 ⊢
  generalize gd (M_er M) (3 * e) = g at b1 t1 ⊢
  refine Ev_br rfl (fun hc => ?_) (fun hc => ?_)
  · have hc : ((nI x >>> (nI g &&& 31)) &&& nI 1) ≠ 0 := hc
    rw [nI_bt (by omega) (by omega)] at hc
    have h1 : ¬ bt x g = 0 := fun q => hc (by rw [q]; exact nI_0)
    refine Ev_rt rfl rfl ?_ rfl
    rw [show canR g n x = false by simp [canR, h1]]
    rfl
  · have hc : ¬ ((nI x >>> (nI g &&& 31)) &&& nI 1) ≠ 0 := hc
    rw [nI_bt (by omega) (by omega), ← nI_0, Decidable.not_not, nI_eq (by omega) (by decide)] at hc
    refine Ev_br rfl (fun h9 => ?_) (fun h9 => ?_)
    · have h9 : nI n = nI 9 := h9
      rw [nI_eq (by omega) (by decide)] at h9
      refine Ev_jp rfl (Ev_rt rfl rfl ?_ rfl)
      rw [show canR g n x = true by simp [canR, hc, h9]]
      rfl
    · have h9 : ¬ nI n = nI 9 := h9
      rw [nI_eq (by omega) (by decide)] at h9
      refine Ev_br rfl (fun h3 => ?_) (fun h3 => ?_)
      · have h3 : ¬ ((nI x >>> (nI n &&& 31)) &&& nI 1) = nI 1 := h3
        rw [nI_bt (by omega) (by omega), nI_eq (by omega) (by decide)] at h3
        refine Ev_rt rfl rfl ?_ rfl
        rw [show canR g n x = false by simp [canR, h9, h3]]
        rfl
      · have h3 : ¬ ¬ ((nI x >>> (nI n &&& 31)) &&& nI 1) = nI 1 := h3
        rw [nI_bt (by omega) (by omega), nI_eq (by omega) (by decide), Decidable.not_not] at h3
        refine Ev_jp rfl (Ev_rt rfl rfl ?_ rfl)
        rw [show canR g n x = true by simp [canR, hc, h3]]
        rfl
-- runs
theorem cM_runs_bad {x w : Int32} (hb : M_kn M ≤ 5) (hx : x < 0 ∨ nI (M_kn M) ≤ x) : Cl mX9_runs [.ref 104, .int x, .int w] (hp S M) (some (.int kM1)) (hp S M) := by
  refine a_run_ev 3 rfl (Ev_h (h2 := hp S M) rfl ?_)
  refine Ev_ca rfl (r_isK_f S M hb hx) ?_
  exact Ev_br rfl (fun _ => Ev_rt rfl rfl rfl rfl) (fun hc => absurd nI_0 hc)
theorem cM_runs_bad2 {k : Nat} {w : Int32} (hb : M_kn M ≤ 5) (hb2 : M_em M ≤ 6) (hk : k < M_kn M) (hx : w < 0 ∨ nI (M_em M) ≤ w) : Cl mX9_runs [.ref 104, .int (nI k), .int w] (hp S M) (some (.int kM1)) (hp S M) := by
  refine a_run_ev 3 rfl (Ev_h (h2 := hp S M) rfl ?_)
  refine Ev_ca rfl (r_isK_t S M hk hb) ?_
  refine Ev_br rfl (fun hc => absurd hc b1z) (fun _ => ?_)
  refine Ev_ca rfl (r_isE_f S M hb2 hx) ?_
  exact Ev_br rfl (fun hc => absurd nI_0 hc) (fun _ => Ev_rt rfl rfl rfl rfl)
theorem cM_runs_head {k e : Nat} {v : Option Value} {h' : aH} (hL : ML M) (hB : MB M) (hk : k < M_kn M) (he : e < M_em M) (kk : Ev [] mX9_runs (34, [some (.ref 104), some (.int (nI k)), some (.int (nI e))], [.int (nI (canR (geM M e) (neM M e) (sgM M k)).toNat)], hp S M) v h') : Cl mX9_runs [.ref 104, .int (nI k), .int (nI e)] (hp S M) v h' := by
  have hb := hB.2.2.2.2.1
  have hb2 := hB.2.2.2.2.2.1
  have ls := hL.2.2.2.2.2.1
  refine a_run_ev 3 rfl (Ev_h (h2 := hp S M) rfl ?_)
  refine Ev_ca rfl (r_isK_t S M hk hb) ?_
  refine Ev_br rfl (fun hc => absurd hc b1z) (fun _ => ?_)
  refine Ev_ca rfl (r_isE_t S M he hb2) ?_
  refine Ev_br rfl (fun _ => ?_) (fun hc => absurd b1z hc)
  refine Ev_ial rfl (i := k) rfl (by omega) (by omega) ?_
  exact Ev_ca rfl (r_canRun S M hL hB (by omega) (hB.1 k (by omega)).1) kk
theorem cM_runs_st {k e : Nat} (hL : ML M) (hB : MB M) (hk : k < M_kn M) (he : e < M_em M) (h : canR (geM M e) (neM M e) (sgM M k) = false ∨ 99 < hrM M k + taM M e) : Cl mX9_runs [.ref 104, .int (nI k), .int (nI e)] (hp S M) (some (.int kM2)) (hp S M) := by
  have hb := hB.2.2.2.2.1
  have hb2 := hB.2.2.2.2.2.1
  have ls := hL.2.2.2.2.2.1
  have le := hL.2.2.2.1
  have b1 := (hB.1 k (by omega)).2
  have b2 := (hB.2.2.2.1 e (by omega)).2.1
  refine cM_runs_head S M hL hB hk he ?_
  cases hc : canR (geM M e) (neM M e) (sgM M k) with
  | false => exact Ev_br rfl (fun _ => Ev_rt rfl rfl rfl rfl) (fun hc => absurd nI_0 hc)
  | true =>
    rw [hc] at h
    have h : 99 < hrM M k + taM M e := h.elim (fun q => by cases q) id
    refine Ev_br rfl (fun hc => absurd hc b1z) (fun _ => ?_)
    refine Ev_ial rfl (i := 5 + k) (nI_add _ _) (by omega) (by omega) ?_
    refine Ev_ial rfl (i := 3 * e + 1) (by rw [pk_mul, nI_add]) (by omega) (by omega) ?_
    refine Ev_br rfl (fun hc => ?_) (fun _ => Ev_rt rfl rfl rfl rfl)
    have hc : nI (hrM M k) + nI (taM M e) ≤ nI 99 := hc
    rw [nI_add, nI_leI (by omega) (by decide)] at hc
    omega
/-- what runs() makes of the row of now -/
def ruL (L : List Nat) (k v w : Nat) : List Nat := (L.set k v).set (5 + k) w
theorem cM_runs_tail {k e : Nat} (hL : ML M) (hB : MB M) (hk : k < 5) (he : e < 6) : Ev [] mX9_runs (84, [some (.ref 104), some (.int (nI k)), some (.int (nI e))], [], hp S M) (some (.int (nI (hrM M k + taM M e)))) (hp S (Ms_s M (ruL (M_s M) k (sgM M k ||| 2 ^ geM M e) (hrM M k + taM M e)))) := by
  have ls := hL.2.2.2.2.2.1
  have le := hL.2.2.2.1
  obtain ⟨b1, b2⟩ := hB.1 k hk
  obtain ⟨b3, b4, b5⟩ := hB.2.2.2.1 e he
  have b1 : gd (M_s M) k < 256 := b1
  have b3 : gd (M_er M) (3 * e) < 8 := b3
  have hpw := pow_lt31 (n := gd (M_er M) (3 * e)) (k := 8) b3 (by omega)
  refine Ev_ial rfl (i := k) rfl (by omega) (by omega) ?_
  refine Ev_ial rfl (i := 3 * e) (pk_mul _ _) (by omega) (by omega) ?_
  refine Ev_isl rfl (i := k) (y := sgM M k ||| 2 ^ geM M e) rfl (by rw [nI_shl1 (by omega), nI_or (by omega) (by omega)]) (by omega) (by omega) (h2 := hp S (Ms_s M ((M_s M).set k (sgM M k ||| 2 ^ geM M e)))) rfl ?_
  have hg : gd ((M_s M).set k (sgM M k ||| 2 ^ geM M e)) (5 + k) = hrM M k := by rw [gd_set, if_neg (by omega)]
  have l2 : ((M_s M).set k (sgM M k ||| 2 ^ geM M e)).length = 18 := by rw [List.length_set]; exact ls
  refine Ev_ial rfl (i := 5 + k) (nI_add _ _) (show 5 + k < ((M_s M).set k (sgM M k ||| 2 ^ geM M e)).length by omega) (show ((M_s M).set k (sgM M k ||| 2 ^ geM M e)).length ≤ 1000 by omega) ?_
  refine Ev_ial rfl (i := 3 * e + 1) (by rw [pk_mul, nI_add]) (show 3 * e + 1 < (M_er M).length by omega) (show (M_er M).length ≤ 1000 by omega) ?_
  refine Ev_isl rfl (i := 5 + k) (y := hrM M k + taM M e) (nI_add _ _) (by rw [← nI_add, ← hg]; rfl) (show 5 + k < ((M_s M).set k (sgM M k ||| 2 ^ geM M e)).length by omega) (show ((M_s M).set k (sgM M k ||| 2 ^ geM M e)).length ≤ 1000 by omega) (h2 := hp S (Ms_s M (ruL (M_s M) k (sgM M k ||| 2 ^ geM M e) (hrM M k + taM M e)))) rfl ?_
  have l3 : (ruL (M_s M) k (sgM M k ||| 2 ^ geM M e) (hrM M k + taM M e)).length = 18 := by
    unfold ruL
    rw [List.length_set]
    exact l2
  have hg2 : gd (ruL (M_s M) k (sgM M k ||| 2 ^ geM M e) (hrM M k + taM M e)) (5 + k) = hrM M k + taM M e := by
    unfold ruL
    rw [gd_set, if_pos ⟨rfl, by omega⟩]
  refine Ev_ial rfl (i := 5 + k) (nI_add _ _) (show 5 + k < (ruL (M_s M) k (sgM M k ||| 2 ^ geM M e) (hrM M k + taM M e)).length by omega) (show (ruL (M_s M) k (sgM M k ||| 2 ^ geM M e) (hrM M k + taM M e)).length ≤ 1000 by omega) ?_
  refine Ev_rt rfl rfl ?_ rfl
  show some (Value.int (nI (gd (ruL (M_s M) k (sgM M k ||| 2 ^ geM M e) (hrM M k + taM M e)) (5 + k)))) = _
  rw [hg2]
theorem puN_len (L : List Nat) (m kd wh a b : Nat) : (puN L m kd wh a b).length = L.length := by
  unfold puN
  rw [List.length_set, List.length_set, List.length_set, List.length_set]
theorem noS_ex (kd wh a b : Nat) (hl : (M_ud M).length = 40) (hu : M_um M ≤ 10) : ∃ X m, X.length = 40 ∧ m ≤ 10 ∧ noS M kd wh a b = Ms_um (Ms_ud M X) m := by
  unfold noS
  split
  · exact ⟨puN (shF (M_ud M)) 9 kd wh a b, 10, (puN_len _ _ _ _ _ _).trans (shF_len hl), Nat.le_refl _, rfl⟩
  · exact ⟨puN (M_ud M) (M_um M) kd wh a b, M_um M + 1, (puN_len _ _ _ _ _ _).trans hl, by omega, rfl⟩
theorem udML {X : List Nat} {m : Nat} (hL : ML M) (hX : X.length = 40) : ML (Ms_um (Ms_ud M X) m) := by
  obtain ⟨l1, l2, l3, l4, l5, l6, l7, l8, l9, l10, l11⟩ := hL
  exact ⟨l1, l2, l3, l4, l5, l6, l7, l8, hX, l10, l11⟩
theorem cM_runs {k e : Nat} (hL : ML M) (hB : MB M) (hu : M_um M ≤ 10) (hk : k < M_kn M) (he : e < M_em M) (hc : canR (geM M e) (neM M e) (sgM M k) = true) (h9 : hrM M k + taM M e ≤ 99) : Cl mX9_runs [.ref 104, .int (nI k), .int (nI e)] (hp S M) (some (.int (nI (hrM M k + taM M e)))) (hp S (Ms_s (noS M 0 k (sgM M k) (hrM M k)) (ruL (M_s M) k (sgM M k ||| 2 ^ geM M e) (hrM M k + taM M e)))) := by
  have hb := hB.2.2.2.2.1
  have hb2 := hB.2.2.2.2.2.1
  have ls := hL.2.2.2.2.2.1
  have le := hL.2.2.2.1
  have b1 := (hB.1 k (by omega)).2
  have b2 := (hB.2.2.2.1 e (by omega)).2.1
  refine cM_runs_head S M hL hB hk he ?_
  rw [hc]
  refine Ev_br rfl (fun hc => absurd hc b1z) (fun _ => ?_)
  refine Ev_ial rfl (i := 5 + k) (nI_add _ _) (by omega) (by omega) ?_
  refine Ev_ial rfl (i := 3 * e + 1) (by rw [pk_mul, nI_add]) (by omega) (by omega) ?_
  refine Ev_br rfl (fun _ => ?_) (fun hc => ?_)
  · refine Ev_ial rfl (i := k) rfl (by omega) (by omega) ?_
    refine Ev_ial rfl (i := 5 + k) (nI_add _ _) (by omega) (by omega) ?_
    refine Ev_ca rfl (r_notes S M hL.2.2.2.2.2.2.2.2.1 hu) ?_
    obtain ⟨X, m, hX, -, eX⟩ := noS_ex M 0 k (sgM M k) (hrM M k) hL.2.2.2.2.2.2.2.2.1 hu
    rw [eX]
    exact cM_runs_tail S (Ms_um (Ms_ud M X) m) (udML M hL hX) hB (by omega) (by omega)
  · have hc : ¬ nI (hrM M k) + nI (taM M e) ≤ nI 99 := hc
    rw [nI_add, nI_leI (by omega) (by decide)] at hc
    omega
end

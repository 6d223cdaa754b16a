/-! the reference settles what a text has told -/
def stp1 (M : mS) (k : Nat) : mS := Ms_s (Ms_sg (Ms_rg M ((M_rg M).set k (gd (M_rg M) (5 + k)))) ((M_sg M).set k (gd (M_sg M) (5 + k)))) (((M_s M).set k (if k < M_kn M then gd (M_sg M) (5 + k) else 0)).set (5 + k) 0)
def stp2 (M : mS) (k : Nat) : mS := Ms_er M ((M_er M).set k (gd (M_er M) (18 + k)))
def stp3 (M : mS) (i : Nat) : mS := Ms_s M (((M_s M).set (10 + i) (if i < M_ru M then gd (M_td M) (8 + 2 * i) else 0)).set (14 + i) (if i < M_ru M then gd (M_td M) (9 + 2 * i) else 0))
def it1 (M : mS) : Nat → mS
  | 0 => M
  | k + 1 => stp1 (it1 M k) k
def it2 (M : mS) : Nat → mS
  | 0 => M
  | k + 1 => stp2 (it2 M k) k
def it3 (M : mS) : Nat → mS
  | 0 => M
  | k + 1 => stp3 (it3 M k) k
/-- as long as they are -/
def LL (M : mS) : Prop := (M_rg M).length = 10 ∧ (M_sg M).length = 10 ∧ (M_er M).length = 36 ∧ (M_td M).length = 16 ∧ (M_s M).length = 18 ∧ (M_ik M).length = 2 ∧ M_kn M ≤ 5 ∧ M_ru M ≤ 4
theorem LL_1 {M : mS} {k : Nat} (h : LL M) : LL (stp1 M k) := ⟨len_s h.1, len_s h.2.1, h.2.2.1, h.2.2.2.1, len_s (len_s h.2.2.2.2.1), h.2.2.2.2.2⟩
theorem LL_2 {M : mS} {k : Nat} (h : LL M) : LL (stp2 M k) := ⟨h.1, h.2.1, len_s h.2.2.1, h.2.2.2.1, h.2.2.2.2.1, h.2.2.2.2.2⟩
theorem LL_3 {M : mS} {k : Nat} (h : LL M) : LL (stp3 M k) := ⟨h.1, h.2.1, h.2.2.1, h.2.2.2.1, len_s (len_s h.2.2.2.2.1), h.2.2.2.2.2⟩
theorem LL_i1 {M : mS} (h : LL M) : ∀ k, LL (it1 M k)
  | 0 => h
  | k + 1 => LL_1 (LL_i1 h k)
theorem LL_i2 {M : mS} (h : LL M) : ∀ k, LL (it2 M k)
  | 0 => h
  | k + 1 => LL_2 (LL_i2 h k)
theorem LL_i3 {M : mS} (h : LL M) : ∀ k, LL (it3 M k)
  | 0 => h
  | k + 1 => LL_3 (LL_i3 h k)
section
variable (S : cS)
theorem r_s1a {M : mS} {k : Nat} {v : Option Value} {h' : aH} (h : LL M) (hk : k < 5) (kk : Ev [] mX9_settles (66, [some (.ref 104), some (.int (nI k))], [], hp S (Ms_rg M ((M_rg M).set k (gd (M_rg M) (5 + k))))) v h') : Ev [] mX9_settles (47, [some (.ref 104), some (.int (nI k))], [], hp S M) v h' := by
  have l := h.1
  refine Ev_br rfl (fun q => absurd q (nI_ge (show k < 5 by omega) (by decide))) (fun _ => ?_)
  refine Ev_ial rfl (i := 5 + k) (nI_add _ _) (by omega) (by omega) ?_
  exact Ev_isl rfl (i := k) (y := gd (M_rg M) (5 + k)) rfl rfl (by omega) (by omega) (h2 := hp S (Ms_rg M ((M_rg M).set k (gd (M_rg M) (5 + k))))) rfl kk
theorem r_s1b {M : mS} {k : Nat} {v : Option Value} {h' : aH} (h : LL M) (hk : k < 5) (kk : Ev [] mX9_settles (80, [some (.ref 104), some (.int (nI k))], [], hp S (Ms_sg M ((M_sg M).set k (gd (M_sg M) (5 + k))))) v h') : Ev [] mX9_settles (66, [some (.ref 104), some (.int (nI k))], [], hp S M) v h' := by
  have l := h.2.1
  refine Ev_ial rfl (i := 5 + k) (nI_add _ _) (by omega) (by omega) ?_
  exact Ev_isl rfl (i := k) (y := gd (M_sg M) (5 + k)) rfl rfl (by omega) (by omega) (h2 := hp S (Ms_sg M ((M_sg M).set k (gd (M_sg M) (5 + k))))) rfl kk
theorem r_s1c {M : mS} {k : Nat} {v : Option Value} {h' : aH} (h : LL M) (hk : k < 5) (kk : Ev [] mX9_settles (104, [some (.ref 104), some (.int (nI k))], [], hp S (Ms_s M ((M_s M).set k (if k < M_kn M then gd (M_sg M) k else 0)))) v h') : Ev [] mX9_settles (80, [some (.ref 104), some (.int (nI k))], [], hp S M) v h' := by
  obtain ⟨l1, l2, l3, l4, l5, l6, l7, l8⟩ := h
  refine Ev_br rfl (fun q => ?_) (fun q => ?_)
  · have q : nI (M_kn M) ≤ nI k := q
    rw [nI_leI (by omega) (by omega)] at q
    rw [if_neg (by omega)] at kk
    exact Ev_isl rfl (i := k) (y := 0) rfl rfl (by omega) (by omega) (h2 := hp S (Ms_s M ((M_s M).set k 0))) rfl kk
  · have q : ¬ nI (M_kn M) ≤ nI k := q
    rw [nI_leI (by omega) (by omega)] at q
    rw [if_pos (by omega)] at kk
    refine Ev_ial rfl (i := k) rfl (by omega) (by omega) ?_
    refine Ev_jp rfl ?_
    exact Ev_isl rfl (i := k) (y := gd (M_sg M) k) rfl rfl (by omega) (by omega) (h2 := hp S (Ms_s M ((M_s M).set k (gd (M_sg M) k)))) rfl kk
theorem r_s1d {M : mS} {k : Nat} {v : Option Value} {h' : aH} (h : LL M) (hk : k < 5) (kk : Ev [] mX9_settles (47, [some (.ref 104), some (.int (nI (k + 1)))], [], hp S (Ms_s M ((M_s M).set (5 + k) 0))) v h') : Ev [] mX9_settles (104, [some (.ref 104), some (.int (nI k))], [], hp S M) v h' := by
  have l := h.2.2.2.2.1
  refine Ev_isl rfl (i := 5 + k) (y := 0) (nI_add _ _) rfl (by omega) (by omega) (h2 := hp S (Ms_s M ((M_s M).set (5 + k) 0))) rfl ?_
  refine Ev_jpe rfl ?_ kk
  rw [nI_add]
  all_goals rfl
theorem r_s1 {M : mS} {k : Nat} {v : Option Value} {h' : aH} (h : LL M) (hk : k < 5) (kk : Ev [] mX9_settles (47, [some (.ref 104), some (.int (nI (k + 1)))], [], hp S (stp1 M k)) v h') : Ev [] mX9_settles (47, [some (.ref 104), some (.int (nI k))], [], hp S M) v h' := by
  have e : gd ((M_sg M).set k (gd (M_sg M) (5 + k))) k = gd (M_sg M) (5 + k) := gd_set_eq (by have := h.2.1; omega)
  have h1 : LL (Ms_rg M ((M_rg M).set k (gd (M_rg M) (5 + k)))) := ⟨len_s h.1, h.2⟩
  have h2 : LL (Ms_sg (Ms_rg M ((M_rg M).set k (gd (M_rg M) (5 + k)))) ((M_sg M).set k (gd (M_sg M) (5 + k)))) := ⟨len_s h.1, len_s h.2.1, h.2.2⟩
  refine r_s1a S h hk ?_
  refine r_s1b S h1 hk ?_
  refine r_s1c S h2 hk ?_
  refine r_s1d S (M := Ms_s (Ms_sg (Ms_rg M ((M_rg M).set k (gd (M_rg M) (5 + k)))) ((M_sg M).set k (gd (M_sg M) (5 + k)))) ((M_s M).set k (if k < M_kn M then gd ((M_sg M).set k (gd (M_sg M) (5 + k))) k else 0))) ⟨h2.1, h2.2.1, h2.2.2.1, h2.2.2.2.1, len_s h2.2.2.2.2.1, h2.2.2.2.2.2⟩ hk ?_
  rw [e]
  exact kk
theorem r_s1_loop {M : mS} {v : Option Value} {h' : aH} (h : LL M) (kk : ∀ z, Ev [] mX9_settles (119, [some (.ref 104), z], [], hp S (it1 M 5)) v h') : ∀ (d k : Nat), k + d = 5 → Ev [] mX9_settles (47, [some (.ref 104), some (.int (nI k))], [], hp S (it1 M k)) v h'
  | 0, k, e => by
    have e : k = 5 := by omega
    subst e
    exact Ev_br rfl (fun _ => kk _) (fun q => absurd (nI_le (Nat.le_refl 5) (by decide)) q)
  | d + 1, k, e => r_s1 S (LL_i1 h k) (by omega) (r_s1_loop h kk d (k + 1) (by omega))
theorem r_s2_loop {M : mS} {v : Option Value} {h' : aH} (h : LL M) (kk : ∀ z, Ev [] mX9_settles (148, [some (.ref 104), z], [], hp S (it2 M 18)) v h') : ∀ (d k : Nat), k + d = 18 → Ev [] mX9_settles (121, [some (.ref 104), some (.int (nI k))], [], hp S (it2 M k)) v h'
  | 0, k, e => by
    have e : k = 18 := by omega
    subst e
    exact Ev_br rfl (fun _ => kk _) (fun q => absurd (nI_le (Nat.le_refl 18) (by decide)) q)
  | d + 1, k, e => by
    have ih := r_s2_loop h kk d (k + 1) (by omega)
    have ih : Ev [] mX9_settles (121, [some (.ref 104), some (.int (nI (k + 1)))], [], hp S (stp2 (it2 M k) k)) v h' := ih
    have hh := LL_i2 h k
    generalize it2 M k = N at ih hh
    have l := hh.2.2.1
    refine Ev_br rfl (fun q => absurd q (nI_ge (show k < 18 by omega) (by decide))) (fun _ => ?_)
    refine Ev_ial rfl (i := 18 + k) (nI_add _ _) (by omega) (by omega) ?_
    refine Ev_isl rfl (i := k) (y := gd (M_er N) (18 + k)) rfl rfl (by omega) (by omega) (h2 := hp S (stp2 N k)) rfl ?_
    refine Ev_jpe rfl ?_ ih
    rw [nI_add]
    all_goals rfl
theorem r_s3a {M : mS} {k : Nat} {v : Option Value} {h' : aH} (h : LL M) (hk : k < 4) (kk : Ev [] mX9_settles (187, [some (.ref 104), some (.int (nI k))], [], hp S (Ms_s M ((M_s M).set (10 + k) (if k < M_ru M then gd (M_td M) (8 + 2 * k) else 0)))) v h') : Ev [] mX9_settles (155, [some (.ref 104), some (.int (nI k))], [], hp S M) v h' := by
  obtain ⟨l1, l2, l3, l4, l5, l6, l7, l8⟩ := h
  refine Ev_br rfl (fun q => ?_) (fun q => ?_)
  · have q : nI (M_ru M) ≤ nI k := q
    rw [nI_leI (by omega) (by omega)] at q
    rw [if_neg (by omega)] at kk
    exact Ev_isl rfl (i := 10 + k) (y := 0) (nI_add _ _) rfl (by omega) (by omega) (h2 := hp S (Ms_s M ((M_s M).set (10 + k) 0))) rfl kk
  · have q : ¬ nI (M_ru M) ≤ nI k := q
    rw [nI_leI (by omega) (by omega)] at q
    rw [if_pos (by omega)] at kk
    refine Ev_ial rfl (i := 8 + 2 * k) (by rw [← nI_add, ← pk_mul]) (by omega) (by omega) ?_
    refine Ev_jp rfl ?_
    exact Ev_isl rfl (i := 10 + k) (y := gd (M_td M) (8 + 2 * k)) (nI_add _ _) rfl (by omega) (by omega) (h2 := hp S (Ms_s M ((M_s M).set (10 + k) (gd (M_td M) (8 + 2 * k))))) rfl kk
theorem r_s3b {M : mS} {k : Nat} {v : Option Value} {h' : aH} (h : LL M) (hk : k < 4) (kk : Ev [] mX9_settles (150, [some (.ref 104), some (.int (nI (k + 1)))], [], hp S (Ms_s M ((M_s M).set (14 + k) (if k < M_ru M then gd (M_td M) (9 + 2 * k) else 0)))) v h') : Ev [] mX9_settles (187, [some (.ref 104), some (.int (nI k))], [], hp S M) v h' := by
  obtain ⟨l1, l2, l3, l4, l5, l6, l7, l8⟩ := h
  refine Ev_br rfl (fun q => ?_) (fun q => ?_)
  · have q : nI (M_ru M) ≤ nI k := q
    rw [nI_leI (by omega) (by omega)] at q
    rw [if_neg (by omega)] at kk
    refine Ev_isl rfl (i := 14 + k) (y := 0) (nI_add _ _) rfl (by omega) (by omega) (h2 := hp S (Ms_s M ((M_s M).set (14 + k) 0))) rfl ?_
    refine Ev_jpe rfl ?_ kk
    rw [nI_add]
    all_goals rfl
  · have q : ¬ nI (M_ru M) ≤ nI k := q
    rw [nI_leI (by omega) (by omega)] at q
    rw [if_pos (by omega)] at kk
    refine Ev_ial rfl (i := 9 + 2 * k) (by rw [← nI_add, ← pk_mul]) (by omega) (by omega) ?_
    refine Ev_jp rfl ?_
    refine Ev_isl rfl (i := 14 + k) (y := gd (M_td M) (9 + 2 * k)) (nI_add _ _) rfl (by omega) (by omega) (h2 := hp S (Ms_s M ((M_s M).set (14 + k) (gd (M_td M) (9 + 2 * k))))) rfl ?_
    refine Ev_jpe rfl ?_ kk
    rw [nI_add]
    all_goals rfl
theorem r_s3_loop {M : mS} {v : Option Value} {h' : aH} (h : LL M) (kk : ∀ z, Ev [] mX9_settles (225, [some (.ref 104), z], [], hp S (it3 M 4)) v h') : ∀ (d k : Nat), k + d = 4 → Ev [] mX9_settles (150, [some (.ref 104), some (.int (nI k))], [], hp S (it3 M k)) v h'
  | 0, k, e => by
    have e : k = 4 := by omega
    subst e
    exact Ev_br rfl (fun _ => kk _) (fun q => absurd (nI_le (Nat.le_refl 4) (by decide)) q)
  | d + 1, k, e => by
    have ih := r_s3_loop h kk d (k + 1) (by omega)
    have ih : Ev [] mX9_settles (150, [some (.ref 104), some (.int (nI (k + 1)))], [], hp S (stp3 (it3 M k) k)) v h' := ih
    have hh := LL_i3 h k
    generalize it3 M k = N at ih hh
    refine Ev_br rfl (fun q => absurd q (nI_ge (show k < 4 by omega) (by decide))) (fun _ => ?_)
    refine r_s3a S hh (by omega) ?_
    refine r_s3b S (M := Ms_s N ((M_s N).set (10 + k) (if k < M_ru N then gd (M_td N) (8 + 2 * k) else 0))) ⟨hh.1, hh.2.1, hh.2.2.1, hh.2.2.2.1, len_s hh.2.2.2.2.1, hh.2.2.2.2.2⟩ (by omega) ?_
    exact ih
theorem r_s4 {M : mS} {z : Option Value} (h : LL M) : Ev [] mX9_settles (225, [some (.ref 104), z], [], hp S M) none (hp S (Ms_ik (Ms_sm (Ms_um (Ms_ty M 0) 0) 0) (((M_ik M).set 0 0).set 1 0))) := by
  have l := h.2.2.2.2.2.1
  refine a_run_ev 9 rfl ?_
  refine Ev_h (h2 := hp S (Ms_sm (Ms_um (Ms_ty M 0) 0) 0)) rfl ?_
  refine Ev_ck rfl (a_inN (show 0 < ((M_ik M).map nI).length by rw [List.length_map]; omega) (show ((M_ik M).map nI).length < 2 ^ 31 by rw [List.length_map]; omega)) ?_
  refine Ev_h (h2 := hp S (Ms_ik (Ms_sm (Ms_um (Ms_ty M 0) 0) 0) ((M_ik M).set 0 0))) ?_ ?_
  · rw [show nI 0 &&& 1 = nI 0 by decide, show (M_ik (Ms_sm (Ms_um (Ms_ty M 0) 0) 0)).map nI = (M_ik M).map nI from rfl, a_mapset (M_ik M) 0 0 (by decide)]
    all_goals rfl
  refine Ev_ck rfl (a_inN (show 1 < (((M_ik M).set 0 0).map nI).length by rw [List.length_map, List.length_set]; omega) (show (((M_ik M).set 0 0).map nI).length < 2 ^ 31 by rw [List.length_map, List.length_set]; omega)) ?_
  refine Ev_h (h2 := hp S (Ms_ik (Ms_sm (Ms_um (Ms_ty M 0) 0) 0) (((M_ik M).set 0 0).set 1 0))) ?_ ?_
  · rw [show nI 0 &&& 1 = nI 0 by decide, show (M_ik (Ms_ik (Ms_sm (Ms_um (Ms_ty M 0) 0) 0) ((M_ik M).set 0 0))).map nI = ((M_ik M).set 0 0).map nI from rfl, a_mapset ((M_ik M).set 0 0) 1 0 (by decide)]
    all_goals rfl
  exact Ev_rt rfl rfl rfl rfl
/-- the counts are settled -/
def cntM (M : mS) (l : Nat) : mS := Ms_ru (Ms_em (Ms_kn (Ms_ld M l) (M_dk M)) (M_de M)) (M_du M)
theorem r_s0 {M : mS} {l : Nat} {v : Option Value} {h' : aH} (hl : (l = 0 ∧ M_dl M = kM9) ∨ (l < 256 ∧ M_dl M = nI l)) (kk : Ev [] mX9_settles (45, [some (.ref 104), none], [], hp S (cntM M l)) v h') : Cl mX9_settles [.ref 104] (hp S M) v h' := by
  have go : Ev [] mX9_settles (18, [some (.ref 104), none], [.int (nI l), .ref 104], hp S M) v h' := by
    refine a_run_ev 1 rfl ?_
    refine Ev_h (h2 := hp S (Ms_ld M l)) rfl ?_
    refine a_run_ev 12 rfl ?_
    refine Ev_h (h2 := hp S (cntM M l)) rfl ?_
    exact kk
  refine Ev_br rfl (fun q => ?_) (fun q => ?_)
  · have q : ¬ M_dl M = kM9 := q
    rcases hl with ⟨h1, h2⟩ | ⟨h1, h2⟩
    · exact absurd h2 q
    · refine a_run_ev 2 rfl ?_
      rw [h2]
      exact go
  · have q : ¬ ¬ M_dl M = kM9 := q
    rcases hl with ⟨h1, h2⟩ | ⟨h1, h2⟩
    · subst h1
      exact Ev_jp rfl go
    · rw [h2] at q
      exact absurd (kM9_ne l (by omega)) q
def setM (M : mS) (l : Nat) : mS := Ms_ik (Ms_sm (Ms_um (Ms_ty (it3 (it2 (it1 (cntM M l) 5) 18) 4) 0) 0) 0) (((M_ik M).set 0 0).set 1 0)
theorem it1_ik (M : mS) : ∀ k, M_ik (it1 M k) = M_ik M
  | 0 => rfl
  | k + 1 => it1_ik M k
theorem it2_ik (M : mS) : ∀ k, M_ik (it2 M k) = M_ik M
  | 0 => rfl
  | k + 1 => it2_ik M k
theorem it3_ik (M : mS) : ∀ k, M_ik (it3 M k) = M_ik M
  | 0 => rfl
  | k + 1 => it3_ik M k
theorem r_settles {M : mS} {l : Nat} (h : LL (cntM M l)) (hl : (l = 0 ∧ M_dl M = kM9) ∨ (l < 256 ∧ M_dl M = nI l)) : Cl mX9_settles [.ref 104] (hp S M) none (hp S (setM M l)) := by
  refine r_s0 S hl ?_
  refine a_run_ev 2 rfl ?_
  refine r_s1_loop S h (fun z => ?_) 5 0 rfl
  refine a_run_ev 2 rfl ?_
  refine r_s2_loop S (LL_i1 h 5) (fun z => ?_) 18 0 rfl
  refine a_run_ev 2 rfl ?_
  refine r_s3_loop S (LL_i2 (LL_i1 h 5) 18) (fun z => ?_) 4 0 rfl
  have q := r_s4 S (z := z) (LL_i3 (LL_i2 (LL_i1 h 5) 18) 4)
  rw [it3_ik, it2_ik, it1_ik] at q
  exact q
end

/-! both drafts: what stays, what is the same in both -/
abbrev kM10 : Int32 := a_k (.negSucc 9)
/-- what of the reference no piece of a text changes -/
def frM (M : mS) : List Nat × Nat × Nat × Nat × Nat × Nat × Nat × List Nat × List Nat × List Nat × List Nat × Nat × List Nat × List Nat × Nat := (M_tx M, M_ty M, M_tr M, M_ld M, M_kn M, M_em M, M_ru M, M_s M, M_kp M, M_ik M, M_ud M, M_um M, M_ss M, M_sh M, M_sm M)
def FR (M M' : mS) : Prop := frM M' = frM M ∧ (∀ k, k < 5 → gd (M_rg M') k = gd (M_rg M) k) ∧ (∀ k, k < 18 → gd (M_er M') k = gd (M_er M) k)
theorem FR_refl (M : mS) : FR M M := ⟨rfl, fun _ _ => rfl, fun _ _ => rfl⟩
theorem FR_trans {M M1 M2 : mS} (h1 : FR M M1) (h2 : FR M1 M2) : FR M M2 := ⟨h2.1.trans h1.1, fun k hk => (h2.2.1 k hk).trans (h1.2.1 k hk), fun k hk => (h2.2.2 k hk).trans (h1.2.2 k hk)⟩
def MDr (M : mS) : Prop := (∀ k, gd (M_rg M) k < 2) ∧ (∀ k, gd (M_sg M) k < 256) ∧ (∀ e, gd (M_er M) (3 * e) < 8 ∧ gd (M_er M) (3 * e + 1) < 10 ∧ gd (M_er M) (3 * e + 2) < 10) ∧ (∀ j, gd (M_td M) (2 * j) < 256 ∧ gd (M_td M) (2 * j + 1) < 9)
/-- a state of the reference behind a piece of a text -/
def MOK (M M' : mS) : Prop := ML M' ∧ MDr M' ∧ FR M M'
theorem MOK_trans {M M1 M2 : mS} (h1 : MOK M M1) (h2 : MOK M1 M2) : MOK M M2 := ⟨h2.1, h2.2.1, FR_trans h1.2.2 h2.2.2⟩
theorem MOK_refl {M : mS} (h1 : ML M) (h2 : MDr M) : MOK M M := ⟨h1, h2, FR_refl M⟩
theorem MOK_g {M M1 : mS} (h : MOK M M1) (a b t : Nat) (v f : Int32) : MOK M (gM M1 a b t v f) := h
theorem MOK_f {M M1 : mS} (h : MOK M M1) (f : Int32) : MOK M (Ms_fa M1 f) := h
theorem FR_txt {M M' : mS} (h : FR M M') (hT : TXM M) : TXM M' ∧ chM M' = chM M := by
  have e1 : M_tx M' = M_tx M := congrArg (fun q => q.1) h.1
  have e2 : M_ty M' = M_ty M := congrArg (fun q => q.2.1) h.1
  unfold TXM chM
  rw [e1, e2]
  exact ⟨hT, rfl⟩
def DB (S : cS) : Prop := HoL (C_dr S) ∧ HoB (C_dr S) ∧ (∀ i, gd (ho_F (C_dr S)).2.1 i = 0)
def CF (S S' : cS) : Prop := ∃ d l p, S' = fr S d l p
theorem CF_trans {S S1 S2 : cS} (h1 : CF S S1) (h2 : CF S1 S2) : CF S S2 := by
  obtain ⟨d, l, p, rfl⟩ := h1
  obtain ⟨d2, l2, p2, rfl⟩ := h2
  exact ⟨d2, l2, p2, rfl⟩
theorem CF_refl (S : cS) : CF S S := ⟨C_dr S, C_lt S, C_pl S, rfl⟩
theorem CF_HT {S S' : cS} {c : Nat → Nat} {m : Nat} (h : CF S S') (hT : HT S c m) : HT S' c m := by
  obtain ⟨d, l, p, rfl⟩ := h
  exact hT
/-- the drafts are the same -/
def RD (d : Ho) (lt : Nat) (M : mS) : Prop := M_dk M = ho_K d ∧ M_de M = ho_E d ∧ M_du M = ho_U d ∧ ((lt = 0 ∧ M_dl M = kM9 ∧ ho_L d = 0) ∨ (lt = 1 ∧ M_dl M = nI (ho_L d))) ∧ (∀ k, k < ho_K d → gd (M_rg M) (5 + k) = gd (ho_R d) k ∧ gd (M_sg M) (5 + k) = gd (ho_F d).1 k) ∧ (∀ e, e < ho_E d → gd (M_er M) (18 + 3 * e) = gd (ho_G d) e ∧ gd (M_er M) (18 + 3 * e + 1) = gd (ho_T d) e ∧ gd (M_er M) (18 + 3 * e + 2) = gd (ho_N d) e ∧ 1 ≤ gd (ho_T d) e) ∧ (∀ i, i < ho_U d → gd (M_td M) (8 + 2 * i) = gd (ho_F d).2.2.1 i ∧ gd (M_td M) (9 + 2 * i) = gd (ho_F d).2.2.2 i)
theorem gd_set_lt {L : List Nat} {i x B : Nat} (h : ∀ k, gd L k < B) (hx : x < B) (k : Nat) : gd (L.set i x) k < B := by
  rw [gd_set]
  split
  · exact hx
  · exact h k
theorem gd_set_ne {L : List Nat} {i x k : Nat} (h : i ≠ k) : gd (L.set i x) k = gd L k := by
  rw [gd_set, if_neg (fun q => h q.1)]
theorem gd_set_eq {L : List Nat} {i x : Nat} (h : i < L.length) : gd (L.set i x) i = x := by
  rw [gd_set, if_pos ⟨rfl, h⟩]
-- LOUD
theorem loud_M {M M1 : mS} (h : MOK M M1) (x : Int32) : MOK M (Ms_dl M1 x) := h
theorem loud_D {S : cS} {x : Nat} (h : DB S) (hx : x < 256) {l p : Nat} : DB (fr S (hos_L (C_dr S) x) l p) := by
  obtain ⟨h1, h2, h3⟩ := h
  exact ⟨h1, ⟨h2.1, h2.2.1, h2.2.2.1, h2.2.2.2.1, h2.2.2.2.2.1, hx, h2.2.2.2.2.2.2⟩, h3⟩
theorem loud_RD {d : Ho} {M M1 : mS} {x lt : Nat} (h : RD d lt M) (e : (M_rg M1, M_sg M1, M_er M1, M_td M1, M_dk M1, M_de M1, M_du M1) = (M_rg M, M_sg M, M_er M, M_td M, M_dk M, M_de M, M_du M)) : RD (hos_L d x) 1 (Ms_dl M1 (nI x)) := by
  have e1 : M_rg M1 = M_rg M := congrArg (fun q => q.1) e
  have e2 : M_sg M1 = M_sg M := congrArg (fun q => q.2.1) e
  have e3 : M_er M1 = M_er M := congrArg (fun q => q.2.2.1) e
  have e4 : M_td M1 = M_td M := congrArg (fun q => q.2.2.2.1) e
  have e5 : M_dk M1 = M_dk M := congrArg (fun q => q.2.2.2.2.1) e
  have e6 : M_de M1 = M_de M := congrArg (fun q => q.2.2.2.2.2.1) e
  have e7 : M_du M1 = M_du M := congrArg (fun q => q.2.2.2.2.2.2) e
  obtain ⟨a1, a2, a3, a4, a5, a6, a7⟩ := h
  refine ⟨e5.trans a1, e6.trans a2, e7.trans a3, Or.inr ⟨rfl, rfl⟩, ?_, ?_, ?_⟩
  · intro k hk
    show gd (M_rg M1) (5 + k) = _ ∧ gd (M_sg M1) (5 + k) = _
    rw [e1, e2]
    exact a5 k hk
  · intro k hk
    show gd (M_er M1) (18 + 3 * k) = _ ∧ gd (M_er M1) (18 + 3 * k + 1) = _ ∧ gd (M_er M1) (18 + 3 * k + 2) = _ ∧ _
    rw [e3]
    exact a6 k hk
  · intro k hk
    show gd (M_td M1) (8 + 2 * k) = _ ∧ gd (M_td M1) (9 + 2 * k) = _
    rw [e4]
    exact a7 k hk
-- KNOCKER
theorem kn_M {M M1 : mS} (h : MOK M M1) {r x : Nat} (hr : r < 2) (hx : x < 256) : MOK M (kpM M1 r x) := by
  obtain ⟨h1, ⟨b1, b2, b3, b4⟩, h3⟩ := h
  obtain ⟨l1, l2, l3, l4⟩ := h1
  refine ⟨⟨l1, len_s l2, len_s l3, l4⟩, ⟨fun k => gd_set_lt b1 hr k, fun k => gd_set_lt b2 hx k, b3, b4⟩, ⟨h3.1, fun k hk => ?_, h3.2.2⟩⟩
  exact (gd_set_ne (by omega)).trans (h3.2.1 k hk)
theorem kn_D {S : cS} {r x : Nat} (h : DB S) (hK : ho_K (C_dr S) < 5) (hr : r < 2) (hx : x < 256) {l p : Nat} : DB (fr S (kpD (C_dr S) r x) l p) := by
  obtain ⟨⟨⟨f1, f2, f3, f4⟩, l2, l3, l4, l5⟩, ⟨⟨g1, g2, g3, g4⟩, b2, b3, b4, b5, b6, b7, b8, b9⟩, h3⟩ := h
  exact ⟨⟨⟨len_s f1, f2, f3, f4⟩, len_s l2, l3, l4, l5⟩, ⟨⟨fun k => gd_set_lt g1 hx k, g2, g3, g4⟩, fun k => gd_set_lt b2 hr k, b3, b4, b5, b6, hK, b8, b9⟩, h3⟩
theorem kn_RD {d : Ho} {M : mS} {r x lt : Nat} (hL : ML M) (hH : HoL d) (hK : ho_K d < 5) (h : RD d lt M) : RD (kpD d r x) lt (kpM M r x) := by
  obtain ⟨a1, a2, a3, a4, a5, a6, a7⟩ := h
  have lr := hL.2.1
  have lg := hL.2.2.1
  have hr := hH.2.1
  have hf := hH.1.1
  refine ⟨congrArg (· + 1) a1, a2, a3, a4, ?_, a6, a7⟩
  intro k hk
  have hk : k < ho_K d + 1 := hk
  show gd ((M_rg M).set (5 + M_dk M) r) (5 + k) = gd ((ho_R d).set (ho_K d) r) k ∧ gd ((M_sg M).set (5 + M_dk M) x) (5 + k) = gd ((ho_F d).1.set (ho_K d) x) k
  rw [a1]
  by_cases e : ho_K d = k
  · subst e
    rw [gd_set_eq (by omega), gd_set_eq (by omega), gd_set_eq (by omega), gd_set_eq (by omega)]
    exact ⟨rfl, rfl⟩
  · rw [gd_set_ne (by omega), gd_set_ne e, gd_set_ne (by omega), gd_set_ne e]
    exact a5 k (by omega)
-- ERRAND
theorem er_M {M M1 : mS} (h : MOK M M1) {g t n : Nat} (hg : g < 8) (ht : t < 10) (hn : n < 10) : MOK M (Ms_de (Ms_er M1 (erS M1 g t n)) (M_de M1 + 1)) := by
  obtain ⟨h1, ⟨b1, b2, b3, b4⟩, h3⟩ := h
  obtain ⟨l1, l2, l3, l4, l5⟩ := h1
  refine ⟨⟨l1, l2, l3, len_s (len_s (len_s l4)), l5⟩, ⟨b1, b2, fun e => ?_, b4⟩, ⟨h3.1, h3.2.1, fun k hk => ?_⟩⟩
  · show gd ((((M_er M1).set (18 + 3 * M_de M1) g).set (18 + 3 * M_de M1 + 1) t).set (18 + 3 * M_de M1 + 2) n) (3 * e) < 8 ∧ gd ((((M_er M1).set (18 + 3 * M_de M1) g).set (18 + 3 * M_de M1 + 1) t).set (18 + 3 * M_de M1 + 2) n) (3 * e + 1) < 10 ∧ gd ((((M_er M1).set (18 + 3 * M_de M1) g).set (18 + 3 * M_de M1 + 1) t).set (18 + 3 * M_de M1 + 2) n) (3 * e + 2) < 10
    obtain ⟨q1, q2, q3⟩ := b3 e
    refine ⟨?_, ?_, ?_⟩
    · rw [gd_set_ne (by omega), gd_set_ne (by omega), gd_set]
      split <;> omega
    · rw [gd_set_ne (by omega), gd_set]
      split
      · omega
      · rw [gd_set_ne (by omega)]; omega
    · rw [gd_set]
      split
      · omega
      · rw [gd_set_ne (by omega), gd_set_ne (by omega)]; omega
  · show gd ((((M_er M1).set (18 + 3 * M_de M1) g).set (18 + 3 * M_de M1 + 1) t).set (18 + 3 * M_de M1 + 2) n) k = gd (M_er M) k
    rw [gd_set_ne (by omega), gd_set_ne (by omega), gd_set_ne (by omega)]
    exact h3.2.2 k hk
theorem er_D {S : cS} {g t n : Nat} (h : DB S) (hE : ho_E (C_dr S) < 6) (hg : g < 8) (ht : t < 10) (hn : n < 10) {l p : Nat} : DB (fr S (ekD (C_dr S) g t n) l p) := by
  obtain ⟨⟨f, l2, l3, l4, l5⟩, ⟨g1, b2, b3, b4, b5, b6, b7, b8, b9⟩, h3⟩ := h
  exact ⟨⟨f, l2, len_s l3, len_s l4, len_s l5⟩, ⟨g1, b2, fun k => gd_set_lt b3 hg k, fun k => gd_set_lt b4 ht k, fun k => gd_set_lt b5 hn k, b6, b7, hE, b9⟩, h3⟩
theorem er_RD {d : Ho} {M : mS} {g t n lt : Nat} (hL : ML M) (hH : HoL d) (hE : ho_E d < 6) (ht1 : 1 ≤ t) (h : RD d lt M) : RD (ekD d g t n) lt (Ms_de (Ms_er M (erS M g t n)) (M_de M + 1)) := by
  obtain ⟨a1, a2, a3, a4, a5, a6, a7⟩ := h
  have le := hL.2.2.2.1
  have h1 := hH.2.2.1
  have h2 := hH.2.2.2.1
  have h3 := hH.2.2.2.2
  refine ⟨a1, congrArg (· + 1) a2, a3, a4, a5, ?_, a7⟩
  intro e he
  have he : e < ho_E d + 1 := he
  show gd ((((M_er M).set (18 + 3 * M_de M) g).set (18 + 3 * M_de M + 1) t).set (18 + 3 * M_de M + 2) n) (18 + 3 * e) = gd ((ho_G d).set (ho_E d) g) e ∧ gd ((((M_er M).set (18 + 3 * M_de M) g).set (18 + 3 * M_de M + 1) t).set (18 + 3 * M_de M + 2) n) (18 + 3 * e + 1) = gd ((ho_T d).set (ho_E d) t) e ∧ gd ((((M_er M).set (18 + 3 * M_de M) g).set (18 + 3 * M_de M + 1) t).set (18 + 3 * M_de M + 2) n) (18 + 3 * e + 2) = gd ((ho_N d).set (ho_E d) n) e ∧ 1 ≤ gd ((ho_T d).set (ho_E d) t) e
  rw [a2]
  by_cases q : ho_E d = e
  · subst q
    refine ⟨?_, ?_, ?_, ?_⟩
    · rw [gd_set_ne (by omega), gd_set_ne (by omega), gd_set_eq (by omega), gd_set_eq (by omega)]
    · rw [gd_set_ne (by omega), gd_set_eq (by rw [List.length_set]; omega), gd_set_eq (by omega)]
    · rw [gd_set_eq (by rw [List.length_set, List.length_set]; omega), gd_set_eq (by omega)]
    · rw [gd_set_eq (by omega)]; exact ht1
  · obtain ⟨w1, w2, w3, w4⟩ := a6 e (by omega)
    refine ⟨?_, ?_, ?_, ?_⟩
    · rw [gd_set_ne (by omega), gd_set_ne (by omega), gd_set_ne (by omega), gd_set_ne q, w1]
    · rw [gd_set_ne (by omega), gd_set_ne (by omega), gd_set_ne (by omega), gd_set_ne q, w2]
    · rw [gd_set_ne (by omega), gd_set_ne (by omega), gd_set_ne (by omega), gd_set_ne q, w3]
    · rw [gd_set_ne q]; exact w4
-- RULE
theorem ru_M {M M1 : mS} (h : MOK M M1) {x n : Nat} (hx : x < 256) (hn : n < 9) : MOK M (rkM M1 x n) := by
  obtain ⟨h1, ⟨b1, b2, b3, b4⟩, h3⟩ := h
  obtain ⟨l1, l2, l3, l4, l5, l6⟩ := h1
  refine ⟨⟨l1, l2, l3, l4, len_s (len_s l5), l6⟩, ⟨b1, b2, b3, fun j => ?_⟩, h3⟩
  show gd (((M_td M1).set (8 + 2 * M_du M1) x).set (9 + 2 * M_du M1) n) (2 * j) < 256 ∧ gd (((M_td M1).set (8 + 2 * M_du M1) x).set (9 + 2 * M_du M1) n) (2 * j + 1) < 9
  obtain ⟨q1, q2⟩ := b4 j
  refine ⟨?_, ?_⟩
  · rw [gd_set_ne (by omega), gd_set]
    split <;> omega
  · rw [gd_set]
    split
    · omega
    · rw [gd_set_ne (by omega)]; omega
theorem ru_D {S : cS} {x n : Nat} (h : DB S) (hU : ho_U (C_dr S) < 4) (hx : x < 256) (hn : n < 9) {l p : Nat} : DB (fr S (rkD (C_dr S) x n) l p) := by
  obtain ⟨⟨⟨f1, f2, f3, f4⟩, l2, l3, l4, l5⟩, ⟨⟨g1, g2, g3, g4⟩, b2, b3, b4, b5, b6, b7, b8, b9⟩, h3⟩ := h
  exact ⟨⟨⟨f1, f2, len_s f3, len_s f4⟩, l2, l3, l4, l5⟩, ⟨⟨g1, g2, fun k => gd_set_lt g3 hx k, fun k => gd_set_lt g4 hn k⟩, b2, b3, b4, b5, b6, b7, b8, hU⟩, h3⟩
theorem ru_RD {d : Ho} {M : mS} {x n lt : Nat} (hL : ML M) (hH : HoL d) (hU : ho_U d < 4) (h : RD d lt M) : RD (rkD d x n) lt (rkM M x n) := by
  obtain ⟨a1, a2, a3, a4, a5, a6, a7⟩ := h
  have l := hL.2.2.2.2.1
  have h1 := hH.1.2.2.1
  have h2 := hH.1.2.2.2
  refine ⟨a1, a2, congrArg (· + 1) a3, a4, a5, a6, ?_⟩
  intro i hi
  have hi : i < ho_U d + 1 := hi
  show gd (((M_td M).set (8 + 2 * M_du M) x).set (9 + 2 * M_du M) n) (8 + 2 * i) = gd ((ho_F d).2.2.1.set (ho_U d) x) i ∧ gd (((M_td M).set (8 + 2 * M_du M) x).set (9 + 2 * M_du M) n) (9 + 2 * i) = gd ((ho_F d).2.2.2.set (ho_U d) n) i
  rw [a3]
  by_cases q : ho_U d = i
  · subst q
    refine ⟨?_, ?_⟩
    · rw [gd_set_ne (by omega), gd_set_eq (by omega), gd_set_eq (by omega)]
    · rw [gd_set_eq (by rw [List.length_set]; omega), gd_set_eq (by omega)]
  · obtain ⟨w1, w2⟩ := a7 i (by omega)
    refine ⟨?_, ?_⟩
    · rw [gd_set_ne (by omega), gd_set_ne (by omega), gd_set_ne q, w1]
    · rw [gd_set_ne (by omega), gd_set_ne (by omega), gd_set_ne q, w2]

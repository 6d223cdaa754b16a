/-! house() in both -/
theorem bt_0 (i : Nat) : bt 0 i = 0 := by
  unfold bt
  rw [Nat.zero_div]
theorem sUf_congr {M M' : mS} (e1 : M_um M' = M_um M) (e2 : M_ud M' = M_ud M) (e3 : M_s M' = M_s M) : ∀ j, sUf M' j = sUf M j
  | 0 => by show gd (M_s M') = gd (M_s M); rw [e3]
  | j + 1 => by
    have ih := sUf_congr e1 e2 e3 j
    show apF (gd (M_ud M') (4 * (M_um M' - 1 - j) + 0)) (gd (M_ud M') (4 * (M_um M' - 1 - j) + 1)) (gd (M_ud M') (4 * (M_um M' - 1 - j) + 2)) (gd (M_ud M') (4 * (M_um M' - 1 - j) + 3)) (sUf M' j) = apF (gd (M_ud M) (4 * (M_um M - 1 - j) + 0)) (gd (M_ud M) (4 * (M_um M - 1 - j) + 1)) (gd (M_ud M) (4 * (M_um M - 1 - j) + 2)) (gd (M_ud M) (4 * (M_um M - 1 - j) + 3)) (sUf M j)
    rw [ih, e1, e2]
theorem Inv_FR {S : cS} {M M' : mS} (h : Inv S M) (hL : ML M') (hD : MDr M') (hF : FR M M') : Inv S M' := by
  obtain ⟨hC, ⟨w1, w2, w3, w4, w5, w6, w7, w8⟩, ⟨h1, h2, h3, h4, h5, h6⟩, hN, ⟨t1, t2⟩, ⟨u1, u2⟩, hI, ⟨s1, s2⟩, hTr⟩ := h
  obtain ⟨f1, f2, f3⟩ := hF
  have e1 : M_tx M' = M_tx M := congrArg (fun q => q.1) f1
  have e2 : M_ty M' = M_ty M := congrArg (fun q => q.2.1) f1
  have e3 : M_tr M' = M_tr M := congrArg (fun q => q.2.2.1) f1
  have e4 : M_ld M' = M_ld M := congrArg (fun q => q.2.2.2.1) f1
  have e5 : M_kn M' = M_kn M := congrArg (fun q => q.2.2.2.2.1) f1
  have e6 : M_em M' = M_em M := congrArg (fun q => q.2.2.2.2.2.1) f1
  have e7 : M_ru M' = M_ru M := congrArg (fun q => q.2.2.2.2.2.2.1) f1
  have e8 : M_s M' = M_s M := congrArg (fun q => q.2.2.2.2.2.2.2.1) f1
  have e9 : M_kp M' = M_kp M := congrArg (fun q => q.2.2.2.2.2.2.2.2.1) f1
  have e10 : M_ik M' = M_ik M := congrArg (fun q => q.2.2.2.2.2.2.2.2.2.1) f1
  have e11 : M_ud M' = M_ud M := congrArg (fun q => q.2.2.2.2.2.2.2.2.2.2.1) f1
  have e12 : M_um M' = M_um M := congrArg (fun q => q.2.2.2.2.2.2.2.2.2.2.2.1) f1
  have e13 : M_ss M' = M_ss M := congrArg (fun q => q.2.2.2.2.2.2.2.2.2.2.2.2.1) f1
  have e14 : M_sh M' = M_sh M := congrArg (fun q => q.2.2.2.2.2.2.2.2.2.2.2.2.2.1) f1
  have e15 : M_sm M' = M_sm M := congrArg (fun q => q.2.2.2.2.2.2.2.2.2.2.2.2.2.2) f1
  have hE6 := hC.2.1.2.1.2.2.2.2.2.2.2.1
  have hK5 := hC.2.1.2.1.2.2.2.2.2.2.1
  refine ⟨hC, ⟨hL, ?_, hD, ?_, ?_, by rw [e12]; exact w6, ?_, ?_⟩, ⟨e5.trans h1, e6.trans h2, e7.trans h3, e4.trans h4, fun k hk => (f2 k (by omega)).trans (h5 k hk), fun e he => ?_⟩, ?_, ⟨e2.trans t1, ?_⟩, ⟨e12.trans u1, ?_⟩, ?_, ⟨e15.trans s1, ?_⟩, e3.trans hTr⟩
  · unfold MB sgM hrM seM maM
    rw [e8, e5, e6, e7, e4]
    exact ⟨w2.1, w2.2.1, fun k _ => hD.1 k, fun e _ => hD.2.2.1 e, w2.2.2.2.2⟩
  · unfold TXM
    rw [e1, e2]
    exact w4
  · unfold MS
    rw [e13, e14, e15]
    exact w5
  · unfold udOK udM
    rw [e11, e12]
    exact w7
  · unfold kpOK
    rw [e9]
    exact w8
  · unfold geM taM neM
    rw [f3 _ (by omega), f3 _ (by omega), f3 _ (by omega)]
    exact h6 e he
  · rw [e8]; exact hN
  · rw [e1]; exact t2
  · intro j hj
    rw [sUf_congr e12 e11 e8]
    exact u2 j hj
  · unfold JI2
    rw [e9, e10]
    exact hI
  · rw [e13, e14]; exact s2
theorem Inv_tok {S : cS} {M : mS} (h : Inv S M) {a b e : List Int32} (ht : tl3 (tkS S a b e)) {d : Ho} {l p : Nat} (hD : DB (fr (tkS S a b e) d l p)) : Inv (fr (tkS S a b e) d l p) M := by
  obtain ⟨⟨⟨c1, c2, _⟩, ⟨c3, c4, _⟩, c5⟩, h2⟩ := h
  exact ⟨⟨⟨c1, c2, ht⟩, ⟨c3, c4, hD⟩, c5⟩, h2⟩
/-- behind a whole text -/
theorem Inv_set {S : cS} {M : mS} (h : Inv S M) (hL : ML M) (hD : MDr M) {lt : Nat} (hRD : RD (C_dr S) lt M) : Inv (hsS S) (setM M (ho_L (C_dr S))) := by
  obtain ⟨⟨⟨c1, c2, c3⟩, ⟨c4, c5, c6⟩, ⟨c7, c8, c9, c10⟩, ⟨c11, c12, c13⟩, c14, ⟨c15, c16, c17, c18, c19⟩⟩, ⟨w1, w2, w3, w4, w5, w6, w7, w8⟩, ⟨h1, h2, h3, h4, h5, h6⟩, hN, ⟨t1, t2⟩, ⟨u1, u2⟩, hI, ⟨s1, s2⟩, hTr⟩ := h
  obtain ⟨r1, r2, r3, r4, r5, r6, r7⟩ := hRD
  obtain ⟨d1, d2, d3⟩ := c6
  have hK5 := d2.2.2.2.2.2.2.1
  have hE6 := d2.2.2.2.2.2.2.2.1
  have hU4 := d2.2.2.2.2.2.2.2.2
  have hLd := d2.2.2.2.2.2.1
  obtain ⟨l1, l2, l3, l4, l5, l6, l7, l8, l9, l10, l11⟩ := hL
  have hLL : LL (cntM M (ho_L (C_dr S))) := ⟨l2, l3, l4, l5, l6, l8, by show M_dk M ≤ 5; omega, by show M_du M ≤ 4; omega⟩
  obtain ⟨⟨a1, a2, a3, a4, a5, a6, a7, a8, a9, a10, a11⟩, ⟨b1, b2, b3, b4, b5⟩, ⟨g1, g2, g3⟩, ⟨g4, g5⟩, g6, g7, g8, g9⟩ := setM_all hLL
  generalize setM M (ho_L (C_dr S)) = N at a1 a2 a3 a4 a5 a6 a7 a8 a9 a10 a11 b1 b2 b3 b4 b5 g1 g2 g3 g4 g5 g6 g7 g8 g9 ⊢
  obtain ⟨m1, m2, m3, m4⟩ := hD
  have hM3 : MDr N := by
    refine ⟨fun k => ?_, fun k => ?_, fun e => ?_, ?_⟩
    · rw [g1]
      split
      · exact m1 _
      · exact m1 _
    · rw [g2]
      split
      · exact m2 _
      · exact m2 _
    · rw [g3, g3, g3]
      by_cases q : e < 6
      · rw [if_pos (by omega), if_pos (by omega), if_pos (by omega), show 18 + 3 * e = 3 * (6 + e) by omega, show 18 + (3 * e + 1) = 3 * (6 + e) + 1 by omega, show 18 + (3 * e + 2) = 3 * (6 + e) + 2 by omega]
        exact m3 (6 + e)
      · rw [if_neg (by omega), if_neg (by omega), if_neg (by omega)]
        exact m3 e
    · rw [a2]; exact m4
  have hMB : MB N := by
    refine ⟨fun k hk => ?_, fun i hi => ?_, fun k _ => hM3.1 k, fun e _ => hM3.2.2.1 e, by rw [a3]; omega, by rw [a4]; omega, by rw [a5]; omega, by rw [a6]; exact hLd⟩
    · obtain ⟨q1, q2⟩ := g4 k hk
      show gd (M_s N) k < 256 ∧ gd (M_s N) (5 + k) < 100
      rw [q1, q2]
      refine ⟨?_, by decide⟩
      split
      · exact m2 _
      · decide
    · obtain ⟨q1, q2⟩ := g5 i hi
      show gd (M_s N) (10 + i) < 256 ∧ gd (M_s N) (14 + i) < 9
      rw [q1, q2, show 8 + 2 * i = 2 * (4 + i) by omega, show 9 + 2 * i = 2 * (4 + i) + 1 by omega]
      have := m4 (4 + i)
      refine ⟨?_, ?_⟩
      · split
        · exact this.1
        · decide
      · split
        · exact this.2
        · decide
  refine ⟨⟨⟨c1, Nat.zero_le _, c3⟩, ⟨d1, d2, d1, d2, d3⟩, ⟨d1.1, d2.1, c9, c10⟩, ⟨c11, Nat.zero_le _, show 0 < 4 by decide⟩, c14, ⟨c15, c16, Nat.zero_le _, c18, c19⟩⟩, ⟨⟨by rw [a1]; exact l1, b1, b2, b3, by rw [a2]; exact l5, b4, by rw [a7]; exact l7, b5, by rw [a8]; exact l9, by rw [a9]; exact l10, by rw [a10]; exact l11⟩, hMB, hM3, ⟨by rw [a1]; exact l1, by rw [g7]; exact Nat.zero_le _, by rw [a1]; exact w4.2.2⟩, ⟨by rw [g9]; exact Nat.zero_le _, by rw [a9, a10]; exact w5.2⟩, by rw [g8]; exact Nat.zero_le _, fun q hq => by rw [g8] at hq; omega, by unfold kpOK; rw [a7]; exact w8⟩, ⟨a3.trans r1, a4.trans r2, a5.trans r3, a6, fun k hk => ?_, fun e he => ?_⟩, ⟨fun k hk => ?_, fun i hi => ?_⟩, ⟨g7, fun q hq => absurd hq (Nat.not_lt_zero q)⟩, ⟨g8, fun q hq => absurd hq (Nat.not_lt_zero q)⟩, fun i hi => ⟨?_, fun q => ?_⟩, ⟨g9, fun q hq => absurd hq (Nat.not_lt_zero q)⟩, a11.trans hTr⟩
  · have hk : k < ho_K (C_dr S) := hk
    show gd (M_rg N) k = gd (ho_R (C_dr S)) k
    rw [g1, if_pos (by omega)]
    exact (r5 k hk).1
  · have he : e < ho_E (C_dr S) := he
    obtain ⟨q1, q2, q3, q4⟩ := r6 e he
    show gd (M_er N) (3 * e) = gd (ho_G (C_dr S)) e ∧ gd (M_er N) (3 * e + 1) = gd (ho_T (C_dr S)) e ∧ gd (M_er N) (3 * e + 2) = gd (ho_N (C_dr S)) e ∧ 1 ≤ gd (ho_T (C_dr S)) e
    rw [g3, g3, g3, if_pos (by omega), if_pos (by omega), if_pos (by omega)]
    exact ⟨q1, q2, q3, q4⟩
  · have hk : k < ho_K (C_dr S) := hk
    obtain ⟨q1, q2⟩ := g4 k (by omega)
    show gd (M_s N) k = gd (ho_F (C_dr S)).1 k ∧ gd (M_s N) (5 + k) = gd (ho_F (C_dr S)).2.1 k
    rw [q1, q2, if_pos (by omega), d3]
    exact ⟨(r5 k hk).2, rfl⟩
  · have hi : i < ho_U (C_dr S) := hi
    obtain ⟨q1, q2⟩ := g5 i (by omega)
    show gd (M_s N) (10 + i) = gd (ho_F (C_dr S)).2.2.1 i ∧ gd (M_s N) (14 + i) = gd (ho_F (C_dr S)).2.2.2 i
    rw [q1, q2, if_pos (by omega), if_pos (by omega)]
    exact r7 i hi
  · rw [g6 i hi]
    exact (bt_0 i).symm
  · have q : bt 0 i = 1 := q
    rw [bt_0] at q
    cases q
/-- the reference, before the first piece -/
def hM0 (M : mS) : mS := Ms_du (Ms_de (Ms_dk (Ms_dl (Ms_nx (Ms_fa M kM1) 0) kM9) 0) 0) 0
theorem FR_h1 (M : mS) : FR M (hM0 M) := ⟨rfl, fun _ _ => rfl, fun _ _ => rfl⟩
theorem FR_h2 (M : mS) (a b t : Nat) (vl : Int32) : FR M (atM M a b t vl) := ⟨rfl, fun _ _ => rfl, fun _ _ => rfl⟩
theorem FR_h0 (M : mS) (a b t : Nat) (vl : Int32) : FR M (atM (hM0 M) a b t vl) := FR_trans (FR_h1 M) (FR_h2 (hM0 M) a b t vl)
theorem r_house_head {M : mS} {v : Option Value} {h' : aH} {a b t : Nat} {vl : Int32} (S0 : cS) (C : Cl mX9_advances [.ref 104] (hp S0 (hM0 M)) none (hp S0 (atM (hM0 M) a b t vl))) (kk : Ev [] mX9_house (42, [some (.ref 104), some (.int (nI 0)), none, none], [], hp S0 (atM (hM0 M) a b t vl)) v h') : Cl mX9_house [.ref 104] (hp S0 M) v h' := by
  refine a_run_ev 3 rfl (Ev_h (h2 := hp S0 M) rfl ?_)
  refine a_run_ev 6 rfl ?_
  refine Ev_h (h2 := hp S0 (Ms_nx (Ms_fa M kM1) 0)) rfl ?_
  refine a_run_ev 14 rfl ?_
  refine Ev_h (h2 := hp S0 (hM0 M)) rfl ?_
  exact Ev_ca rfl C kk
theorem j_house {S : cS} {M : mS} (h : Inv S M) : J2 mX8_house mX9_house [] S M := by
  have h0 := h
  obtain ⟨⟨⟨c1, c2, c3⟩, ⟨c4, c5, c6⟩, ⟨c7, c8, c9, c10⟩, cc⟩, ⟨w1, w2, w3, w4, ww⟩, hH, hN, ⟨t1, t2⟩, hrest⟩ := h
  obtain ⟨m, hm⟩ := lastT_ex (chC_txt S c2)
  have hcc : chM M = chC S := by
    funext p
    show (if p < M_ty M then gd (M_tx M) p else 256) = (if p < C_tl S then bN (gI (C_tb S) p) else 256)
    rw [t1]
    by_cases q : p < C_tl S
    · rw [if_pos q, if_pos q]; exact t2 p q
    · rw [if_neg q, if_neg q]
  obtain ⟨d1, d2, d3⟩ := c6
  obtain ⟨A, B, E9, q1, q2, q3⟩ := c_split_all S c1 c2 c3 hm
  have hDB : DB (fr (tkS S A B E9) (emD (C_dr S)) 0 0) := ⟨d1, ⟨d2.1, d2.2.1, d2.2.2.1, d2.2.2.2.1, d2.2.2.2.2.1, (show 0 < 256 by decide), Nat.zero_le _, Nat.zero_le _, Nat.zero_le _⟩, d3⟩
  have hX : TXM (hM0 M) := w4
  obtain ⟨a, b, t, vl, z1, z2⟩ := r_adv_RA (c := chC S) (M := hM0 M) (i := 0) hX hcc (Nat.zero_le _) rfl
  have hJ : JI (chC S) m (fr (tkS S A B E9) (emD (C_dr S)) 0 0) (atM (hM0 M) a b t vl) := ⟨⟨q1, q2, hm⟩, Nat.zero_le _, hDB, w1, w3, hX, hcc, z1, rfl, ⟨rfl, rfl, rfl, Or.inl ⟨rfl, rfl, rfl⟩, fun k hk => absurd hk (Nat.not_lt_zero k), fun k hk => absurd hk (Nat.not_lt_zero k), fun k hk => absurd hk (Nat.not_lt_zero k)⟩⟩
  have hcl : ∀ T v h', Ev [] mX4_readHouse (27, [some (.ref 13), some (.ref 1), some (.int (nI 0))], [], hpC (fr (tkS S A B E9) (emD (C_dr S)) 0 0) ++ T) v h' → Cl mX4_readHouse [.ref 13, .ref 1] (hpC S ++ T) v h' := by
    intro T v h' kk
    refine Ev_ca rfl (q3 T) ?_
    refine Ev_ca rfl (c_empty (tkS S A B E9) T) ?_
    refine a_run_ev 8 rfl ?_
    exact Ev_h (h2 := hpC (fr (tkS S A B E9) (emD (C_dr S)) 0 0) ++ T) rfl kk
  rcases j_loop (C_pl (fr (tkS S A B E9) (emD (C_dr S)) 0 0) + m) 0 _ _ (by show 0 + (0 + m) = m; omega) (Nat.zero_le _) hJ with ⟨S', M', n', o1, ⟨d, l, p, rfl⟩, o3, o4, o5, o6, o7⟩ | ⟨S', M', f, o1, ⟨d, l, p, rfl⟩, o3, o4, o5, o6⟩
  · have i1 : Inv (fr (tkS S A B E9) d l p) M := Inv_tok h0 q1 o3
    have hF : FR M M' := FR_trans (FR_h0 M a b t vl) o4.2.2
    have i2 : Inv (fr (tkS S A B E9) d l p) M' := Inv_FR i1 o4.1 o4.2.1 hF
    have hld : (ho_L d = 0 ∧ M_dl M' = kM9) ∨ (ho_L d < 256 ∧ M_dl M' = nI (ho_L d)) := by
      rcases o5.2.2.2.1 with ⟨_, x1, x2⟩ | ⟨_, x1⟩
      · exact Or.inl ⟨x2, x1⟩
      · exact Or.inr ⟨o3.2.1.2.2.2.2.2.1, x1⟩
    have hK5 : ho_K d ≤ 5 := o3.2.1.2.2.2.2.2.2.1
    have hU4 : ho_U d ≤ 4 := o3.2.1.2.2.2.2.2.2.2.2
    have e1 : M_dk M' = ho_K d := o5.1
    have e3 : M_du M' = ho_U d := o5.2.2.1
    obtain ⟨l1, l2, l3, l4, l5, l6, l7, l8, l9⟩ := o4.1
    refine J2_mk (.int (nI n')) (hsS (fr (tkS S A B E9) d l p)) (setM M' (ho_L d)) (Inv_set i2 o4.1 o4.2.1 o5) (fun T => ?_) (fun S0 => ?_)
    · refine Ev_ca rfl (hcl T _ _ (o6 T)) ?_
      exact c_house_tail (fr (tkS S A B E9) d l p) T c4 o3.1 c7 (by omega)
    · refine r_house_head S0 (z2 S0) ?_
      refine o7 S0 _ _ (fun z2 z3 => ?_) none none
      refine Ev_ca rfl (r_settles S0 (l := ho_L d) ⟨l2, l3, l4, l5, l6, l8, by show M_dk M' ≤ 5; omega, by show M_du M' ≤ 4; omega⟩ hld) ?_
      exact Ev_rt rfl rfl rfl rfl
  · have i1 : Inv (fr (tkS S A B E9) d l p) M := Inv_tok h0 q1 o3
    have hF : FR M M' := FR_trans (FR_h0 M a b t vl) o4.2.2
    have i2 : Inv (fr (tkS S A B E9) d l p) M' := Inv_FR i1 o4.1 o4.2.1 hF
    refine J2_mk (.int (kM10 - nI f)) (fr (tkS S A B E9) d l p) M' i2 (fun T => ?_) (fun S0 => ?_)
    · refine Ev_ca rfl (hcl T _ _ (o5 T)) ?_
      refine Ev_br rfl (fun q => ?_) (fun _ => Ev_rt rfl rfl rfl rfl)
      have q : kM10 - nI f ≥ 0 := q
      exact absurd (kM10_neg f (by omega)) (Int32.not_lt.mpr q)
    · refine r_house_head S0 (z2 S0) ?_
      exact o6 S0 none none

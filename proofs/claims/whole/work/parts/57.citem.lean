/-! the class's reader: ITEMS -/
def kpD (d : Ho) (r x : Nat) : Ho := hos_K (hos_F (hos_R d ((ho_R d).set (ho_K d) r)) ((ho_F d).1.set (ho_K d) x, (ho_F d).2)) (ho_K d + 1)
def ekD (d : Ho) (g t n : Nat) : Ho := hos_E (hos_N (hos_T (hos_G d ((ho_G d).set (ho_E d) g)) ((ho_T d).set (ho_E d) t)) ((ho_N d).set (ho_E d) n)) (ho_E d + 1)
def rkD (d : Ho) (x n : Nat) : Ho := hos_U (hos_F d ((ho_F d).1, (ho_F d).2.1, (ho_F d).2.2.1.set (ho_U d) x, (ho_F d).2.2.2.set (ho_U d) n)) (ho_U d + 1)
/-- behind a piece of the text: the draft, whether LOUD is told, the place -/
def fr (S : cS) (d : Ho) (l p : Nat) : cS := Cs_pl (Cs_lt (Cs_dr S d) l) p
section
variable (S : cS) (T : aH)
theorem c_putR (l : (ho_R (C_dr S)).length = 5) {j x : Nat} (hj : j < 5) : Cl mX8_put [.ref 24, .int (nI j), .int (nI x)] (hpC S ++ T) none (hpC (Cs_dr S (hos_R (C_dr S) ((ho_R (C_dr S)).set j x))) ++ T) := c_put (hpC S ++ T) 24 (ho_R (C_dr S)) j x rfl (by omega) (by omega)
theorem c_putG (l : (ho_G (C_dr S)).length = 6) {j x : Nat} (hj : j < 6) : Cl mX8_put [.ref 25, .int (nI j), .int (nI x)] (hpC S ++ T) none (hpC (Cs_dr S (hos_G (C_dr S) ((ho_G (C_dr S)).set j x))) ++ T) := c_put (hpC S ++ T) 25 (ho_G (C_dr S)) j x rfl (by omega) (by omega)
theorem c_putT (l : (ho_T (C_dr S)).length = 6) {j x : Nat} (hj : j < 6) : Cl mX8_put [.ref 26, .int (nI j), .int (nI x)] (hpC S ++ T) none (hpC (Cs_dr S (hos_T (C_dr S) ((ho_T (C_dr S)).set j x))) ++ T) := c_put (hpC S ++ T) 26 (ho_T (C_dr S)) j x rfl (by omega) (by omega)
theorem c_putN (l : (ho_N (C_dr S)).length = 6) {j x : Nat} (hj : j < 6) : Cl mX8_put [.ref 27, .int (nI j), .int (nI x)] (hpC S ++ T) none (hpC (Cs_dr S (hos_N (C_dr S) ((ho_N (C_dr S)).set j x))) ++ T) := c_put (hpC S ++ T) 27 (ho_N (C_dr S)) j x rfl (by omega) (by omega)
theorem c_putF1 (l : (ho_F (C_dr S)).1.length = 5) {j x : Nat} (hj : j < 5) : Cl mX8_put [.ref 20, .int (nI j), .int (nI x)] (hpC S ++ T) none (hpC (Cs_dr S (hos_F (C_dr S) ((ho_F (C_dr S)).1.set j x, (ho_F (C_dr S)).2))) ++ T) := c_put (hpC S ++ T) 20 (ho_F (C_dr S)).1 j x rfl (by omega) (by omega)
theorem c_putF3 (l : (ho_F (C_dr S)).2.2.1.length = 4) {j x : Nat} (hj : j < 4) : Cl mX8_put [.ref 22, .int (nI j), .int (nI x)] (hpC S ++ T) none (hpC (Cs_dr S (hos_F (C_dr S) ((ho_F (C_dr S)).1, (ho_F (C_dr S)).2.1, (ho_F (C_dr S)).2.2.1.set j x, (ho_F (C_dr S)).2.2.2))) ++ T) := c_put (hpC S ++ T) 22 (ho_F (C_dr S)).2.2.1 j x rfl (by omega) (by omega)
theorem c_putF4 (l : (ho_F (C_dr S)).2.2.2.length = 4) {j x : Nat} (hj : j < 4) : Cl mX8_put [.ref 23, .int (nI j), .int (nI x)] (hpC S ++ T) none (hpC (Cs_dr S (hos_F (C_dr S) ((ho_F (C_dr S)).1, (ho_F (C_dr S)).2.1, (ho_F (C_dr S)).2.2.1, (ho_F (C_dr S)).2.2.2.set j x))) ++ T) := c_put (hpC S ++ T) 23 (ho_F (C_dr S)).2.2.2 j x rfl (by omega) (by omega)
variable {c : Nat → Nat} {m : Nat}
-- LOUD
theorem c_loud_tail (hT : HT S c m) (hp9 : C_pl S ≤ m) {x : Nat} : Ev [] mX4_readLoud (32, [some (.ref 13)], [.int (nI x), .ref 18], hpC S ++ T) (some (.int (nI (decide (tK c (C_pl S) = 2)).toNat))) (hpC (Cs_pl (Cs_dr S (hos_L (C_dr S) x)) (sti c (C_pl S))) ++ T) := by
  refine a_run_ev 1 rfl ?_
  refine Ev_h (h2 := hpC (Cs_dr S (hos_L (C_dr S) x)) ++ T) rfl ?_
  exact Ev_ca rfl (c_readStop (Cs_dr S (hos_L (C_dr S) x)) T hT hp9) (Ev_rt rfl (b01 _) rfl rfl)
theorem c_readLoud_f (h : C_lt S = 1) : Cl mX4_readLoud [.ref 13] (hpC S ++ T) (some (.int (nI 0))) (hpC S ++ T) := by
  refine Ev_br rfl (fun hc => ?_) (fun _ => Ev_rt rfl rfl rfl rfl)
  have hc : nI (C_lt S) = 0 := hc
  rw [h] at hc
  exact absurd hc b1z
theorem c_readLoud_t (hT : HT S c m) (hp9 : C_pl S + 1 ≤ m) (h : C_lt S = 0) : Cl mX4_readLoud [.ref 13] (hpC S ++ T) (some (.int (nI (decide (tK c (sgs c 8 (C_pl S + 1) 0).2 = 2)).toNat))) (hpC (fr S (hos_L (C_dr S) (sgs c 8 (C_pl S + 1) 0).1) 1 (sti c (sgs c 8 (C_pl S + 1) 0).2)) ++ T) := by
  have hk := sgs_ok hT.2.2 8 (C_pl S + 1) 0 (by decide) hp9
  refine Ev_br rfl (fun _ => ?_) (fun hc => ?_)
  · refine a_run_ev 6 rfl ?_
    refine Ev_h (h2 := hpC (Cs_pl S (C_pl S + 1)) ++ T) (by rw [nI_add]; rfl) ?_
    refine a_run_ev 3 rfl ?_
    refine Ev_h (h2 := hpC (Cs_lt (Cs_pl S (C_pl S + 1)) 1) ++ T) rfl ?_
    refine Ev_ca rfl (c_readSigns T (Cs_lt (Cs_pl S (C_pl S + 1)) 1) hT hp9) ?_
    exact c_loud_tail (Cs_pl (Cs_lt (Cs_pl S (C_pl S + 1)) 1) (sgs c 8 (C_pl S + 1) 0).2) T hT hk.2.2
  · have hc : ¬ nI (C_lt S) = 0 := hc
    rw [h] at hc
    exact absurd nI_0 hc
-- KNOCKER
theorem c_kn_tail (hT : HT S c m) (hp9 : C_pl S ≤ m) {x : Nat} : Ev [] mX4_readKnocker (78, [some (.ref 13), some (.int (nI x))], [], hpC S ++ T) (some (.int (nI (decide (tK c (C_pl S) = 2)).toNat))) (hpC (Cs_pl (Cs_dr S (hos_K (C_dr S) (ho_K (C_dr S) + 1))) (sti c (C_pl S))) ++ T) := by
  refine a_run_ev 7 rfl ?_
  refine Ev_h (h2 := hpC (Cs_dr S (hos_K (C_dr S) (ho_K (C_dr S) + 1))) ++ T) (by rw [nI_add]; rfl) ?_
  exact Ev_ca rfl (c_readStop (Cs_dr S (hos_K (C_dr S) (ho_K (C_dr S) + 1))) T hT hp9) (Ev_rt rfl (b01 _) rfl rfl)
theorem c_kn_mid2 (hT : HT S c m) (hp9 : C_pl S ≤ m) {r : Nat} (hF : (ho_F (C_dr S)).1.length = 5) (hK : ho_K (C_dr S) < 5) : Ev [] mX4_readKnocker (54, [some (.ref 13), some (.int (nI r))], [], hpC S ++ T) (some (.int (nI (decide (tK c (sgs c 8 (C_pl S) 0).2 = 2)).toNat))) (hpC (Cs_pl (Cs_dr S (hos_K (hos_F (C_dr S) ((ho_F (C_dr S)).1.set (ho_K (C_dr S)) (sgs c 8 (C_pl S) 0).1, (ho_F (C_dr S)).2)) (ho_K (C_dr S) + 1))) (sti c (sgs c 8 (C_pl S) 0).2)) ++ T) := by
  have hk := sgs_ok hT.2.2 8 (C_pl S) 0 (by decide) hp9
  refine Ev_ca rfl (c_readSigns T S hT hp9) ?_
  refine Ev_ca rfl (c_putF1 (Cs_pl S (sgs c 8 (C_pl S) 0).2) T hF hK) ?_
  exact c_kn_tail (Cs_dr (Cs_pl S (sgs c 8 (C_pl S) 0).2) (hos_F (C_dr S) ((ho_F (C_dr S)).1.set (ho_K (C_dr S)) (sgs c 8 (C_pl S) 0).1, (ho_F (C_dr S)).2))) T hT hk.2.2
theorem c_kn_mid (hT : HT S c m) (hp9 : C_pl S ≤ m) {r : Nat} (hL : HoL (C_dr S)) (hK : ho_K (C_dr S) < 5) : Ev [] mX4_readKnocker (36, [some (.ref 13), some (.int (nI r))], [], hpC S ++ T) (some (.int (nI (decide (tK c (sgs c 8 (C_pl S) 0).2 = 2)).toNat))) (hpC (Cs_pl (Cs_dr S (kpD (C_dr S) r (sgs c 8 (C_pl S) 0).1)) (sti c (sgs c 8 (C_pl S) 0).2)) ++ T) := by
  refine Ev_ca rfl (c_putR S T hL.2.1 hK) ?_
  exact c_kn_mid2 (Cs_dr S (hos_R (C_dr S) ((ho_R (C_dr S)).set (ho_K (C_dr S)) r))) T hT hp9 hL.1.1 hK
theorem c_readKnocker_full (hb : ho_K (C_dr S) = 5) : Cl mX4_readKnocker [.ref 13] (hpC S ++ T) (some (.int (nI 0))) (hpC S ++ T) := by
  refine Ev_br rfl (fun hc => ?_) (fun _ => Ev_rt rfl rfl rfl rfl)
  have hc : nI (ho_K (C_dr S)) < nI 5 := hc
  rw [hb] at hc
  exact absurd hc (by decide)
theorem c_readKnocker_f (hT : HT S c m) (hp9 : C_pl S + 1 ≤ m) (hK : ho_K (C_dr S) < 5) (hr : rdN c (C_pl S + 1) 0 1 = none) : Cl mX4_readKnocker [.ref 13] (hpC S ++ T) (some (.int (nI 0))) (hpC (Cs_pl S (C_pl S + 1)) ++ T) := by
  refine Ev_br rfl (fun _ => ?_) (fun hc => absurd (nI_lt hK (by decide)) hc)
  refine a_run_ev 6 rfl ?_
  refine Ev_h (h2 := hpC (Cs_pl S (C_pl S + 1)) ++ T) (by rw [nI_add]; rfl) ?_
  refine Ev_ca rfl (c_readNumber_f (Cs_pl S (C_pl S + 1)) T hT hp9 (a := 0) (b := 1) (by decide) (by decide) hr) ?_
  exact Ev_br rfl (fun hc => absurd (show kM1 ≥ 0 from hc) (by decide)) (fun _ => Ev_rt rfl rfl rfl rfl)
theorem c_readKnocker_t (hT : HT S c m) (hp9 : C_pl S + 1 ≤ m) (hL : HoL (C_dr S)) (hK : ho_K (C_dr S) < 5) {r : Nat} (hr : rdN c (C_pl S + 1) 0 1 = some r) : Cl mX4_readKnocker [.ref 13] (hpC S ++ T) (some (.int (nI (decide (tK c (sgs c 8 (C_pl S + 1 + 1) 0).2 = 2)).toNat))) (hpC (Cs_pl (Cs_dr S (kpD (C_dr S) r (sgs c 8 (C_pl S + 1 + 1) 0).1)) (sti c (sgs c 8 (C_pl S + 1 + 1) 0).2)) ++ T) := by
  obtain ⟨h1, h2, h3⟩ := rdN_some hr
  have hn := K_next hT.2.2 hp9 (by have := (tV_some h1).1; omega)
  refine Ev_br rfl (fun _ => ?_) (fun hc => absurd (nI_lt hK (by decide)) hc)
  refine a_run_ev 6 rfl ?_
  refine Ev_h (h2 := hpC (Cs_pl S (C_pl S + 1)) ++ T) (by rw [nI_add]; rfl) ?_
  refine Ev_ca rfl (c_readNumber_t (Cs_pl S (C_pl S + 1)) T hT hp9 (a := 0) (b := 1) (by decide) hr) ?_
  refine Ev_br rfl (fun _ => ?_) (fun hc => absurd (nI_le (Nat.zero_le r) (by omega)) hc)
  exact c_kn_mid (Cs_pl (Cs_pl S (C_pl S + 1)) (C_pl S + 1 + 1)) T hT hn hL hK
-- ERRAND
theorem c_er_tail (hT : HT S c m) (hp9 : C_pl S ≤ m) {x y z : Nat} : Ev [] mX4_readErrand (117, [some (.ref 13), some (.int (nI x)), some (.int (nI y)), some (.int (nI z))], [], hpC S ++ T) (some (.int (nI (decide (tK c (C_pl S) = 2)).toNat))) (hpC (Cs_pl (Cs_dr S (hos_E (C_dr S) (ho_E (C_dr S) + 1))) (sti c (C_pl S))) ++ T) := by
  refine a_run_ev 7 rfl ?_
  refine Ev_h (h2 := hpC (Cs_dr S (hos_E (C_dr S) (ho_E (C_dr S) + 1))) ++ T) (by rw [nI_add]; rfl) ?_
  exact Ev_ca rfl (c_readStop (Cs_dr S (hos_E (C_dr S) (ho_E (C_dr S) + 1))) T hT hp9) (Ev_rt rfl (b01 _) rfl rfl)
theorem c_er_mid (hT : HT S c m) (hp9 : C_pl S ≤ m) {g t n : Nat} (hL : HoL (C_dr S)) (hE : ho_E (C_dr S) < 6) : Ev [] mX4_readErrand (63, [some (.ref 13), some (.int (nI g)), some (.int (nI t)), some (.int (nI n))], [], hpC S ++ T) (some (.int (nI (decide (tK c (C_pl S) = 2)).toNat))) (hpC (Cs_pl (Cs_dr S (ekD (C_dr S) g t n)) (sti c (C_pl S))) ++ T) := by
  refine Ev_ca rfl (c_putG S T hL.2.2.1 hE) ?_
  refine Ev_ca rfl (c_putT (Cs_dr S (hos_G (C_dr S) ((ho_G (C_dr S)).set (ho_E (C_dr S)) g))) T hL.2.2.2.1 hE) ?_
  refine Ev_ca rfl (c_putN (Cs_dr S (hos_T (hos_G (C_dr S) ((ho_G (C_dr S)).set (ho_E (C_dr S)) g)) ((ho_T (C_dr S)).set (ho_E (C_dr S)) t))) T hL.2.2.2.2 hE) ?_
  exact c_er_tail (Cs_dr S (hos_N (hos_T (hos_G (C_dr S) ((ho_G (C_dr S)).set (ho_E (C_dr S)) g)) ((ho_T (C_dr S)).set (ho_E (C_dr S)) t)) ((ho_N (C_dr S)).set (ho_E (C_dr S)) n))) T hT hp9
theorem c_readErrand_full (hb : ho_E (C_dr S) = 6) : Cl mX4_readErrand [.ref 13] (hpC S ++ T) (some (.int (nI 0))) (hpC S ++ T) := by
  refine Ev_br rfl (fun hc => ?_) (fun _ => Ev_rt rfl rfl rfl rfl)
  have hc : nI (ho_E (C_dr S)) < nI 6 := hc
  rw [hb] at hc
  exact absurd hc (by decide)
theorem c_readErrand_f1 (hT : HT S c m) (hp9 : C_pl S + 1 ≤ m) (hE : ho_E (C_dr S) < 6) (hr : rdN c (C_pl S + 1) 0 7 = none) : Cl mX4_readErrand [.ref 13] (hpC S ++ T) (some (.int (nI 0))) (hpC (Cs_pl S (C_pl S + 1)) ++ T) := by
  refine Ev_br rfl (fun _ => ?_) (fun hc => absurd (nI_lt hE (by decide)) hc)
  refine a_run_ev 6 rfl ?_
  refine Ev_h (h2 := hpC (Cs_pl S (C_pl S + 1)) ++ T) (by rw [nI_add]; rfl) ?_
  refine Ev_ca rfl (c_readNumber_f (Cs_pl S (C_pl S + 1)) T hT hp9 (a := 0) (b := 7) (by decide) (by decide) hr) ?_
  exact Ev_br rfl (fun hc => absurd (show kM1 ≥ 0 from hc) (by decide)) (fun _ => Ev_rt rfl rfl rfl rfl)
theorem c_readErrand_1 (hT : HT S c m) (hp9 : C_pl S + 1 ≤ m) (hE : ho_E (C_dr S) < 6) {g : Nat} (hr : rdN c (C_pl S + 1) 0 7 = some g) {v : Option Value} {h' : aH} (kk : Ev [] mX4_readErrand (38, [some (.ref 13), some (.int (nI g)), none, none], [], hpC (Cs_pl S (C_pl S + 1 + 1)) ++ T) v h') : Cl mX4_readErrand [.ref 13] (hpC S ++ T) v h' := by
  have h3 := (rdN_some hr).2.2
  refine Ev_br rfl (fun _ => ?_) (fun hc => absurd (nI_lt hE (by decide)) hc)
  refine a_run_ev 6 rfl ?_
  refine Ev_h (h2 := hpC (Cs_pl S (C_pl S + 1)) ++ T) (by rw [nI_add]; rfl) ?_
  refine Ev_ca rfl (c_readNumber_t (Cs_pl S (C_pl S + 1)) T hT hp9 (a := 0) (b := 7) (by decide) hr) ?_
  refine Ev_br rfl (fun _ => ?_) (fun hc => absurd (nI_le (Nat.zero_le g) (by omega)) hc)
  exact kk
theorem c_readErrand_f2 (hT : HT S c m) (hp9 : C_pl S ≤ m) {g : Nat} (hr : rdN c (C_pl S) 1 9 = none) : Ev [] mX4_readErrand (38, [some (.ref 13), some (.int (nI g)), none, none], [], hpC S ++ T) (some (.int (nI 0))) (hpC S ++ T) := by
  refine Ev_ca rfl (c_readNumber_f S T hT hp9 (a := 1) (b := 9) (by decide) (by decide) hr) ?_
  exact Ev_br rfl (fun hc => absurd (show kM1 ≥ 0 from hc) (by decide)) (fun _ => Ev_rt rfl rfl rfl rfl)
theorem c_readErrand_2 (hT : HT S c m) (hp9 : C_pl S ≤ m) {g t : Nat} (hr : rdN c (C_pl S) 1 9 = some t) {v : Option Value} {h' : aH} (kk : Ev [] mX4_readErrand (52, [some (.ref 13), some (.int (nI g)), some (.int (nI t)), none], [], hpC (Cs_pl S (C_pl S + 1)) ++ T) v h') : Ev [] mX4_readErrand (38, [some (.ref 13), some (.int (nI g)), none, none], [], hpC S ++ T) v h' := by
  have h3 := (rdN_some hr).2.2
  refine Ev_ca rfl (c_readNumber_t S T hT hp9 (a := 1) (b := 9) (by decide) hr) ?_
  refine Ev_br rfl (fun _ => ?_) (fun hc => absurd (nI_le (Nat.zero_le t) (by omega)) hc)
  exact kk
theorem c_readErrand_f3 (hT : HT S c m) (hp9 : C_pl S ≤ m) {g t : Nat} (hr : rdNd c (C_pl S) = none) : Ev [] mX4_readErrand (52, [some (.ref 13), some (.int (nI g)), some (.int (nI t)), none], [], hpC S ++ T) (some (.int (nI 0))) (hpC S ++ T) := by
  refine Ev_ca rfl (c_readNeed_f S T hT hp9 hr) ?_
  exact Ev_br rfl (fun hc => absurd (show kM1 ≥ 0 from hc) (by decide)) (fun _ => Ev_rt rfl rfl rfl rfl)
theorem rdNd_some {i v : Nat} (h : rdNd c i = some v) : tV c i = some v ∧ (v ≤ 7 ∨ v = 9) := by
  unfold rdNd at h
  cases h1 : rdN c i 0 7 with
  | some w =>
    rw [h1] at h
    cases h
    have := rdN_some h1
    exact ⟨this.1, Or.inl this.2.2⟩
  | none =>
    rw [h1] at h
    have := rdN_some h
    exact ⟨this.1, Or.inr (by omega)⟩
theorem c_readErrand_3 (hT : HT S c m) (hp9 : C_pl S ≤ m) (hL : HoL (C_dr S)) (hE : ho_E (C_dr S) < 6) {g t n : Nat} (hr : rdNd c (C_pl S) = some n) : Ev [] mX4_readErrand (52, [some (.ref 13), some (.int (nI g)), some (.int (nI t)), none], [], hpC S ++ T) (some (.int (nI (decide (tK c (C_pl S + 1) = 2)).toNat))) (hpC (Cs_pl (Cs_dr S (ekD (C_dr S) g t n)) (sti c (C_pl S + 1))) ++ T) := by
  obtain ⟨h1, h2⟩ := rdNd_some hr
  have hn := K_next hT.2.2 hp9 (by have := (tV_some h1).1; omega)
  refine Ev_ca rfl (c_readNeed_t S T hT hp9 hr) ?_
  refine Ev_br rfl (fun _ => ?_) (fun hc => absurd (nI_le (Nat.zero_le n) (by omega)) hc)
  exact c_er_mid (Cs_pl S (C_pl S + 1)) T hT hn hL hE
-- RULE
theorem c_ru_tail (hT : HT S c m) (hp9 : C_pl S ≤ m) {x y : Nat} : Ev [] mX4_readRule (94, [some (.ref 13), some (.int (nI x)), some (.int (nI y))], [], hpC S ++ T) (some (.int (nI (decide (tK c (C_pl S) = 2)).toNat))) (hpC (Cs_pl (Cs_dr S (hos_U (C_dr S) (ho_U (C_dr S) + 1))) (sti c (C_pl S))) ++ T) := by
  refine a_run_ev 7 rfl ?_
  refine Ev_h (h2 := hpC (Cs_dr S (hos_U (C_dr S) (ho_U (C_dr S) + 1))) ++ T) (by rw [nI_add]; rfl) ?_
  exact Ev_ca rfl (c_readStop (Cs_dr S (hos_U (C_dr S) (ho_U (C_dr S) + 1))) T hT hp9) (Ev_rt rfl (b01 _) rfl rfl)
theorem c_ru_mid (hT : HT S c m) (hp9 : C_pl S ≤ m) {n x : Nat} (hL : HoL (C_dr S)) (hU : ho_U (C_dr S) < 4) : Ev [] mX4_readRule (52, [some (.ref 13), some (.int (nI n)), some (.int (nI x))], [], hpC S ++ T) (some (.int (nI (decide (tK c (C_pl S) = 2)).toNat))) (hpC (Cs_pl (Cs_dr S (rkD (C_dr S) x n)) (sti c (C_pl S))) ++ T) := by
  refine Ev_ca rfl (c_putF3 S T hL.1.2.2.1 hU) ?_
  refine Ev_ca rfl (c_putF4 (Cs_dr S (hos_F (C_dr S) ((ho_F (C_dr S)).1, (ho_F (C_dr S)).2.1, (ho_F (C_dr S)).2.2.1.set (ho_U (C_dr S)) x, (ho_F (C_dr S)).2.2.2))) T hL.1.2.2.2 hU) ?_
  exact c_ru_tail (Cs_dr S (hos_F (C_dr S) ((ho_F (C_dr S)).1, (ho_F (C_dr S)).2.1, (ho_F (C_dr S)).2.2.1.set (ho_U (C_dr S)) x, (ho_F (C_dr S)).2.2.2.set (ho_U (C_dr S)) n))) T hT hp9
theorem c_readRule_full (hb : ho_U (C_dr S) = 4) : Cl mX4_readRule [.ref 13] (hpC S ++ T) (some (.int (nI 0))) (hpC S ++ T) := by
  refine Ev_br rfl (fun hc => ?_) (fun _ => Ev_rt rfl rfl rfl rfl)
  have hc : nI (ho_U (C_dr S)) < nI 4 := hc
  rw [hb] at hc
  exact absurd hc (by decide)
theorem c_readRule_f (hT : HT S c m) (hp9 : C_pl S + 1 ≤ m) (hU : ho_U (C_dr S) < 4) (hr : rdN c (C_pl S + 1) 1 8 = none) : Cl mX4_readRule [.ref 13] (hpC S ++ T) (some (.int (nI 0))) (hpC (Cs_pl S (C_pl S + 1)) ++ T) := by
  refine Ev_br rfl (fun _ => ?_) (fun hc => absurd (nI_lt hU (by decide)) hc)
  refine a_run_ev 6 rfl ?_
  refine Ev_h (h2 := hpC (Cs_pl S (C_pl S + 1)) ++ T) (by rw [nI_add]; rfl) ?_
  refine Ev_ca rfl (c_readNumber_f (Cs_pl S (C_pl S + 1)) T hT hp9 (a := 1) (b := 8) (by decide) (by decide) hr) ?_
  exact Ev_br rfl (fun hc => absurd (show kM1 ≥ 0 from hc) (by decide)) (fun _ => Ev_rt rfl rfl rfl rfl)
theorem c_readRule_1 (hT : HT S c m) (hp9 : C_pl S + 1 ≤ m) (hU : ho_U (C_dr S) < 4) {n : Nat} (hr : rdN c (C_pl S + 1) 1 8 = some n) {v : Option Value} {h' : aH} (kk : Ev [] mX4_readRule (37, [some (.ref 13), some (.int (nI n)), none], [], hpC (Cs_pl S (C_pl S + 1 + 1)) ++ T) v h') : Cl mX4_readRule [.ref 13] (hpC S ++ T) v h' := by
  have h3 := (rdN_some hr).2.2
  refine Ev_br rfl (fun _ => ?_) (fun hc => absurd (nI_lt hU (by decide)) hc)
  refine a_run_ev 6 rfl ?_
  refine Ev_h (h2 := hpC (Cs_pl S (C_pl S + 1)) ++ T) (by rw [nI_add]; rfl) ?_
  refine Ev_ca rfl (c_readNumber_t (Cs_pl S (C_pl S + 1)) T hT hp9 (a := 1) (b := 8) (by decide) hr) ?_
  refine Ev_br rfl (fun _ => ?_) (fun hc => absurd (nI_le (Nat.zero_le n) (by omega)) hc)
  exact kk
theorem c_readRule_f2 (hT : HT S c m) (hp9 : C_pl S ≤ m) {n : Nat} (hn : n < 9) (hr : pop (sgs c 8 (C_pl S) 0).1 < n) : Ev [] mX4_readRule (37, [some (.ref 13), some (.int (nI n)), none], [], hpC S ++ T) (some (.int (nI 0))) (hpC (Cs_pl S (sgs c 8 (C_pl S) 0).2) ++ T) := by
  have hk := sgs_ok hT.2.2 8 (C_pl S) 0 (by decide) hp9
  refine Ev_ca rfl (c_readSigns T S hT hp9) ?_
  refine Ev_ca rfl (c_bitCount _ hk.1) ?_
  exact Ev_br rfl (fun hc => absurd hc (nI_ge hr (by omega))) (fun _ => Ev_rt rfl rfl rfl rfl)
theorem c_readRule_2 (hT : HT S c m) (hp9 : C_pl S ≤ m) (hL : HoL (C_dr S)) (hU : ho_U (C_dr S) < 4) {n : Nat} (hn : n < 9) (hr : n ≤ pop (sgs c 8 (C_pl S) 0).1) : Ev [] mX4_readRule (37, [some (.ref 13), some (.int (nI n)), none], [], hpC S ++ T) (some (.int (nI (decide (tK c (sgs c 8 (C_pl S) 0).2 = 2)).toNat))) (hpC (Cs_pl (Cs_dr S (rkD (C_dr S) (sgs c 8 (C_pl S) 0).1 n)) (sti c (sgs c 8 (C_pl S) 0).2)) ++ T) := by
  have hk := sgs_ok hT.2.2 8 (C_pl S) 0 (by decide) hp9
  have hp8 := pop_le (sgs c 8 (C_pl S) 0).1
  refine Ev_ca rfl (c_readSigns T S hT hp9) ?_
  refine Ev_ca rfl (c_bitCount _ hk.1) ?_
  refine Ev_br rfl (fun _ => ?_) (fun hc => absurd (nI_le hr (by omega)) hc)
  exact c_ru_mid (Cs_pl S (sgs c 8 (C_pl S) 0).2) T hT hk.2.2 hL hU
-- ITEM
theorem c_item_0 (hT : HT S c m) (hp9 : C_pl S ≤ m) (hk : tK c (C_pl S) < 4) : Cl mX4_readItem [.ref 13] (hpC S ++ T) (some (.int (nI 0))) (hpC S ++ T) := by
  refine Ev_ca rfl (c_kind S T hT hp9) ?_
  refine Ev_sw rfl 56 (by rw [if_pos (by rw [nI_toInt (by omega)]; omega)]; rfl) (Ev_rt rfl rfl rfl rfl)
theorem c_item_4 (hT : HT S c m) (hp9 : C_pl S ≤ m) (hk : tK c (C_pl S) = 4) {b : Bool} {h' : aH} (C : Cl mX4_readLoud [.ref 13] (hpC S ++ T) (some (.int (nI b.toNat))) h') : Cl mX4_readItem [.ref 13] (hpC S ++ T) (some (.int (nI b.toNat))) h' := by
  refine Ev_ca rfl (c_kind S T hT hp9) ?_
  rw [hk]
  exact Ev_sw rfl 36 (by decide) (Ev_ca rfl C (Ev_rt rfl (b01 _) rfl rfl))
theorem c_item_5 (hT : HT S c m) (hp9 : C_pl S ≤ m) (hk : tK c (C_pl S) = 5) {b : Bool} {h' : aH} (C : Cl mX4_readKnocker [.ref 13] (hpC S ++ T) (some (.int (nI b.toNat))) h') : Cl mX4_readItem [.ref 13] (hpC S ++ T) (some (.int (nI b.toNat))) h' := by
  refine Ev_ca rfl (c_kind S T hT hp9) ?_
  rw [hk]
  exact Ev_sw rfl 41 (by decide) (Ev_ca rfl C (Ev_rt rfl (b01 _) rfl rfl))
theorem c_item_6 (hT : HT S c m) (hp9 : C_pl S ≤ m) (hk : tK c (C_pl S) = 6) {b : Bool} {h' : aH} (C : Cl mX4_readErrand [.ref 13] (hpC S ++ T) (some (.int (nI b.toNat))) h') : Cl mX4_readItem [.ref 13] (hpC S ++ T) (some (.int (nI b.toNat))) h' := by
  refine Ev_ca rfl (c_kind S T hT hp9) ?_
  rw [hk]
  exact Ev_sw rfl 46 (by decide) (Ev_ca rfl C (Ev_rt rfl (b01 _) rfl rfl))
theorem c_item_7 (hT : HT S c m) (hp9 : C_pl S ≤ m) (hk : tK c (C_pl S) = 7) {b : Bool} {h' : aH} (C : Cl mX4_readRule [.ref 13] (hpC S ++ T) (some (.int (nI b.toNat))) h') : Cl mX4_readItem [.ref 13] (hpC S ++ T) (some (.int (nI b.toNat))) h' := by
  refine Ev_ca rfl (c_kind S T hT hp9) ?_
  rw [hk]
  exact Ev_sw rfl 51 (by decide) (Ev_ca rfl C (Ev_rt rfl (b01 _) rfl rfl))
end

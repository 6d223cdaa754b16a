/-! the class's methods: what they answer (2): those that change something -/
theorem MoL_sg {m : Mo} (h : MoL m) (k x : Nat) : MoL (m.1.set k x, m.2) := ⟨by show (m.1.set k x).length = 5; rw [List.length_set]; exact h.1, h.2⟩
theorem MoB_sg {m : Mo} (h : MoB m) (k x : Nat) (hx : x < 256) : MoB (m.1.set k x, m.2) := by
  refine ⟨fun i => ?_, h.2⟩
  show gd (m.1.set k x) i < 256
  rw [gd_set]
  split
  · exact hx
  · exact h.1 i
theorem MoL_hr {m : Mo} (h : MoL m) (k x : Nat) : MoL (m.1, m.2.1.set k x, m.2.2) := ⟨h.1, by show (m.2.1.set k x).length = 5; rw [List.length_set]; exact h.2.1, h.2.2⟩
theorem MoB_hr {m : Mo} (h : MoB m) (k x : Nat) (hx : x < 100) : MoB (m.1, m.2.1.set k x, m.2.2) := by
  refine ⟨h.1, fun i => ?_, h.2.2⟩
  show gd (m.2.1.set k x) i < 100
  rw [gd_set]
  split
  · exact hx
  · exact h.2.1 i
theorem MoL_ru {m : Mo} (h : MoL m) (k x y : Nat) : MoL (m.1, m.2.1, m.2.2.1.set k x, m.2.2.2.set k y) := ⟨h.1, h.2.1, by show (m.2.2.1.set k x).length = 4; rw [List.length_set]; exact h.2.2.1, by show (m.2.2.2.set k y).length = 4; rw [List.length_set]; exact h.2.2.2⟩
theorem MoB_ru {m : Mo} (h : MoB m) (k x y : Nat) (hx : x < 256) (hy : y < 9) : MoB (m.1, m.2.1, m.2.2.1.set k x, m.2.2.2.set k y) := by
  refine ⟨h.1, h.2.1, fun i => ?_, fun i => ?_⟩
  · show gd (m.2.2.1.set k x) i < 256
    rw [gd_set]
    split
    · exact hx
    · exact h.2.2.1 i
  · show gd (m.2.2.2.set k y) i < 9
    rw [gd_set]
    split
    · exact hy
    · exact h.2.2.2 i
theorem andN256 : ∀ x, x < 256 → ∀ s, s < 8 → nI x &&& ((nI 1 <<< (nI s &&& 31)) ^^^ kM1) = nI (x &&& (255 ^^^ 2 ^ s)) := by decide +kernel
section
variable (S : cS) (T : aH)
def sgS (k x : Nat) : cS := Cs_nw S ((C_nw S).1.set k x, (C_nw S).2)
def hrS (k x : Nat) : cS := Cs_nw S ((C_nw S).1, (C_nw S).2.1.set k x, (C_nw S).2.2)
def seS (k x : Nat) : cS := Cs_nw S ((C_nw S).1, (C_nw S).2.1, (C_nw S).2.2.1.set k x, (C_nw S).2.2.2)
def ruS (k x y : Nat) : cS := Cs_nw S ((C_nw S).1, (C_nw S).2.1, (C_nw S).2.2.1.set k x, (C_nw S).2.2.2.set k y)
theorem c_putSg (hL : MoL (C_nw S)) {k x : Nat} (hk : k < 5) : Cl mX8_put [.ref 29, .int (nI k), .int (nI x)] (hpC S ++ T) none (hpC (sgS S k x) ++ T) := by
  have h1 := hL.1
  exact c_put (hpC S ++ T) 29 (C_nw S).1 k x rfl (by omega) (by omega)
theorem c_putHr (hL : MoL (C_nw S)) {k x : Nat} (hk : k < 5) : Cl mX8_put [.ref 30, .int (nI k), .int (nI x)] (hpC S ++ T) none (hpC (hrS S k x) ++ T) := by
  have h1 := hL.2.1
  exact c_put (hpC S ++ T) 30 (C_nw S).2.1 k x rfl (by omega) (by omega)
theorem c_putRu (hL : MoL (C_nw S)) {k x : Nat} (hk : k < 4) : Cl mX8_put [.ref 31, .int (nI k), .int (nI x)] (hpC S ++ T) none (hpC (seS S k x) ++ T) := by
  have h1 := hL.2.2.1
  exact c_put (hpC S ++ T) 31 (C_nw S).2.2.1 k x rfl (by omega) (by omega)
theorem c_putMa (hL : MoL (C_nw S)) {k x y : Nat} (hk : k < 4) : Cl mX8_put [.ref 32, .int (nI k), .int (nI y)] (hpC (seS S k x) ++ T) none (hpC (ruS S k x y) ++ T) := by
  have h1 := hL.2.2.2
  exact c_put (hpC (seS S k x) ++ T) 32 (C_nw S).2.2.2 k y rfl (by omega) (by omega)
-- hoarse
theorem cC_hoarse_bad {x w : Int32} (hx : x < 0 ∨ nI (ho_K (C_to S)) ≤ x) : Cl mX8_hoarse [.ref 0, .int x, .int w] (hpC S ++ T) (some (.int kM1)) (hpC S ++ T) := by
  refine Ev_ca rfl (c_isKnocker_f S T hx) ?_
  exact Ev_br rfl (fun _ => Ev_rt rfl rfl rfl rfl) (fun hc => absurd nI_0 hc)
theorem cC_hoarse_bad2 {k : Nat} {w : Int32} (hk : k < ho_K (C_to S)) (hK : ho_K (C_to S) ≤ 5) (hw : w < 0 ∨ nI 8 ≤ w) : Cl mX8_hoarse [.ref 0, .int (nI k), .int w] (hpC S ++ T) (some (.int kM1)) (hpC S ++ T) := by
  refine Ev_ca rfl (c_isKnocker_t S T hk hK) ?_
  refine Ev_br rfl (fun hc => absurd hc b1z) (fun _ => ?_)
  refine Ev_ca rfl (c_isSign_f _ hw) ?_
  exact Ev_br rfl (fun hc => absurd nI_0 hc) (fun _ => Ev_rt rfl rfl rfl rfl)
theorem cC_hoarse_st {k s : Nat} (hk : k < ho_K (C_to S)) (hK : ho_K (C_to S) ≤ 5) (hs : s < 8) (hL : MoL (C_nw S)) (hB : MoB (C_nw S)) (hb : bt (sgC S k) s = 0) : Cl mX8_hoarse [.ref 0, .int (nI k), .int (nI s)] (hpC S ++ T) (some (.int kM2)) (hpC S ++ T) := by
  have hx : sgC S k < 256 := hB.1 k
  refine Ev_ca rfl (c_isKnocker_t S T hk hK) ?_
  refine Ev_br rfl (fun hc => absurd hc b1z) (fun _ => ?_)
  refine Ev_ca rfl (c_isSign_t _ hs) ?_
  refine Ev_br rfl (fun _ => ?_) (fun hc => absurd b1z hc)
  refine Ev_ca rfl (c_signsOf S T hL (by omega)) ?_
  refine Ev_ca rfl (c_has _ (by omega) (by omega)) ?_
  rw [hb]
  exact Ev_br rfl (fun hc => absurd nI_0 hc) (fun _ => Ev_rt rfl rfl rfl rfl)
theorem cC_hoarse_tail {k s : Nat} (hk : k < 5) (hs : s < 8) (hL : MoL (C_nw S)) (hB : MoB (C_nw S)) : Ev [] mX8_hoarse (36, [some (.ref 0), some (.int (nI k)), some (.int (nI s))], [], hpC S ++ T) (some (.int (nI (pop (sgC S k &&& (255 ^^^ 2 ^ s)))))) (hpC (sgS S k (sgC S k &&& (255 ^^^ 2 ^ s))) ++ T) := by
  have hx : sgC S k < 256 := hB.1 k
  have hle : sgC S k &&& (255 ^^^ 2 ^ s) ≤ sgC S k := Nat.and_le_left
  have h1 := hL.1
  refine Ev_ca rfl (c_signsOf S T hL (by omega)) ?_
  refine Ev_cae rfl (as' := [.ref 29, .int (nI k), .int (nI (sgC S k &&& (255 ^^^ 2 ^ s)))]) ?_ (c_putSg S T hL hk) ?_
  · rw [← andN256 _ hx _ hs]
  refine Ev_ca rfl (c_signsOf (sgS S k _) T (MoL_sg hL _ _) (by omega)) ?_
  have e : sgC (sgS S k (sgC S k &&& (255 ^^^ 2 ^ s))) k = sgC S k &&& (255 ^^^ 2 ^ s) := by
    show gd ((C_nw S).1.set k _) k = _
    rw [gd_set, if_pos ⟨rfl, by omega⟩]
  rw [e]
  exact Ev_ca rfl (c_bitCount _ (by omega)) (Ev_rt rfl rfl rfl rfl)
theorem cC_hoarse {k s : Nat} (hk : k < ho_K (C_to S)) (hK : ho_K (C_to S) ≤ 5) (hs : s < 8) (hL : MoL (C_nw S)) (hB : MoB (C_nw S)) (hb : bt (sgC S k) s = 1) (hP : ∀ j, MoL (C_pm S j)) (hp : C_pp S < 10) (hu : C_un S ≤ 10) : Cl mX8_hoarse [.ref 0, .int (nI k), .int (nI s)] (hpC S ++ T) (some (.int (nI (pop (sgC S k &&& (255 ^^^ 2 ^ s)))))) (hpC (sgS (remS S) k (sgC S k &&& (255 ^^^ 2 ^ s))) ++ T) := by
  have hx : sgC S k < 256 := hB.1 k
  refine Ev_ca rfl (c_isKnocker_t S T hk hK) ?_
  refine Ev_br rfl (fun hc => absurd hc b1z) (fun _ => ?_)
  refine Ev_ca rfl (c_isSign_t _ hs) ?_
  refine Ev_br rfl (fun _ => ?_) (fun hc => absurd b1z hc)
  refine Ev_ca rfl (c_signsOf S T hL (by omega)) ?_
  refine Ev_ca rfl (c_has _ (by omega) (by omega)) ?_
  rw [hb]
  refine Ev_br rfl (fun _ => ?_) (fun hc => absurd b1z hc)
  refine Ev_ca rfl (c_remember S T hL hP hp hu) ?_
  exact cC_hoarse_tail (remS S) T (by omega) hs hL hB
-- change
theorem cC_change_bad {x y z : Int32} (hx : x < 0 ∨ nI (ho_U (C_to S)) ≤ x) : Cl mX8_change [.ref 0, .int x, .int y, .int z] (hpC S ++ T) (some (.int kM1)) (hpC S ++ T) := by
  refine Ev_ca rfl (c_isRule_f S T hx) ?_
  exact Ev_br rfl (fun _ => Ev_rt rfl rfl rfl rfl) (fun hc => absurd nI_0 hc)
theorem cC_change_bad2 {k : Nat} {y z : Int32} (hk : k < ho_U (C_to S)) (hU : ho_U (C_to S) ≤ 4) (hy : y < nI 1 ∨ nI 255 < y) : Cl mX8_change [.ref 0, .int (nI k), .int y, .int z] (hpC S ++ T) (some (.int kM1)) (hpC S ++ T) := by
  refine Ev_ca rfl (c_isRule_t S T hk hU) ?_
  refine Ev_br rfl (fun hc => absurd hc b1z) (fun _ => ?_)
  refine Ev_br rfl (fun _ => Ev_rt rfl rfl rfl rfl) (fun h1 => ?_)
  refine Ev_br rfl (fun h2 => ?_) (fun _ => Ev_rt rfl rfl rfl rfl)
  exact absurd hy (fun q => q.elim h1 (fun h => Int32.not_lt.mpr h2 h))
theorem cC_change_bad3 {k y : Nat} {z : Int32} (hk : k < ho_U (C_to S)) (hU : ho_U (C_to S) ≤ 4) (hy : 1 ≤ y) (hy2 : y < 256) (hz : z < nI 1 ∨ nI (pop y) < z) : Cl mX8_change [.ref 0, .int (nI k), .int (nI y), .int z] (hpC S ++ T) (some (.int kM1)) (hpC S ++ T) := by
  refine Ev_ca rfl (c_isRule_t S T hk hU) ?_
  refine Ev_br rfl (fun hc => absurd hc b1z) (fun _ => ?_)
  refine Ev_br rfl (fun hc => absurd hc (nI_nlt hy (by omega))) (fun _ => ?_)
  refine Ev_br rfl (fun _ => ?_) (fun hc => absurd (nI_le (show y ≤ 255 by omega) (by decide)) hc)
  refine Ev_br rfl (fun _ => Ev_rt rfl rfl rfl rfl) (fun h1 => ?_)
  refine Ev_ca rfl (c_bitCount _ hy2) ?_
  refine Ev_br rfl (fun h2 => ?_) (fun _ => Ev_rt rfl rfl rfl rfl)
  exact absurd hz (fun q => q.elim h1 (fun h => Int32.not_lt.mpr h2 h))
theorem cC_change_tail {k y z : Nat} (hk : k < 4) (hy : y < 256) (hz : z < 9) (hL : MoL (C_nw S)) (hB : MoB (C_nw S)) (hK : ho_K (C_to S) ≤ 5) (hU : ho_U (C_to S) ≤ 4) : Ev [] mX8_change (41, [some (.ref 0), some (.int (nI k)), some (.int (nI y)), some (.int (nI z))], [], hpC S ++ T) (some (.int (nI (pop (liC (ruS S k y z)))))) (hpC (ruS S k y z) ++ T) := by
  refine Ev_ca rfl (c_putRu S T hL hk) ?_
  refine Ev_ca rfl (c_putMa S T hL hk) ?_
  refine Ev_ca rfl (c_letIn (ruS S k y z) T (MoL_ru hL _ _ _) (MoB_ru hB _ _ _ hy hz) hK hU) ?_
  have hb : liC (ruS S k y z) < 32 := bits32 _ hK
  exact Ev_ca rfl (c_bitCount _ (Nat.lt_trans hb (by decide))) (Ev_rt rfl rfl rfl rfl)
theorem cC_change {k y z : Nat} (hk : k < ho_U (C_to S)) (hU : ho_U (C_to S) ≤ 4) (hy : 1 ≤ y) (hy2 : y < 256) (hz : 1 ≤ z) (hz2 : z ≤ pop y) (hL : MoL (C_nw S)) (hB : MoB (C_nw S)) (hK : ho_K (C_to S) ≤ 5) (hP : ∀ j, MoL (C_pm S j)) (hp : C_pp S < 10) (hu : C_un S ≤ 10) : Cl mX8_change [.ref 0, .int (nI k), .int (nI y), .int (nI z)] (hpC S ++ T) (some (.int (nI (pop (liC (ruS (remS S) k y z)))))) (hpC (ruS (remS S) k y z) ++ T) := by
  have hpy := pop_le y
  refine Ev_ca rfl (c_isRule_t S T hk hU) ?_
  refine Ev_br rfl (fun hc => absurd hc b1z) (fun _ => ?_)
  refine Ev_br rfl (fun hc => absurd hc (nI_nlt hy (by omega))) (fun _ => ?_)
  refine Ev_br rfl (fun _ => ?_) (fun hc => absurd (nI_le (show y ≤ 255 by omega) (by decide)) hc)
  refine Ev_br rfl (fun hc => absurd hc (nI_nlt hz (by omega))) (fun _ => ?_)
  refine Ev_ca rfl (c_bitCount _ hy2) ?_
  refine Ev_br rfl (fun _ => ?_) (fun hc => absurd (nI_le hz2 (by omega)) hc)
  refine Ev_ca rfl (c_remember S T hL hP hp hu) ?_
  exact cC_change_tail (remS S) T (by omega) hy2 (by omega) hL hB hK hU
-- undo
def prv (p : Nat) : Nat := if p = 0 then 9 else p - 1
theorem cC_undo_st (hu : C_un S = 0) : Cl mX8_undo [.ref 0] (hpC S ++ T) (some (.int kM2)) (hpC S ++ T) := by
  refine Ev_br rfl (fun hc => absurd (show nI (C_un S) = 0 by rw [hu]; exact nI_0) hc) (fun _ => Ev_rt rfl rfl rfl rfl)
theorem cC_undo_tail (hL : MoL (C_nw S)) (hP : ∀ j, MoL (C_pm S j)) (hp : C_pp S < 10) : Ev [] mX8_undo (42, [some (.ref 0)], [], hpC S ++ T) (some (.int (nI (C_un S)))) (hpC (Cs_nw S (C_pm S (C_pp S))) ++ T) :=
  Ev_ca rfl (c_past_fetch S T hp hL hP) (Ev_rt rfl rfl rfl rfl)
theorem cC_undo_mid (hL : MoL (C_nw S)) (hP : ∀ j, MoL (C_pm S j)) (hp : C_pp S < 10) : Ev [] mX8_undo (20, [some (.ref 0)], [], hpC S ++ T) (some (.int (nI (C_un S)))) (hpC (Cs_nw (Cs_pp S (prv (C_pp S))) (C_pm S (prv (C_pp S)))) ++ T) := by
  refine Ev_br rfl (fun hc => ?_) (fun hc => ?_)
  · have hc : ¬ nI (C_pp S) = 0 := hc
    have h0 : C_pp S ≠ 0 := fun e => hc (by rw [e]; exact nI_0)
    have e : prv (C_pp S) = C_pp S - 1 := if_neg h0
    rw [e]
    refine a_run_ev 5 rfl ?_
    refine Ev_h (h2 := hpC (Cs_pp S (C_pp S - 1)) ++ T) (by rw [pk_sub (show 1 ≤ C_pp S by omega)]; rfl) ?_
    exact cC_undo_tail (Cs_pp S (C_pp S - 1)) T hL hP (by show C_pp S - 1 < 10; omega)
  · have hc : ¬ ¬ nI (C_pp S) = 0 := hc
    have h0 : C_pp S = 0 := by
      rw [Decidable.not_not, ← nI_0, nI_eq (by omega) (by decide)] at hc
      exact hc
    have e : prv (C_pp S) = 9 := if_pos h0
    rw [e]
    refine Ev_jp rfl (a_run_ev 1 rfl ?_)
    refine Ev_h (h2 := hpC (Cs_pp S 9) ++ T) rfl ?_
    exact cC_undo_tail (Cs_pp S 9) T hL hP (by show 9 < 10; omega)
theorem cC_undo (hL : MoL (C_nw S)) (hP : ∀ j, MoL (C_pm S j)) (hp : C_pp S < 10) (hu : 0 < C_un S) (hu2 : C_un S ≤ 10) : Cl mX8_undo [.ref 0] (hpC S ++ T) (some (.int (nI (C_un S - 1)))) (hpC (Cs_nw (Cs_pp (Cs_un S (C_un S - 1)) (prv (C_pp S))) (C_pm S (prv (C_pp S)))) ++ T) := by
  refine Ev_br rfl (fun _ => ?_) (fun hc => ?_)
  · refine a_run_ev 6 rfl ?_
    refine Ev_h (h2 := hpC (Cs_un S (C_un S - 1)) ++ T) (by rw [pk_sub (show 1 ≤ C_un S by omega)]; rfl) ?_
    exact cC_undo_mid (Cs_un S (C_un S - 1)) T hL hP hp
  · exact absurd hc (fun q => q (nI_ne0 hu (by omega)))
end

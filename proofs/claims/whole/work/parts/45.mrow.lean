/-! THE REFERENCE: rows for its rows; its simplest methods -/
theorem Ev_ial {scr : List Int32} {mi : Nat} {c : aF} {npc i : Nat} {x : Int32} {ls : aL} {r : List Value} {hh : aH} {v : Option Value} {h' : aH} {L : List Nat} (h : a_ckc scr 99 mi c = some (a_in x (L.map nI).length, (npc, ls, .int ((L.map nI).getD x.toNatClampNeg 0) :: r, hh))) (hx : x = nI i) (hi : i < L.length) (hL : L.length ≤ 1000) (k : Ev scr mi (npc, ls, .int (nI (gd L i)) :: r, hh) v h') : Ev scr mi c v h' := by
  subst hx
  refine Ev_ck h (a_inN (by rw [List.length_map]; exact hi) (by rw [List.length_map]; omega)) ?_
  rw [a_mapget L i (by omega)]
  exact k
theorem Ev_isl {scr : List Int32} {mi : Nat} {c : aF} {npc i y q : Nat} {x z : Int32} {ls : aL} {r : List Value} {hh h2 : aH} {v : Option Value} {h' : aH} {L : List Nat} (h : a_ckc scr 99 mi c = some (a_in x (L.map nI).length, (npc, ls, r, List.set hh q (.inl (0, (L.map nI).set x.toNatClampNeg z))))) (hx : x = nI i) (hz : z = nI y) (hi : i < L.length) (hL : L.length ≤ 1000) (e : List.set hh q (.inl (0, (L.set i y).map nI)) = h2) (k : Ev scr mi (npc, ls, r, h2) v h') : Ev scr mi c v h' := by
  subst hx; subst hz; subst e
  refine Ev_ck h (a_inN (by rw [List.length_map]; exact hi) (by rw [List.length_map]; omega)) ?_
  rw [a_mapset L i y (by omega)]
  exact k
theorem r_in_t (h : aH) {k a b : Nat} (h1 : a ≤ k) (h2 : k ≤ b) (hb : b < 2 ^ 31) : Cl mX9_in [.int (nI k), .int (nI a), .int (nI b)] h (some (.int (nI 1))) h := by
  refine Ev_br rfl (fun hc => absurd hc (nI_nlt h1 (by omega))) (fun _ => ?_)
  refine Ev_br rfl (fun hc => absurd hc (nI_nlt h2 hb)) (fun _ => ?_)
  exact Ev_jp rfl (Ev_rt rfl rfl rfl rfl)
theorem r_in_f (h : aH) {x a b : Int32} (hx : x < a ∨ b < x) : Cl mX9_in [.int x, .int a, .int b] h (some (.int (nI 0))) h := by
  refine Ev_br rfl (fun _ => Ev_rt rfl rfl rfl rfl) (fun h1 => ?_)
  refine Ev_br rfl (fun _ => Ev_rt rfl rfl rfl rfl) (fun h2 => ?_)
  exact absurd hx (fun q => q.elim h1 h2)
theorem nI_lt1 {n : Nat} {x : Int32} (hn : n < 2 ^ 30) (hx : x < 0 ∨ nI n ≤ x) : x < nI 0 ∨ nI n - nI 1 < x := by
  rcases hx with hx | hx
  · exact Or.inl (by rw [nI_0]; exact hx)
  · right
    rw [Int32.lt_iff_toInt_lt, pk_sub_toInt hn (by decide)]
    have := Int32.le_iff_toInt_le.mp hx
    rw [nI_toInt (by omega)] at this
    omega
def onL (x : Int32) : Nat → Int32 → Int32 → Int32
  | 0, _, a => a
  | n + 1, i, a => onL x n (i + nI 1) (a + ((x >>> (i &&& 31)) &&& nI 1))
theorem onL_eq : ∀ n, n < 256 → onL (nI n) 8 (nI 0) (nI 0) = nI (pop n) := by decide +kernel
theorem r_ones (h : aH) {n : Nat} (hn : n < 256) : Cl mX9_ones [.int (nI n)] h (some (.int (nI (pop n)))) h := by
  have e : Cl mX9_ones [.int (nI n)] h (some (.int (onL (nI n) 8 (nI 0) (nI 0)))) h := ⟨200, rfl⟩
  rw [onL_eq n hn] at e
  exact e
theorem lets_succ (se ma : Nat → Nat) (x i : Nat) : lets (i + 1) se ma x = (lets i se ma x && decide (ma i ≤ pop (x &&& se i))) := by
  have h := met_le se ma x i
  unfold lets
  rw [met_succ]
  by_cases h1 : met se ma x i = i
  · by_cases h2 : ma i ≤ pop (x &&& se i)
    · rw [if_pos h2, h1, decide_eq_true rfl, decide_eq_true rfl, decide_eq_true h2]
      rfl
    · rw [if_neg h2, h1, decide_eq_true rfl, decide_eq_false h2, decide_eq_false (by omega)]
      rfl
  · rw [decide_eq_false h1, Bool.false_and]
    split
    · exact decide_eq_false (by omega)
    · exact decide_eq_false (by omega)
/-- the reference's rows are as long as they are; its numbers are small -/
def ML (M : mS) : Prop := (M_tx M).length = 300 ∧ (M_rg M).length = 10 ∧ (M_sg M).length = 10 ∧ (M_er M).length = 36 ∧ (M_td M).length = 16 ∧ (M_s M).length = 18 ∧ (M_kp M).length = 36 ∧ (M_ik M).length = 2 ∧ (M_ud M).length = 40 ∧ (M_ss M).length = 6 ∧ (M_sh M).length = 6
abbrev sgM (M : mS) (k : Nat) : Nat := gd (M_s M) k
abbrev hrM (M : mS) (k : Nat) : Nat := gd (M_s M) (5 + k)
abbrev seM (M : mS) (i : Nat) : Nat := gd (M_s M) (10 + i)
abbrev maM (M : mS) (i : Nat) : Nat := gd (M_s M) (14 + i)
abbrev riM (M : mS) (k : Nat) : Nat := gd (M_rg M) k
abbrev geM (M : mS) (e : Nat) : Nat := gd (M_er M) (3 * e)
abbrev taM (M : mS) (e : Nat) : Nat := gd (M_er M) (3 * e + 1)
abbrev neM (M : mS) (e : Nat) : Nat := gd (M_er M) (3 * e + 2)
abbrev leM (M : mS) (x : Nat) : Bool := lets (M_ru M) (seM M) (maM M) x
def MB (M : mS) : Prop := (∀ k, k < 5 → sgM M k < 256 ∧ hrM M k < 100) ∧ (∀ i, i < 4 → seM M i < 256 ∧ maM M i < 9) ∧ (∀ k, k < 5 → riM M k < 2) ∧ (∀ e, e < 6 → geM M e < 8 ∧ taM M e < 10 ∧ neM M e < 10) ∧ M_kn M ≤ 5 ∧ M_em M ≤ 6 ∧ M_ru M ≤ 4 ∧ M_ld M < 256
section
variable (S : cS) (M : mS)
theorem r_isK_t {k : Nat} (hk : k < M_kn M) (hb : M_kn M ≤ 5) : Cl mX9_isKnocker [.ref 104, .int (nI k)] (hp S M) (some (.int (nI 1))) (hp S M) := by
  refine Ev_cae rfl (as' := [.int (nI k), .int (nI 0), .int (nI (M_kn M - 1))]) ?_ (r_in_t _ (by omega) (by omega) (by omega)) (Ev_rt rfl rfl rfl rfl)
  rw [← pk_sub (by omega)]
theorem r_isK_f {x : Int32} (hb : M_kn M ≤ 5) (hx : x < 0 ∨ nI (M_kn M) ≤ x) : Cl mX9_isKnocker [.ref 104, .int x] (hp S M) (some (.int (nI 0))) (hp S M) :=
  Ev_ca rfl (r_in_f _ (nI_lt1 (by omega) hx)) (Ev_rt rfl rfl rfl rfl)
theorem r_isE_t {k : Nat} (hk : k < M_em M) (hb : M_em M ≤ 6) : Cl mX9_isErrand [.ref 104, .int (nI k)] (hp S M) (some (.int (nI 1))) (hp S M) := by
  refine Ev_cae rfl (as' := [.int (nI k), .int (nI 0), .int (nI (M_em M - 1))]) ?_ (r_in_t _ (by omega) (by omega) (by omega)) (Ev_rt rfl rfl rfl rfl)
  rw [← pk_sub (by omega)]
theorem r_isE_f {x : Int32} (hb : M_em M ≤ 6) (hx : x < 0 ∨ nI (M_em M) ≤ x) : Cl mX9_isErrand [.ref 104, .int x] (hp S M) (some (.int (nI 0))) (hp S M) :=
  Ev_ca rfl (r_in_f _ (nI_lt1 (by omega) hx)) (Ev_rt rfl rfl rfl rfl)
theorem r_isU_t {k : Nat} (hk : k < M_ru M) (hb : M_ru M ≤ 4) : Cl mX9_isRule [.ref 104, .int (nI k)] (hp S M) (some (.int (nI 1))) (hp S M) := by
  refine Ev_cae rfl (as' := [.int (nI k), .int (nI 0), .int (nI (M_ru M - 1))]) ?_ (r_in_t _ (by omega) (by omega) (by omega)) (Ev_rt rfl rfl rfl rfl)
  rw [← pk_sub (by omega)]
theorem r_isU_f {x : Int32} (hb : M_ru M ≤ 4) (hx : x < 0 ∨ nI (M_ru M) ≤ x) : Cl mX9_isRule [.ref 104, .int x] (hp S M) (some (.int (nI 0))) (hp S M) :=
  Ev_ca rfl (r_in_f _ (nI_lt1 (by omega) hx)) (Ev_rt rfl rfl rfl rfl)
theorem r_hasEnough (hL : ML M) (hB : MB M) {x i : Nat} (hx : x < 256) (hi : i < 4) : Cl mX9_hasEnough [.ref 104, .int (nI x), .int (nI i)] (hp S M) (some (.int (nI (decide (maM M i ≤ pop (x &&& seM M i))).toNat))) (hp S M) := by
  have ls := hL.2.2.2.2.2.1
  obtain ⟨b1, b2⟩ := hB.2.1 i hi
  have hle : x &&& seM M i ≤ x := Nat.and_le_left
  have hp8 := pop_le (x &&& seM M i)
  refine Ev_ial rfl (i := 10 + i) (nI_add _ _) (by omega) (by omega) ?_
  refine Ev_cae rfl (as' := [.int (nI (x &&& seM M i))]) ?_ (r_ones _ (by omega)) ?_
  · rw [← nI_and (by omega) (by omega)]
  refine Ev_ial rfl (i := 14 + i) (nI_add _ _) (by omega) (by omega) ?_
  refine Ev_br rfl (fun hc => ?_) (fun hc => ?_)
  · have hc : nI (pop (x &&& seM M i)) < nI (maM M i) := hc
    rw [nI_ltI (by omega) (by omega)] at hc
    rw [decide_eq_false (by omega)]
    exact Ev_rt rfl rfl rfl rfl
  · have hc : ¬ nI (pop (x &&& seM M i)) < nI (maM M i) := hc
    rw [nI_ltI (by omega) (by omega)] at hc
    rw [decide_eq_true (by omega)]
    exact Ev_jp rfl (Ev_rt rfl rfl rfl rfl)
theorem b01 (b : Bool) : decide (nI b.toNat = 0 ∨ nI b.toNat = 1) = true := by cases b <;> decide
theorem r_isLetIn_loop (hL : ML M) (hB : MB M) {x : Nat} (hx : x < 256) : ∀ (d i : Nat), i + d = M_ru M → Ev [] mX9_isLetIn (4, [some (.ref 104), some (.int (nI x)), some (.int (nI (lets i (seM M) (maM M) x).toNat)), some (.int (nI i))], [], hp S M) (some (.int (nI (leM M x).toNat))) (hp S M)
  | 0, i, e => by
    have hU := hB.2.2.2.2.2.2.1
    have e : i = M_ru M := by omega
    subst e
    exact Ev_br rfl (fun _ => Ev_rt rfl (b01 _) rfl rfl) (fun hc => absurd (nI_le (Nat.le_refl _) (by omega)) hc)
  | d + 1, i, e => by
    have hU := hB.2.2.2.2.2.2.1
    have ih := r_isLetIn_loop hL hB hx d (i + 1) (by omega)
    have el := lets_succ (seM M) (maM M) x i
    refine Ev_br rfl (fun hc => absurd hc (nI_ge (show i < M_ru M by omega) (by omega))) (fun _ => ?_)
    cases h1 : lets i (seM M) (maM M) x with
    | false =>
      rw [h1, Bool.false_and] at el
      refine Ev_br rfl (fun _ => ?_) (fun hc => absurd nI_0 hc)
      refine Ev_jpe rfl ?_ ih
      rw [nI_add, el]
      rfl
    | true =>
      rw [h1, Bool.true_and] at el
      refine Ev_br rfl (fun hc => absurd hc b1z) (fun _ => ?_)
      refine Ev_ca rfl (r_hasEnough S M hL hB hx (show i < 4 by omega)) ?_
      cases h2 : decide (maM M i ≤ pop (x &&& seM M i)) with
      | false =>
        rw [h2] at el
        refine Ev_br rfl (fun _ => ?_) (fun hc => absurd nI_0 hc)
        refine Ev_jpe rfl ?_ ih
        rw [nI_add, el]
        rfl
      | true =>
        rw [h2] at el
        refine Ev_br rfl (fun hc => absurd hc b1z) (fun _ => ?_)
        refine Ev_jp rfl ?_
        refine Ev_jpe rfl ?_ ih
        rw [nI_add, el]
        rfl
theorem r_isLetIn (hL : ML M) (hB : MB M) {x : Nat} (hx : x < 256) : Cl mX9_isLetIn [.ref 104, .int (nI x)] (hp S M) (some (.int (nI (leM M x).toNat))) (hp S M) :=
  a_run_ev 4 rfl (r_isLetIn_loop S M hL hB hx (M_ru M) 0 (by omega))
theorem r_letIn_loop (hL : ML M) (hB : MB M) : ∀ (d k : Nat), k + d = M_kn M → Ev [] mX9_letIn (4, [some (.ref 104), some (.int (nI (bits (fun k => leM M (sgM M k)) k))), some (.int (nI k))], [], hp S M) (some (.int (nI (bits (fun k => leM M (sgM M k)) (M_kn M))))) (hp S M)
  | 0, k, e => by
    have hK := hB.2.2.2.2.1
    have e : k = M_kn M := by omega
    subst e
    exact Ev_br rfl (fun _ => Ev_rt rfl rfl rfl rfl) (fun hc => absurd (nI_le (Nat.le_refl _) (by omega)) hc)
  | d + 1, k, e => by
    have hK := hB.2.2.2.2.1
    have ls := hL.2.2.2.2.2.1
    have hb := bits_lt (fun k => leM M (sgM M k)) k
    have hpw := pow_lt31 (n := k) (k := 30) (by omega) (by omega)
    refine Ev_br rfl (fun hc => absurd hc (nI_ge (show k < M_kn M by omega) (by omega))) (fun _ => ?_)
    refine Ev_ial rfl (i := k) rfl (by omega) (by omega) ?_
    refine Ev_ca rfl (r_isLetIn S M hL hB (hB.1 k (by omega)).1) ?_
    cases hm : leM M (sgM M k) with
    | true =>
      refine Ev_br rfl (fun hc => absurd hc b1z) (fun _ => ?_)
      refine Ev_jp rfl ?_
      refine Ev_jpe rfl ?_ (r_letIn_loop hL hB d (k + 1) (by omega))
      rw [nI_shl1 (by omega), nI_or (by omega) (by omega), nI_add, bits_succ, hm]
      rfl
    | false =>
      refine Ev_br rfl (fun _ => ?_) (fun hc => absurd nI_0 hc)
      refine Ev_jpe rfl ?_ (r_letIn_loop hL hB d (k + 1) (by omega))
      rw [nI_or (by omega) (show 0 < 2 ^ 31 by decide), nI_add, bits_succ, hm, if_neg (by decide)]
theorem r_letIn (hL : ML M) (hB : MB M) : Cl mX9_letIn [.ref 104] (hp S M) (some (.int (nI (bits (fun k => leM M (sgM M k)) (M_kn M))))) (hp S M) :=
  a_run_ev 4 rfl (r_letIn_loop S M hL hB (M_kn M) 0 (by omega))
theorem shl01 : ∀ r, r < 2 → ∀ k, k < 5 → nI r <<< (nI k &&& 31) = nI (if (r == 1) = true then 2 ^ k else 0) := by decide +kernel
theorem r_rightOnes_loop (hL : ML M) (hB : MB M) : ∀ (d k : Nat), k + d = M_kn M → Ev [] mX9_rightOnes (4, [some (.ref 104), some (.int (nI (bits (fun k => riM M k == 1) k))), some (.int (nI k))], [], hp S M) (some (.int (nI (bits (fun k => riM M k == 1) (M_kn M))))) (hp S M)
  | 0, k, e => by
    have hK := hB.2.2.2.2.1
    have e : k = M_kn M := by omega
    subst e
    exact Ev_br rfl (fun _ => Ev_rt rfl rfl rfl rfl) (fun hc => absurd (nI_le (Nat.le_refl _) (by omega)) hc)
  | d + 1, k, e => by
    have hK := hB.2.2.2.2.1
    have lr := hL.2.1
    have hb := bits_lt (fun k => riM M k == 1) k
    have hpw := pow_lt31 (n := k) (k := 30) (by omega) (by omega)
    refine Ev_br rfl (fun hc => absurd hc (nI_ge (show k < M_kn M by omega) (by omega))) (fun _ => ?_)
    refine Ev_ial rfl (i := k) rfl (by omega) (by omega) ?_
    refine Ev_jpe rfl ?_ (r_rightOnes_loop hL hB d (k + 1) (by omega))
    rw [shl01 _ (hB.2.2.1 k (by omega)) k (by omega), nI_or (by omega) (by split <;> omega), nI_add, bits_succ]
theorem r_rightOnes (hL : ML M) (hB : MB M) : Cl mX9_rightOnes [.ref 104] (hp S M) (some (.int (nI (bits (fun k => riM M k == 1) (M_kn M))))) (hp S M) :=
  a_run_ev 4 rfl (r_rightOnes_loop S M hL hB (M_kn M) 0 (by omega))
end

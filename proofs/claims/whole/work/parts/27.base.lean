/-! numbers: bits of small sets; what the JDK's and the simplest methods answer -/
def bt (n k : Nat) : Nat := n / 2 ^ k % 2
def pop (n : Nat) : Nat := ((List.range 8).map (bt n)).sum
theorem nI_and {a b : Nat} (ha : a < 2 ^ 31) (hb : b < 2 ^ 31) : nI a &&& nI b = nI (a &&& b) := by
  apply Int32.toBitVec_inj.mp
  apply BitVec.eq_of_toNat_eq
  have hab : a &&& b ≤ a := Nat.and_le_left
  rw [Int32.toBitVec_and, BitVec.toNat_and, pk_tn (by omega), pk_tn (by omega), pk_tn (by omega)]
theorem nI_or {a b : Nat} (ha : a < 2 ^ 31) (hb : b < 2 ^ 31) : nI a ||| nI b = nI (a ||| b) := by
  apply Int32.toBitVec_inj.mp
  apply BitVec.eq_of_toNat_eq
  have hab : a ||| b < 2 ^ 31 := Nat.or_lt_two_pow ha hb
  rw [Int32.toBitVec_or, BitVec.toNat_or, pk_tn (by omega), pk_tn (by omega), pk_tn (by omega)]
theorem nI_sh31 : ∀ k, k < 31 → ((nI k &&& nI 31).toBitVec.smod 32).toNat = k ∧ ((nI k &&& 31).toBitVec.smod 32).toNat = k := by decide +kernel
theorem nI_shl1 {k : Nat} (hk : k < 31) : nI 1 <<< (nI k &&& 31) = nI (2 ^ k) := by
  have h : 2 ^ k < 2 ^ 31 := Nat.pow_lt_pow_right (by decide) hk
  rw [pk_shlN _ k (nI_sh31 k hk).2 (by omega), Nat.one_mul]
theorem nI_bt {n k : Nat} (hn : n < 2 ^ 31) (hk : k < 31) : (nI n >>> (nI k &&& 31)) &&& nI 1 = nI (bt n k) := by
  rw [pk_shrN hn _ k (nI_sh31 k hk).2, pk_andN (Nat.lt_of_le_of_lt (Nat.div_le_self _ _) (by omega)) 1 (by decide)]
  rfl
theorem bt_lt (n k : Nat) : bt n k < 2 := Nat.mod_lt _ (by decide)
theorem pop_le (n : Nat) : pop n ≤ 8 := by
  have h := fun k => bt_lt n k
  simp only [pop, List.range, List.range.loop, List.map_cons, List.map_nil, List.sum_cons, List.sum_nil]
  have h0 := h 0; have h1 := h 1; have h2 := h 2; have h3 := h 3; have h4 := h 4; have h5 := h 5; have h6 := h 6; have h7 := h 7
  omega
/-- Integer.bitCount, as the JDK has it -/
def bcI (x0 : Int32) : Int32 :=
  let u := fun (x y : Int32) => (x.toUInt32 >>> (y.toUInt32 &&& Int32.toUInt32 31)).toInt32
  let x1 := x0 - (u x0 (nI 1) &&& nI 1431655765)
  let x2 := (x1 &&& nI 858993459) + (u x1 (nI 2) &&& nI 858993459)
  let x3 := (x2 + u x2 (nI 4)) &&& nI 252645135
  let x4 := x3 + u x3 (nI 8)
  let x5 := x4 + u x4 (nI 16)
  x5 &&& nI 63
theorem bcI_eq : ∀ n, n < 256 → bcI (nI n) = nI (pop n) := by decide +kernel
theorem c_bitCount (h : aH) {n : Nat} (hn : n < 256) : Cl mJ6_bitCount_0f7a4 [.int (nI n)] h (some (.int (nI (pop n)))) h := by
  refine Ev_rt rfl rfl ?_ rfl
  show some (Value.int (bcI (nI n))) = _
  rw [bcI_eq n hn]
-- the class's statics over numbers
theorem c_isSign_t (h : aH) {k : Nat} (hk : k < 8) : Cl mX8_isSign [.int (nI k)] h (some (.int (nI 1))) h := by
  refine Ev_br rfl (fun hc => absurd hc (nI_pos (by omega))) (fun _ => ?_)
  refine Ev_br rfl (fun hc => absurd hc (nI_ge hk (by decide))) (fun _ => ?_)
  exact Ev_jp rfl (Ev_rt rfl rfl rfl rfl)
theorem c_isSign_f (h : aH) {x : Int32} (hx : x < 0 ∨ nI 8 ≤ x) : Cl mX8_isSign [.int x] h (some (.int (nI 0))) h := by
  refine Ev_br rfl (fun _ => Ev_rt rfl rfl rfl rfl) (fun h1 => ?_)
  refine Ev_br rfl (fun _ => Ev_rt rfl rfl rfl rfl) (fun h2 => ?_)
  exact absurd hx (fun q => q.elim h1 h2)
theorem c_isHours_t (h : aH) {k : Nat} (hk : k < 100) : Cl mX8_isHours [.int (nI k)] h (some (.int (nI 1))) h := by
  refine Ev_br rfl (fun hc => absurd hc (nI_pos (by omega))) (fun _ => ?_)
  refine Ev_br rfl (fun hc => absurd hc (nI_nlt (show k ≤ 99 by omega) (by decide))) (fun _ => ?_)
  exact Ev_jp rfl (Ev_rt rfl rfl rfl rfl)
theorem c_isHours_f (h : aH) {x : Int32} (hx : x < 0 ∨ nI 99 < x) : Cl mX8_isHours [.int x] h (some (.int (nI 0))) h := by
  refine Ev_br rfl (fun _ => Ev_rt rfl rfl rfl rfl) (fun h1 => ?_)
  refine Ev_br rfl (fun _ => Ev_rt rfl rfl rfl rfl) (fun h2 => ?_)
  exact absurd hx (fun q => q.elim h1 h2)
theorem c_isBit_t (h : aH) {k : Nat} (hk : k < 2) : Cl mX8_isBit [.int (nI k)] h (some (.int (nI 1))) h := by
  match k, hk with
  | 0, _ =>
    refine Ev_br rfl (fun _ => Ev_jp rfl (Ev_rt rfl rfl rfl rfl)) (fun h1 => absurd nI_0 h1)
  | 1, _ =>
    refine Ev_br rfl (fun h1 => absurd h1 (show ¬ nI 1 = 0 by decide)) (fun _ => ?_)
    exact Ev_br rfl (fun h1 => absurd rfl h1) (fun _ => Ev_jp rfl (Ev_rt rfl rfl rfl rfl))
theorem c_isBit_f (h : aH) {x : Int32} (h0 : ¬ x = nI 0) (h1 : ¬ x = nI 1) : Cl mX8_isBit [.int x] h (some (.int (nI 0))) h := by
  refine Ev_br rfl (fun q => absurd (show x = 0 from q) (by rw [← nI_0]; exact h0)) (fun _ => ?_)
  exact Ev_br rfl (fun _ => Ev_rt rfl rfl rfl rfl) (fun q => absurd h1 q)
theorem c_isImage_t (h : aH) {k : Nat} (hk : k < 2) : Cl mX8_isImage [.int (nI k)] h (some (.int (nI 1))) h := by
  refine Ev_br rfl (fun hc => absurd hc (nI_pos (by omega))) (fun _ => ?_)
  refine Ev_br rfl (fun hc => absurd hc (nI_ge hk (by decide))) (fun _ => ?_)
  exact Ev_jp rfl (Ev_rt rfl rfl rfl rfl)
theorem c_isImage_f (h : aH) {x : Int32} (hx : x < 0 ∨ nI 2 ≤ x) : Cl mX8_isImage [.int x] h (some (.int (nI 0))) h := by
  refine Ev_br rfl (fun _ => Ev_rt rfl rfl rfl rfl) (fun h1 => ?_)
  refine Ev_br rfl (fun _ => Ev_rt rfl rfl rfl rfl) (fun h2 => ?_)
  exact absurd hx (fun q => q.elim h1 h2)
theorem c_has (h : aH) {n k : Nat} (hn : n < 2 ^ 31) (hk : k < 31) : Cl mX8_has [.int (nI n), .int (nI k)] h (some (.int (nI (bt n k)))) h := by
  refine Ev_br rfl (fun hc => ?_) (fun hc => ?_)
  · have hc : ¬ ((nI n >>> (nI k &&& 31)) &&& nI 1) = nI 1 := hc
    rw [nI_bt hn hk, nI_eq (Nat.lt_of_lt_of_le (bt_lt n k) (by decide)) (by decide)] at hc
    refine Ev_rt rfl rfl ?_ rfl
    have := bt_lt n k
    rw [show bt n k = 0 by omega]
  · have hc : ¬ ¬ ((nI n >>> (nI k &&& 31)) &&& nI 1) = nI 1 := hc
    rw [nI_bt hn hk, nI_eq (Nat.lt_of_lt_of_le (bt_lt n k) (by decide)) (by decide)] at hc
    refine Ev_jp rfl (Ev_rt rfl rfl ?_ rfl)
    have := bt_lt n k
    rw [show bt n k = 1 by omega]
/-- WhitePaw.copyRow of two rows of one length -/
theorem c_copyRow (h : aH) {q0 q1 : Nat} {l0 l1 : List Int32} (h0 : a_nth h q0 = some (.inl (0, l0))) (h1 : a_nth h q1 = some (.inl (0, l1))) (hl : l0.length = l1.length) (hm : l0.length ≤ 1000) : Cl mX8_copyRow [.ref q0, .ref q1] h none (h.set q1 (.inl (0, l0))) := by
  refine Ev_al rfl h0 rfl ?_
  refine Ev_al rfl h1 rfl ?_
  refine Ev_ck rfl rfl ?_
  refine Ev_cy rfl rfl h0 h1 ?_ hl hm rfl (Ev_rt rfl rfl rfl rfl)
  rw [hl, if_neg (nI_nlt (Nat.le_refl _) (by omega))]
/-- Moment.copy: q becomes as o is -/
theorem c_Mcopy (h : aH) {q o q1 q2 q3 q4 o1 o2 o3 o4 : Nat} {a1 a2 a3 a4 b1 b2 b3 b4 : List Int32} (hq : a_nth h q = some (.inr (.inl (2, [.ref q1, .ref q2, .ref q3, .ref q4])))) (ho : a_nth h o = some (.inr (.inl (2, [.ref o1, .ref o2, .ref o3, .ref o4]))))
    (g1 : a_nth h q1 = some (.inl (0, b1))) (g2 : a_nth (h.set q1 (.inl (0, a1))) q2 = some (.inl (0, b2))) (g3 : a_nth ((h.set q1 (.inl (0, a1))).set q2 (.inl (0, a2))) q3 = some (.inl (0, b3))) (g4 : a_nth (((h.set q1 (.inl (0, a1))).set q2 (.inl (0, a2))).set q3 (.inl (0, a3))) q4 = some (.inl (0, b4)))
    (f1 : a_nth h o1 = some (.inl (0, a1))) (f2 : a_nth (h.set q1 (.inl (0, a1))) o2 = some (.inl (0, a2))) (f3 : a_nth ((h.set q1 (.inl (0, a1))).set q2 (.inl (0, a2))) o3 = some (.inl (0, a3))) (f4 : a_nth (((h.set q1 (.inl (0, a1))).set q2 (.inl (0, a2))).set q3 (.inl (0, a3))) o4 = some (.inl (0, a4)))
    (hq2 : a_nth (h.set q1 (.inl (0, a1))) q = a_nth h q) (hq3 : a_nth ((h.set q1 (.inl (0, a1))).set q2 (.inl (0, a2))) q = a_nth h q) (hq4 : a_nth (((h.set q1 (.inl (0, a1))).set q2 (.inl (0, a2))).set q3 (.inl (0, a3))) q = a_nth h q)
    (ho2 : a_nth (h.set q1 (.inl (0, a1))) o = a_nth h o) (ho3 : a_nth ((h.set q1 (.inl (0, a1))).set q2 (.inl (0, a2))) o = a_nth h o) (ho4 : a_nth (((h.set q1 (.inl (0, a1))).set q2 (.inl (0, a2))).set q3 (.inl (0, a3))) o = a_nth h o)
    (l1 : a1.length = b1.length ∧ a1.length ≤ 1000) (l2 : a2.length = b2.length ∧ a2.length ≤ 1000) (l3 : a3.length = b3.length ∧ a3.length ≤ 1000) (l4 : a4.length = b4.length ∧ a4.length ≤ 1000) :
    Cl mX2_copy [.ref q, .ref o] h none ((((h.set q1 (.inl (0, a1))).set q2 (.inl (0, a2))).set q3 (.inl (0, a3))).set q4 (.inl (0, a4))) := by
  refine Ev_gf rfl rfl ho rfl ?_
  refine Ev_gf rfl rfl hq rfl ?_
  refine Ev_ca rfl (c_copyRow h f1 g1 l1.1 l1.2) ?_
  refine Ev_gf rfl rfl (ho2.trans ho) rfl ?_
  refine Ev_gf rfl rfl (hq2.trans hq) rfl ?_
  refine Ev_ca rfl (c_copyRow _ f2 g2 l2.1 l2.2) ?_
  refine Ev_gf rfl rfl (ho3.trans ho) rfl ?_
  refine Ev_gf rfl rfl (hq3.trans hq) rfl ?_
  refine Ev_ca rfl (c_copyRow _ f3 g3 l3.1 l3.2) ?_
  refine Ev_gf rfl rfl (ho4.trans ho) rfl ?_
  refine Ev_gf rfl rfl (hq4.trans hq) rfl ?_
  refine Ev_ca rfl (c_copyRow _ f4 g4 l4.1 l4.2) ?_
  exact Ev_rt rfl rfl rfl rfl
theorem c_isKnocker_t (S : cS) (T : aH) {k : Nat} (hk : k < ho_K (C_to S)) (hb : ho_K (C_to S) ≤ 5) : Cl mX8_isKnocker [.ref 0, .int (nI k)] (hpC S ++ T) (some (.int (nI 1))) (hpC S ++ T) := by
  refine Ev_br rfl (fun hc => absurd hc (nI_pos (by omega))) (fun _ => ?_)
  refine Ev_br rfl (fun hc => absurd hc (nI_ge hk (by omega))) (fun _ => ?_)
  exact Ev_jp rfl (Ev_rt rfl rfl rfl rfl)
theorem c_isKnocker_f (S : cS) (T : aH) {x : Int32} (hx : x < 0 ∨ nI (ho_K (C_to S)) ≤ x) : Cl mX8_isKnocker [.ref 0, .int x] (hpC S ++ T) (some (.int (nI 0))) (hpC S ++ T) := by
  refine Ev_br rfl (fun _ => Ev_rt rfl rfl rfl rfl) (fun h1 => ?_)
  refine Ev_br rfl (fun _ => Ev_rt rfl rfl rfl rfl) (fun h2 => ?_)
  exact absurd hx (fun q => q.elim h1 h2)
theorem c_isErrand_t (S : cS) (T : aH) {k : Nat} (hk : k < ho_E (C_to S)) (hb : ho_E (C_to S) ≤ 6) : Cl mX8_isErrand [.ref 0, .int (nI k)] (hpC S ++ T) (some (.int (nI 1))) (hpC S ++ T) := by
  refine Ev_br rfl (fun hc => absurd hc (nI_pos (by omega))) (fun _ => ?_)
  refine Ev_br rfl (fun hc => absurd hc (nI_ge hk (by omega))) (fun _ => ?_)
  exact Ev_jp rfl (Ev_rt rfl rfl rfl rfl)
theorem c_isErrand_f (S : cS) (T : aH) {x : Int32} (hx : x < 0 ∨ nI (ho_E (C_to S)) ≤ x) : Cl mX8_isErrand [.ref 0, .int x] (hpC S ++ T) (some (.int (nI 0))) (hpC S ++ T) := by
  refine Ev_br rfl (fun _ => Ev_rt rfl rfl rfl rfl) (fun h1 => ?_)
  refine Ev_br rfl (fun _ => Ev_rt rfl rfl rfl rfl) (fun h2 => ?_)
  exact absurd hx (fun q => q.elim h1 h2)
theorem c_isRule_t (S : cS) (T : aH) {k : Nat} (hk : k < ho_U (C_to S)) (hb : ho_U (C_to S) ≤ 4) : Cl mX8_isRule [.ref 0, .int (nI k)] (hpC S ++ T) (some (.int (nI 1))) (hpC S ++ T) := by
  refine Ev_br rfl (fun hc => absurd hc (nI_pos (by omega))) (fun _ => ?_)
  refine Ev_br rfl (fun hc => absurd hc (nI_ge hk (by omega))) (fun _ => ?_)
  exact Ev_jp rfl (Ev_rt rfl rfl rfl rfl)
theorem c_isRule_f (S : cS) (T : aH) {x : Int32} (hx : x < 0 ∨ nI (ho_U (C_to S)) ≤ x) : Cl mX8_isRule [.ref 0, .int x] (hpC S ++ T) (some (.int (nI 0))) (hpC S ++ T) := by
  refine Ev_br rfl (fun _ => Ev_rt rfl rfl rfl rfl) (fun h1 => ?_)
  refine Ev_br rfl (fun _ => Ev_rt rfl rfl rfl rfl) (fun h2 => ?_)
  exact absurd hx (fun q => q.elim h1 h2)

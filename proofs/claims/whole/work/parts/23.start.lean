/-! the law's frame: from its entry, out of a run of the little machine -/
/-- the law answers 1 on the little machine, within the room -/
def a_pure : Prop := ∀ xs : List Int32, xs.length ≤ 256 → ∃ (n : Nat) (h' : aH), a_ev xs n mL_law (0, [some (.float 20), none, none, none], [], []) = some (some (.int 1), h') ∧ h'.length ≤ 600000 ∧ a_sl h' ≤ 7302250
def a_tm (i : Nat) : Term := .string "WhitePaw$Tokens" (([52, 58, 60, 62] : List Nat).getD i 0)
theorem a_inst (ci : Nat) (hc : ci < 10) : Cond.instantiable (a_clR ci) (a_clN ci) ∈ a_big := by
  match ci, hc with
  | 0, _ => exact (nT_ok 8 56 0 rfl).2.2.1
  | 1, _ => exact (nT_ok 8 16 1 rfl).2.2.1
  | 2, _ => exact (nT_ok 1 9 2 rfl).2.2.1
  | 3, _ => exact (nT_ok 8 37 3 rfl).2.2.1
  | 4, _ => exact (nT_ok 8 23 4 rfl).2.2.1
  | 5, _ => exact (nT_ok 8 7 5 rfl).2.2.1
  | 6, _ => exact (nT_ok 4 9 6 rfl).2.2.1
  | 7, _ => exact (nT_ok 8 49 7 rfl).2.2.1
  | 8, _ => exact (nT_ok 14 7 8 rfl).2.2.1
  | 9, _ => exact (nT_ok 14 10 9 rfl).2.2.1
theorem a_D_ex {s : State} {args : Array Value} (hts : ∀ w ∈ a_big, w.before args s = true) : ∃ D : va_G, ∀ (c : Nat) (q : vw_C), vwCl[c]? = some q → u_Kn s q.1 q.2.1 q.2.2 (D.1 c) (D.2 c) := by
  have h0 : ∀ c : Nat, ∃ z : ClassId × (Nat → Nat), ∀ q : vw_C, vwCl[c]? = some q → u_Kn s q.1 q.2.1 q.2.2 z.1 z.2 := by
    intro c
    cases hq : vwCl[c]? with
    | none => exact ⟨(0, fun _ => 0), fun q h => by cases h⟩
    | some q =>
      have hc : c < 10 := (List.getElem?_eq_some_iff.mp hq).1
      have e9 : q = (a_clR c, a_clT c, a_clN c) := Option.some.inj (hq.symm.trans (a_cl_at c hc))
      subst e9
      obtain ⟨cc, iS, hk⟩ := u_known (C := a_clR c) (T := a_clT c) (N := a_clN c) (n := a_clN c) hts (a_cl_ok c _ hq).1 (hts _ (a_inst c hc))
      exact ⟨(cc, iS), fun q h => by cases h; exact hk⟩
  obtain ⟨f, hf⟩ := Classical.axiomOfChoice h0
  exact ⟨(fun c => (f c).1, fun c => (f c).2), fun c q h => hf c q h⟩
theorem a_arr1 {s : State} {args : Array Value} {ty : FieldType} (h : (Cond.arrayClass ty).before args s = true) : ∃ c : ClassId, ArrOfT s c ty ∧ s.vm.findClass ("[" ++ ty.toString) = some c := by
  obtain ⟨c, k, comp, h1, h2, h3⟩ := Cond.arrayClass_spec h
  exact ⟨c, fun n z => ⟨fun k h => (by cases h), k, h2, comp, h3⟩, h1⟩
theorem a_cA_ex {s : State} {args : Array Value} (hts : ∀ w ∈ a_big, w.before args s = true) (ho : va_AO "WhitePaw$Moment" s) : ∃ cA : Nat → ClassId, ∀ (k : Nat) (q : ClassId × FieldType), (a_tys cA)[k]? = some q → ArrOfT s q.1 q.2 ∧ va_RA s q.1 q.2 := by
  obtain ⟨c0, h0, f0⟩ := a_arr1 (hts _ a_mbA0)
  obtain ⟨c1, h1, f1⟩ := a_arr1 (hts _ a_mbA1)
  obtain ⟨c2, h2, f2⟩ := a_arr1 (hts _ a_mbA2)
  obtain ⟨comp, c3, k3, g1, -, g3, g4, g5⟩ := Cond.arrayOver_spec (va_AO.use (A := #[]) ho)
  refine ⟨fun k => if k = 0 then c0 else if k = 1 then c1 else if k = 2 then c2 else c3, fun k q hq => ?_⟩
  match k, hq with
  | 0, hq => cases hq; exact ⟨h0, f0⟩
  | 1, hq => cases hq; exact ⟨h1, f1⟩
  | 2, hq => cases hq; exact ⟨h2, f2⟩
  | 3, hq => cases hq; exact ⟨fun n z => ⟨fun k h => (by cases h), k3, g3, comp, g4⟩, k3, comp, g3, g4, g1, g5⟩
  | k + 4, hq => simp [a_tys] at hq
theorem a_str_ex {s : State} {args : Array Value} (hgv : (Jvm.Cond.and given_1 narrow_1).before args s = true) : ∃ adK adV : Nat → Nat, vk_S 4 a_slen a_sbyt adK adV (fun q => s.heap.size ≤ q) s s.heap ∧ ∀ i : Nat, i < 4 → (a_tm i).eval args s none [] s = some (.ref (adK i)) := by
  have hs := flat_of_before _ hgv
  refine vk_Sof (tm := a_tm) (fun i hi => ?_) (fun i hi => ?_) (fun i hi => ?_) (fun i hi => ?_) (fun i hi => ?_) (fun i hi j hj => ?_) (fun i j hi hj hne => ?_) (fun a ha => Nat.not_le.mpr ha)
  · match i, hi with
    | 0, _ => exact (by decide +kernel)
    | 1, _ => exact (by decide +kernel)
    | 2, _ => exact (by decide +kernel)
    | 3, _ => exact (by decide +kernel)
  · match i, hi with
    | 0, _ => exact hs _ (by decide +kernel)
    | 1, _ => exact hs _ (by decide +kernel)
    | 2, _ => exact hs _ (by decide +kernel)
    | 3, _ => exact hs _ (by decide +kernel)
  · match i, hi with
    | 0, _ => exact hs _ (by decide +kernel)
    | 1, _ => exact hs _ (by decide +kernel)
    | 2, _ => exact hs _ (by decide +kernel)
    | 3, _ => exact hs _ (by decide +kernel)
  · match i, hi with
    | 0, _ => exact hs _ (by decide +kernel)
    | 1, _ => exact hs _ (by decide +kernel)
    | 2, _ => exact hs _ (by decide +kernel)
    | 3, _ => exact hs _ (by decide +kernel)
  · match i, hi with
    | 0, _ => exact hs _ (by decide +kernel)
    | 1, _ => exact hs _ (by decide +kernel)
    | 2, _ => exact hs _ (by decide +kernel)
    | 3, _ => exact hs _ (by decide +kernel)
  · match i, j, hi, hj with
    | 0, 0, _, _ => exact hs _ (by decide +kernel)
    | 0, 1, _, _ => exact hs _ (by decide +kernel)
    | 0, 2, _, _ => exact hs _ (by decide +kernel)
    | 0, 3, _, _ => exact hs _ (by decide +kernel)
    | 0, j + 4, _, hj => exact absurd hj (by show ¬ (j + 4 < 4); omega)
    | 1, 0, _, _ => exact hs _ (by decide +kernel)
    | 1, 1, _, _ => exact hs _ (by decide +kernel)
    | 1, 2, _, _ => exact hs _ (by decide +kernel)
    | 1, 3, _, _ => exact hs _ (by decide +kernel)
    | 1, 4, _, _ => exact hs _ (by decide +kernel)
    | 1, 5, _, _ => exact hs _ (by decide +kernel)
    | 1, 6, _, _ => exact hs _ (by decide +kernel)
    | 1, j + 7, _, hj => exact absurd hj (by show ¬ (j + 7 < 7); omega)
    | 2, 0, _, _ => exact hs _ (by decide +kernel)
    | 2, 1, _, _ => exact hs _ (by decide +kernel)
    | 2, 2, _, _ => exact hs _ (by decide +kernel)
    | 2, 3, _, _ => exact hs _ (by decide +kernel)
    | 2, 4, _, _ => exact hs _ (by decide +kernel)
    | 2, 5, _, _ => exact hs _ (by decide +kernel)
    | 2, j + 6, _, hj => exact absurd hj (by show ¬ (j + 6 < 6); omega)
    | 3, 0, _, _ => exact hs _ (by decide +kernel)
    | 3, 1, _, _ => exact hs _ (by decide +kernel)
    | 3, 2, _, _ => exact hs _ (by decide +kernel)
    | 3, 3, _, _ => exact hs _ (by decide +kernel)
    | 3, j + 4, _, hj => exact absurd hj (by show ¬ (j + 4 < 4); omega)
  · match i, j, hi, hj, hne with
    | 0, 0, _, _, hne => exact absurd rfl hne
    | 0, 1, _, _, _ => exact Or.inl (hs _ (by decide +kernel))
    | 0, 2, _, _, _ => exact Or.inl (hs _ (by decide +kernel))
    | 0, 3, _, _, _ => exact Or.inl (hs _ (by decide +kernel))
    | 1, 0, _, _, _ => exact Or.inr (hs _ (by decide +kernel))
    | 1, 1, _, _, hne => exact absurd rfl hne
    | 1, 2, _, _, _ => exact Or.inl (hs _ (by decide +kernel))
    | 1, 3, _, _, _ => exact Or.inl (hs _ (by decide +kernel))
    | 2, 0, _, _, _ => exact Or.inr (hs _ (by decide +kernel))
    | 2, 1, _, _, _ => exact Or.inr (hs _ (by decide +kernel))
    | 2, 2, _, _, hne => exact absurd rfl hne
    | 2, 3, _, _, _ => exact Or.inl (hs _ (by decide +kernel))
    | 3, 0, _, _, _ => exact Or.inr (hs _ (by decide +kernel))
    | 3, 1, _, _, _ => exact Or.inr (hs _ (by decide +kernel))
    | 3, 2, _, _, _ => exact Or.inr (hs _ (by decide +kernel))
    | 3, 3, _, _, hne => exact absurd rfl hne
theorem a_ex_ex (adK adV : Nat → Nat) (b : Nat) (vf : Value) (hv : vf = .null ∨ ∃ a, vf = .ref a) (base : Nat) : ∃ ex : Nat → Nat, (∀ i, i < 10 → ex i = adK i) ∧ (∀ i, i < 10 → ex (10 + i) = adV i) ∧ ex 20 = b ∧ a_rv base ex (.retAddr 0) = vf := by
  have key : ∀ x y : Nat, ∃ ex : Nat → Nat, (∀ i, i < 10 → ex i = adK i) ∧ (∀ i, i < 10 → ex (10 + i) = adV i) ∧ ex 20 = b ∧ ex 30 = x ∧ ex 31 = y := by
    intro x y
    refine ⟨fun k => if k < 10 then adK k else if k < 20 then adV (k - 10) else if k = 20 then b else if k = 30 then x else y, fun i hi => if_pos hi, fun i hi => ?_, rfl, rfl, rfl⟩
    show (if 10 + i < 10 then adK (10 + i) else if 10 + i < 20 then adV (10 + i - 10) else _) = adV i
    rw [if_neg (by omega), if_pos (by omega), Nat.add_sub_cancel_left]
  rcases hv with rfl | ⟨a, rfl⟩
  · obtain ⟨ex, h1, h2, h3, h4, h5⟩ := key 0 0
    exact ⟨ex, h1, h2, h3, by show (if ex 31 = 0 then Value.null else Value.ref (ex 30)) = _; rw [h5, if_pos rfl]⟩
  · obtain ⟨ex, h1, h2, h3, h4, h5⟩ := key a 1
    exact ⟨ex, h1, h2, h3, by show (if ex 31 = 0 then Value.null else Value.ref (ex 30)) = _; rw [h5, if_neg (by decide), h4]⟩
theorem a_E_ex {s : State} {args : Array Value} {b : Nat} (hts : ∀ w ∈ lw_tbl, w.before args s = true) (hgv : (Jvm.Cond.and given_1 narrow_1).before args s = true) : ∃ (ex : Nat → Nat) (cA : Nat → ClassId) (D : va_G), a_E s.heap.size ex cA D s ∧ ex 20 = b := by
  have hb9 : ∀ w ∈ a_big, w.before args s = true := fun w hw => hts w (List.mem_filter.mp hw).1
  have hs := flat_of_before _ hgv
  obtain ⟨D, hD⟩ := a_D_ex hb9
  have ho : va_AO "WhitePaw$Moment" s := va_AO.of (hts _ a_mbAO)
  obtain ⟨cA, hcA⟩ := a_cA_ex hb9 ho
  obtain ⟨adK, adV, hvk, hev⟩ := a_str_ex hgv
  have hA : ∀ a : Nat, a < s.heap.size → ¬ (fun q => s.heap.size ≤ q) a := fun a ha => Nat.not_le.mpr ha
  have hZ1 : va_Z "java/lang/String" "COMPACT_STRINGS" "Z" (.int 1) (fun q => s.heap.size ≤ q) s s.heap := va_Zof (hts _ a_mbL1) (hts _ a_mbI1) (va_eqi (hs _ (by decide +kernel))) hA
  have hRf : (Cond.isRef (.static "jdk/internal/util/Preconditions" "SIOOBE_FORMATTER" "Ljava/util/function/BiFunction;")).before args s = true := hs _ (by decide +kernel)
  obtain ⟨vf, hvf, hvr⟩ := Cond.isRef_spec hRf
  obtain ⟨ex, h1, h2, h3, h4⟩ := a_ex_ex adK adV b vf (by
    cases vf with
    | ref a => exact Or.inr ⟨a, rfl⟩
    | null => exact Or.inl rfl
    | _ => cases hvr) s.heap.size
  refine ⟨ex, cA, D, ⟨⟨hD, hcA⟩, fun w hw hn => ?_, ho, ⟨fun i hi => ?_, fun i j hi hj h => ?_⟩, fun j i t ht => ?_, hZ1, ?_, Nat.le_refl _⟩, h3⟩
  · have h0 := hts w hw
    cases w with
    | fieldLinkNest => exact va_Nw.of rfl h0
    | methodLinkNest => exact va_Nw.of rfl h0
    | _ => cases hn
  · have g := hvk.1 i hi
    have e1 : ex i = adK i := h1 i (by omega)
    have e2 : (fun j => ex (10 + j)) i = adV i := h2 i (by omega)
    rw [e1, e2]
    exact g
  · rw [h1 i (by omega), h1 j (by omega)] at h
    exact hvk.2 i j hi hj h
  · have hj : j < 4 := (List.getElem?_eq_some_iff.mp ht).1
    have g := hev j hj
    have hw := hts _ (a_mbR j i t ht)
    rw [h1 j (by omega)]
    have e9 : a_tm j = .string "WhitePaw$Tokens" i := by
      match j, ht with
      | 0, ht => cases ht; rfl
      | 1, ht => cases ht; rfl
      | 2, ht => cases ht; rfl
      | 3, ht => cases ht; rfl
      | j + 4, ht => exact absurd hj (by omega)
    rw [e9] at g
    exact vk_R.of hw g
  · rw [h4]
    exact va_Zof (hts _ a_mbL2) (hts _ a_mbI2) hvf hA
/-! THE CLAIM OUT OF ONE WALK OF THE LAW'S BODY. Your part is whole_start (and what it stands on); all else here is the same for every law, but numbers. -/
def R_law : String := "WhitePawLaw"
def lw_P (b : Addr) (xs : List Int32) (args : Array Value) (s : State) : Prop := args = #[.ref b] ∧ s.IntsAt b xs ∧ xs.length ≤ 256 ∧ (Jvm.Cond.and given_1 narrow_1).before args s = true
def lw_Q (_ : Array Value) (s : State) (o : Outcome) (t : State) : Prop := o = .returned (some (.int 1)) ∧ Framed s o t [] 600000 7302250
def lw_Z (below : List Frame) (a : Array Value) (s : State) : State → Prop := fun t => ∃ o, t.status = .running ∧ Ended t below o ∧ lw_Q a s o t
/-- the law's own end, with 1 on the stack, nothing written that was there before, its room as the claim has it -/
theorem lw_ret {p : Program} {l : Launch} {e : Env} {s : State} {m : MethodId} {below : List Frame} {meth : Method} {c : Code} {b : Nat} (hx : p.tables.exec = Jvm.exec) (hb : c.code = code) (hr : meth.sig.returnType = ret) (hlocks : meth.locks = false) {pc : Nat} {H : Heap} {ls : Array Slot} (hdg : decode code pc = .ok (.ireturn, 1)) : W p l e room_1 s m #[Value.ref b] below meth c H [] 600000 7302250 (lw_Z below #[Value.ref b] s) (F0 m pc ls [.int 1]) := by
  intro T hT X
  obtain ⟨fs, hret, hrun, hended, hW, hframe⟩ := X.leave (v := some (.int 1)) (hlocks := hlocks) (fun h => by rw [hr] at h; cases h)
  have hmeth' : T.vm.method? m = some meth := X.method'
  refine ⟨T.setFrames fs, ?_, .returned (some (.int 1)), hrun, hended, rfl, ⟨_, rfl⟩, hW, hframe⟩
  jvm_step X.here [X.here.top, hx, hb, hdg, hmeth', hr, ret, narrow_b1]
  (try refine ⟨rfl, ?_⟩); (try refine ⟨rfl, ?_⟩)
  first | (intro acts; rw [hret _ acts rfl rfl rfl]) | rw [hret _ _ rfl rfl rfl]
  exact Steps.refl _
/-- what holds at the law's entry: the machine, the code, the tables' words (any of lw_tbl by 'hts w (by decide +kernel)'), the script of L ints xs at the cell b, what the Statement gives of the start (any of its parts by flat_of_before) -/
def lw_At (p : Program) (s : State) (m : MethodId) (meth : Method) (c : Code) (b L : Nat) (xs : Nat → Int32) : Prop :=
  p.tables.exec = Jvm.exec ∧ c.code = code ∧ meth.sig.returnType = ret ∧ c.maxLocals = 4 ∧ s.vm.findClass R_law = some m.cls ∧ (∀ w ∈ lw_tbl, w.before #[Value.ref b] s = true) ∧ va_X b L xs s s.heap ∧ b < s.heap.size ∧ meth.locks = false ∧ (Jvm.Cond.and given_1 narrow_1).before #[Value.ref b] s = true

set_option maxHeartbeats 4000000 in
/-- the law, from its entry, out of what it does on the little machine -/
theorem whole_start_of (hpure : a_pure) {p : Program} {e : Env} {s : State} {m : MethodId} {below : List Frame} {meth : Method} {c : Code} (l : Launch) {b L : Nat} {xs : Nat → Int32} (hL : L ≤ 256) (C0 : lw_At p s m meth c b L xs) : W p l e room_1 s m #[Value.ref b] below meth c s.heap [] 0 0 (lw_Z below #[Value.ref b] s) (entryFrame m ([Value.ref b] : List Value).toArray 4) := by
  obtain ⟨hx, hb, hr, hml, hown, hts, hX, hbl, hlocks, hgv⟩ := C0
  obtain ⟨ex, cA, D, hE, hex⟩ := a_E_ex (b := b) hts hgv
  have hlen : ((List.range L).map xs).length = L := by rw [List.length_map, List.length_range]
  obtain ⟨n, h', hev, hc, hs⟩ := hpure ((List.range L).map xs) (by rw [hlen]; exact hL)
  have hX2 : va_X (ex 20) ((List.range L).map xs).length (fun j => ((List.range L).map xs).getD j 0) s s.heap := by
    obtain ⟨scr, g1, g2, g3, g4, g5⟩ := hX
    rw [hex, hlen]
    refine ⟨scr, g1, g2, g3, g4, fun j hj => ?_⟩
    rw [g5 j hj]
    show some (Value.int (xs j)) = some (Value.int (((List.range L).map xs).getD j 0))
    rw [List.getD_eq_getElem?_getD, List.getElem?_map, List.getElem?_range hj]
    rfl
  have X : a_X p room_1 s m #[Value.ref b] meth c s.heap.size ex cA D ((List.range L).map xs) mL_law :=
    ⟨hx, hb, hml, hown, fun w hw => hts w (List.mem_filter.mp hw).1, hE, ⟨Nat.le_refl _, Nat.le_refl _⟩, fun h => (by cases h), Or.inr ⟨hX2, by rw [hex]; exact hbl, by rw [hex]; exact Nat.not_le.mpr hbl⟩⟩
  have hlast := a_all l s.heap.size ex cA D n p e room_1 s m #[Value.ref b] below meth c (lw_Z below #[Value.ref b] s) ((List.range L).map xs) 0 0 mL_law (0, [some (.float 20), none, none, none], [], []) (some (.int 1)) h' hev X (by rw [Nat.sub_zero]; exact hc) (by rw [Nat.sub_zero]; exact hs) (by
    rintro ⟨pc, ls, st, h9⟩ hrt
    have e9 := a_rtn_heap hrt
    have e9 : h9 = h' := e9
    subst e9
    simp only [a_rtn] at hrt
    split at hrt
    · cases hrt
    · rename_i i len npc tg hdec
      obtain ⟨hd, hn, ht⟩ := decT_ok _ _ _ hdec
      have hd : decode code pc = .ok (i, len) := hd
      split at hrt
      · rename_i b9 v9 hre
        obtain ⟨hb9, hc9⟩ := a_cond_some hrt
        cases hc9
        intro H locs rls hl hll hP2 hS hz h1 h2
        refine va_forget (fun q hq => hS.2.2 q hq) ?_
        refine W.widen (k := 600000) (n := 7302250) (by rw [Nat.sub_zero]; exact hc) (by rw [Nat.sub_zero]; exact hs) ?_
        cases i
        case ireturn =>
          simp only [a_ret] at hre
          split at hre
          · cases hre
            exact lw_ret hx hb hr hlocks hd
          · cases hre
            exact lw_ret hx hb hr hlocks hd
          · cases hre
            exact lw_ret hx hb hr hlocks hd
          · cases hre
            exact lw_ret hx hb hr hlocks hd
          · cases hre
        case return_ =>
          simp only [a_ret] at hre
          split at hre
          · cases hre
          · cases hre
        case lreturn =>
          simp only [a_ret] at hre
          split at hre
          · cases hre
          · cases hre
        case areturn =>
          simp only [a_ret] at hre
          split at hre
          · cases hre
          · cases hre
        all_goals (simp only [a_ret] at hre; cases hre)
      · cases hrt)
  have hl := lv_entry ([.ref b]) (n := 4) (Nat.le_of_ble_eq_true rfl)
  rw [lg_entry_eq]
  have e : a_las s.heap.size ex 0 [some (.float 20), none, none, none] = lv_args 0 [.ref b] := by
    show [(0, Value.ref (ex (20 : UInt32).toNat))] = [(0, .ref b)]
    rw [show (20 : UInt32).toNat = 20 from rfl, hex]
  rw [← e] at hl
  exact hlast s.heap [] _ hl rfl (fun k q h => by simp [a_wd] at h) va_S.rf rfl (Nat.le_refl _) (Nat.le_refl _)

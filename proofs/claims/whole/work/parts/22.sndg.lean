/-! what the little machine runs, the machine runs: calls by contract, a frame to its end -/
def a_ws (q : Nat) : List Cond := Cond.code (yT q) (codT q) (nlT q) (retT q) :: a_big
def a_Pc (base : Nat) (ex : Nat → Nat) (cA : Nat → ClassId) (D : va_G) (as : List Value) (h : aH) : Array Value → State → Prop := va_Pc (as.map (a_rv base ex)) (fun U => U.heap.size = base + h.length ∧ va_P D vwCl (a_wd base ex cA 0 h) U.heap ∧ a_E base ex cA D U)
def a_Qc (base : Nat) (ex : Nat → Nat) (cA : Nat → ClassId) (D : va_G) (v : Option Value) (h' : aH) : Array Value → State → Outcome → State → Prop := fun _ st oc t => (oc = .returned (v.map (a_rv base ex)) ∧ va_P D vwCl (a_wd base ex cA 0 h') t.heap) ∧ va_F (fun q => base ≤ q) st t
def a_rm (q : Nat) (mc ms : Nat) : Room := { frames := frT q, cells := mc, slots := ms, locals := loT q }
/-- what a run of the frame gives: at every frame of the machine that holds it -/
def a_All (l : Launch) (base : Nat) (ex : Nat → Nat) (cA : Nat → ClassId) (D : va_G) (n : Nat) : Prop :=
  ∀ (p : Program) (e : Env) (R : Room) (s : State) (m : MethodId) (args : Array Value) (below : List Frame) (meth : Method) (c : Code) (Q : State → Prop) (scr : List Int32) (n0 z0 mi : Nat) (f : aF) (v : Option Value) (h' : aH),
    a_ev scr n mi f = some (v, h') → a_X p R s m args meth c base ex cA D scr mi → h'.length - n0 ≤ R.cells → a_sl h' - z0 ≤ R.slots →
    (∀ f2 : aF, a_rtn mi f2 = some (v, h') → a_W p l e R s m args below meth c Q base ex cA D n0 z0 mi f2) → a_W p l e R s m args below meth c Q base ex cA D n0 z0 mi f
theorem a_las_rep (base : Nat) (ex : Nat → Nat) : ∀ (n i : Nat), a_las base ex i (List.replicate n none) = []
  | 0, i => rfl
  | n + 1, i => by rw [List.replicate_succ, a_las, a_las_rep base ex n (i + 1)]
theorem a_las_ent (base : Nat) (ex : Nat → Nat) : ∀ (as : List Value) (n i : Nat), (∀ v ∈ as, ∀ x, v ≠ .double x) → a_las base ex i (a_ent n as) = lv_args i (as.map (a_rv base ex))
  | [], n, i, _ => by rw [a_ent, a_las_rep]; rfl
  | .long x :: vs, n, i, hd => by
    rw [a_ent, a_las, a_las, a_las_ent base ex vs (n - 2) (i + 1 + 1) (fun v hv => hd v (List.mem_cons_of_mem _ hv))]
    rfl
  | .int x :: vs, n, i, hd => by
    rw [a_ent, a_las, a_las_ent base ex vs (n - 1) (i + 1) (fun v hv => hd v (List.mem_cons_of_mem _ hv))]
    · rfl
    · intro x h; cases h
  | .float x :: vs, n, i, hd => by
    rw [a_ent, a_las, a_las_ent base ex vs (n - 1) (i + 1) (fun v hv => hd v (List.mem_cons_of_mem _ hv))]
    · rfl
    · intro x h; cases h
  | .double x :: vs, n, i, hd => absurd rfl (hd _ List.mem_cons_self x)
  | .null :: vs, n, i, hd => by
    rw [a_ent, a_las, a_las_ent base ex vs (n - 1) (i + 1) (fun v hv => hd v (List.mem_cons_of_mem _ hv))]
    · rfl
    · intro x h; cases h
  | .ref x :: vs, n, i, hd => by
    rw [a_ent, a_las, a_las_ent base ex vs (n - 1) (i + 1) (fun v hv => hd v (List.mem_cons_of_mem _ hv))]
    · rfl
    · intro x h; cases h
  | .retAddr x :: vs, n, i, hd => by
    rw [a_ent, a_las, a_las_ent base ex vs (n - 1) (i + 1) (fun v hv => hd v (List.mem_cons_of_mem _ hv))]
    · show _ = (i, a_rv base ex (.retAddr x)) :: lv_args (if (a_rv base ex (.retAddr x)).category = 2 then i + 2 else i + 1) (vs.map (a_rv base ex))
      rw [a_rv_cat]
      rfl
    · intro x h; cases h
theorem a_ent_len : ∀ (as : List Value) (n : Nat), (∀ v ∈ as, ∀ x, v ≠ .double x) → (as.map fun v => v.category).sum ≤ n → (a_ent n as).length = n
  | [], n, _, _ => by rw [a_ent, List.length_replicate]
  | .long x :: vs, n, hd, h => by
    have h : 2 + (vs.map fun v => v.category).sum ≤ n := by simpa [Value.category] using h
    rw [a_ent, List.length_cons, List.length_cons, a_ent_len vs (n - 2) (fun v hv => hd v (List.mem_cons_of_mem _ hv)) (by omega)]
    omega
  | .int x :: vs, n, hd, h => by
    have h : 1 + (vs.map fun v => v.category).sum ≤ n := by simpa [Value.category] using h
    rw [a_ent, List.length_cons, a_ent_len vs (n - 1) (fun v hv => hd v (List.mem_cons_of_mem _ hv)) (by omega)]
    · omega
    · intro x h; cases h
  | .float x :: vs, n, hd, h => by
    have h : 1 + (vs.map fun v => v.category).sum ≤ n := by simpa [Value.category] using h
    rw [a_ent, List.length_cons, a_ent_len vs (n - 1) (fun v hv => hd v (List.mem_cons_of_mem _ hv)) (by omega)]
    · omega
    · intro x h; cases h
  | .double x :: vs, n, hd, _ => absurd rfl (hd _ List.mem_cons_self x)
  | .null :: vs, n, hd, h => by
    have h : 1 + (vs.map fun v => v.category).sum ≤ n := by simpa [Value.category] using h
    rw [a_ent, List.length_cons, a_ent_len vs (n - 1) (fun v hv => hd v (List.mem_cons_of_mem _ hv)) (by omega)]
    · omega
    · intro x h; cases h
  | .ref x :: vs, n, hd, h => by
    have h : 1 + (vs.map fun v => v.category).sum ≤ n := by simpa [Value.category] using h
    rw [a_ent, List.length_cons, a_ent_len vs (n - 1) (fun v hv => hd v (List.mem_cons_of_mem _ hv)) (by omega)]
    · omega
    · intro x h; cases h
  | .retAddr x :: vs, n, hd, h => by
    have h : 1 + (vs.map fun v => v.category).sum ≤ n := by simpa [Value.category] using h
    rw [a_ent, List.length_cons, a_ent_len vs (n - 1) (fun v hv => hd v (List.mem_cons_of_mem _ hv)) (by omega)]
    · omega
    · intro x h; cases h
theorem a_sl_len (base : Nat) (ex : Nat → Nat) (as : List Value) : (lg_sl (as.map (a_rv base ex))).length = (as.map fun v => v.category).sum := by
  unfold lg_sl
  induction as with
  | nil => rfl
  | cons v vs ih =>
    rw [List.map_cons, List.flatMap_cons, List.length_append, ih, List.map_cons, List.sum_cons, a_rv_cat]
    rcases lv_cat v with e | e
    · rw [e]; rfl
    · rw [e]; rfl
theorem a_cle {c : Bool} {a b n : Nat} (h1 : a ≤ n) (h2 : b ≤ n) : cond c a b ≤ n := by
  cases c
  · exact h2
  · exact h1
theorem frT_le (mi : Nat) : frT mi ≤ 12 := by
  unfold frT
  repeat' (first | (refine a_cle ?_ ?_) | decide)
theorem a_nodbl {mi q : Nat} {as r : List Value} (h : a_fit mi q as r = true) : ∀ v ∈ as, ∀ x, v ≠ .double x := by
  intro v hv x e
  subst e
  unfold a_fit at h
  simp only [Bool.and_eq_true] at h
  have := List.all_eq_true.mp h.2.2.2.2 _ hv
  cases this
theorem a_fit_ok {mi q : Nat} {as r : List Value} (h : a_fit mi q as r = true) : frT q + 1 ≤ frT mi ∧ 8 + (nlT q + 11) + loT q ≤ loT mi ∧ (r.map fun v => v.category).sum ≤ 8 ∧ (as.map fun v => v.category).sum ≤ nlT q := by
  unfold a_fit at h
  simp only [Bool.and_eq_true] at h
  exact ⟨Nat.le_of_ble_eq_true h.1, Nat.le_of_ble_eq_true h.2.1, Nat.le_of_ble_eq_true h.2.2.1, Nat.le_of_ble_eq_true h.2.2.2.1⟩
/-- a method's contract, out of one run of it -/
theorem a_met_of {l : Launch} {base : Nat} {ex : Nat → Nat} {cA : Nat → ClassId} {D : va_G} {n q : Nat} {as : List Value} {h h' : aH} {v : Option Value} (hA : a_All l base ex cA D n) (hm : a_mok q) (hev : a_ev [] n q (0, a_ent (nlT q) as, [], h) = some (v, h')) (hnd : ∀ v ∈ as, ∀ x, v ≠ .double x) (hfit : (as.map fun v => v.category).sum ≤ nlT q) (h12 : frT q < 12) :
    Met l (yT q) (a_ws q) (a_rm q (h'.length - h.length) (a_sl h' - a_sl h)) (a_Pc base ex cA D as h) (a_Qc base ex cA D v h') (h'.length - h.length) (a_sl h' - a_sl h) (fun a => base ≤ a) := by
  obtain ⟨hm1, hm2, hm3, hm4, hm5, hm6⟩ := hm
  refine Met.ofW (cc := codT q) (maxL := nlT q) (ret := retT q) hm3 rfl ?_
  intro p e s m args below meth c s₁ B hml hv
  obtain ⟨rfl, hsz, hP, hE⟩ := hv
  have hts0 := atoms_spec (ws := a_ws q) B.pre
  have hts : ∀ w ∈ a_big, w.before ((as.map (a_rv base ex)).toArray) s = true := fun w hw => hts0 w (List.mem_cons_of_mem _ hw)
  have hown : s.vm.findClass (yT q).cls = some m.cls := findClass_of_methodNamed B.named
  rw [hm4] at hown
  have X : a_X p (headSpec (a_ws q) (a_rm q (h'.length - h.length) (a_sl h' - a_sl h))).room s m ((as.map (a_rv base ex)).toArray) meth c base ex cA D [] q :=
    ⟨B.exec, B.bytes, hml, hown, hts, hE, ⟨Nat.le_refl _, Nat.le_refl _⟩, fun hi => (name_of_methodNamed B.named B.method).1.trans (hm6 hi), Or.inl ⟨rfl, h12⟩⟩
  have hr := B.returns
  have hlocks := B.notSynchronized
  have hlast := hA p e _ s m _ below meth c (MQ below (a_Qc base ex cA D v h') ((as.map (a_rv base ex)).toArray) s (h'.length - h.length) (a_sl h' - a_sl h) (fun a => base ≤ a)) [] h.length (a_sl h) q (0, a_ent (nlT q) as, [], h) v h' hev X (Nat.le_refl _) (Nat.le_refl _) (by
    rintro ⟨pc, ls, st, h9⟩ hrt
    have e9 := a_rtn_heap hrt
    have e9 : h9 = h' := e9
    subst e9
    simp only [a_rtn] at hrt
    split at hrt
    · cases hrt
    · rename_i i len npc tg hdec
      obtain ⟨hd, hn, ht⟩ := decT_ok _ _ _ hdec
      split at hrt
      · rename_i b9 v9 hre
        obtain ⟨hb9, hc⟩ := a_cond_some hrt
        cases hc
        intro H locs rls hl hll hP2 hS hz h1 h2
        cases i
        case return_ =>
          simp only [a_ret] at hre
          split at hre
          · rename_i hret
            cases hre
            exact W.vret X.1 X.2.1 (hr.trans hret) (fun t ht hW => ⟨⟨rfl, by rw [ht]; exact hP2⟩, hS.F ht⟩) hS.2.2 hd
          · cases hre
        case ireturn =>
          simp only [a_ret] at hre
          split at hre
          · rename_i w hret
            cases hre
            exact W.iret X.1 X.2.1 (hr.trans hret) (fun t ht hW => ⟨⟨rfl, by rw [ht]; exact hP2⟩, hS.F ht⟩) hS.2.2 hd
          · rename_i w hret
            cases hre
            have hw : w = 0 ∨ w = 1 := of_decide_eq_true hb9
            refine W.zret X.1 X.2.1 (hr.trans hret) ?_ (fun t ht hW => ⟨⟨rfl, by rw [ht]; exact hP2⟩, hS.F ht⟩) hS.2.2 hd
            rcases hw with rfl | rfl
            · rfl
            · rfl
          · rename_i w hret
            cases hre
            have hw : w.toInt8.toInt32 = w := of_decide_eq_true hb9
            exact W.zret X.1 X.2.1 (hr.trans hret) (congrArg Value.int hw) (fun t ht hW => ⟨⟨rfl, by rw [ht]; exact hP2⟩, hS.F ht⟩) hS.2.2 hd
          · rename_i w hret
            cases hre
            have hw : w.toUInt32.toUInt16.toUInt32.toInt32 = w := of_decide_eq_true hb9
            exact W.zret X.1 X.2.1 (hr.trans hret) (congrArg Value.int hw) (fun t ht hW => ⟨⟨rfl, by rw [ht]; exact hP2⟩, hS.F ht⟩) hS.2.2 hd
          · cases hre
        case lreturn =>
          simp only [a_ret] at hre
          split at hre
          · rename_i w hret
            cases hre
            exact W.lret X.1 X.2.1 (hr.trans hret) (fun t ht hW => ⟨⟨rfl, by rw [ht]; exact hP2⟩, hS.F ht⟩) hS.2.2 hd
          · cases hre
        case areturn =>
          simp only [a_ret] at hre
          split at hre
          · rename_i w nm hret
            cases hre
            exact W.aret X.1 X.2.1 (hr.trans hret) (Or.inl ⟨_, rfl⟩) (Or.inr ⟨_, rfl⟩) (fun t ht hW => ⟨⟨rfl, by rw [ht]; exact hP2⟩, hS.F ht⟩) hS.2.2 hd
          · cases hre
        all_goals (simp only [a_ret] at hre; cases hre)
      · cases hrt)
  have hl := lv_entry (as.map (a_rv base ex)) (n := nlT q) (by rw [a_sl_len]; exact hfit)
  rw [lg_entry_eq]
  have hl2 := hl
  rw [← a_las_ent base ex as (nlT q) 0 hnd] at hl2
  have := hlast s.heap [] _ hl2 (a_ent_len as (nlT q) hnd hfit) hP va_S.rf hsz (Nat.le_refl _) (Nat.le_refl _)
  simp only [Nat.sub_self] at this
  exact this
theorem a_Pc_blind {base : Nat} {ex : Nat → Nat} {cA : Nat → ClassId} {D : va_G} {as : List Value} {h : aH} : FrameBlind (a_Pc base ex cA D as h) := fun a U g mk q => ⟨q.1, q.2.1, q.2.2.1, q.2.2.2.calling⟩
section
variable {p : Program} {l : Launch} {e : Env} {R : Room} {s : State} {m : MethodId} {args : Array Value} {below : List Frame} {meth : Method} {c : Code} {Q : State → Prop}
variable {base : Nat} {ex : Nat → Nat} {cA : Nat → ClassId} {D : va_G} {scr : List Int32} {n0 z0 mi : Nat}
theorem a_callg {H : Heap} {locs : List Loc} {cells slots mc ms pc : Nat} {rls : Array Slot} {st0 rest : List Value} {a : Array Value} {v : Option Value} {h' : aH} (hr : va_Run p l e R s m args below meth c H locs cells slots mc ms (F0 m pc rls st0) rest (a_Qc base ex cA D v h' a) (fun a => base ≤ a)) (hS : va_S (fun q => base ≤ q) s.heap H locs)
    (kk : ∀ (H1 : Heap) (locs1 : List Loc), va_P D vwCl (a_wd base ex cA 0 h') H1 → va_S (fun q => base ≤ q) s.heap H1 locs1 → W p l e R s m args below meth c H1 locs1 (cells + mc) (slots + ms) Q (F0 m (pc + 3) rls ((v.map (a_rv base ex)).toList ++ rest))) : W p l e R s m args below meth c H locs cells slots Q (F0 m pc rls st0) := by
  intro T hT X
  obtain ⟨v9, st₀, t, T', L, h0, X', hL, e1, e2, ⟨⟨hv, hp⟩, hz, hk⟩, st⟩ := hr T hT X
  cases hv
  rw [h0] at hz hk
  obtain ⟨t2, a1, b1⟩ := kk T'.heap (locs ++ L) (by rw [e1]; exact hp)
    ⟨Nat.le_trans hS.1 (by rw [e1]; exact hz), fun q h1 h2 => by rw [e1, hk q (Nat.lt_of_lt_of_le h1 hS.1) h2]; exact hS.2.1 q h1 h2, fun q hq => by
      rcases List.mem_append.mp hq with h | h
      · exact hS.2.2 q h
      · exact hL q h⟩ T' rfl X'
  exact ⟨t2, st t2 a1, b1⟩
theorem a_clR_RT (k : Nat) (hk : k < 10) : a_clR k = RT k := by
  match k, hk with
  | 0, _ => rfl
  | 1, _ => rfl
  | 2, _ => rfl
  | 3, _ => rfl
  | 4, _ => rfl
  | 5, _ => rfl
  | 6, _ => rfl
  | 7, _ => rfl
  | 8, _ => rfl
  | 9, _ => rfl
theorem a_cl_at (k : Nat) (hk : k < 10) : vwCl[k]? = some (a_clR k, a_clT k, a_clN k) := by
  match k, hk with
  | 0, _ => rfl
  | 1, _ => rfl
  | 2, _ => rfl
  | 3, _ => rfl
  | 4, _ => rfl
  | 5, _ => rfl
  | 6, _ => rfl
  | 7, _ => rfl
  | 8, _ => rfl
  | 9, _ => rfl
theorem a_pop_eq : ∀ (n : Nat) (acc st as r : List Value), a_pop n acc st = some (as, r) → ∃ as', as = as' ++ acc ∧ as'.length = n ∧ st = as'.reverse ++ r
  | 0, acc, st, as, r, h => by
    simp only [a_pop] at h
    cases h
    exact ⟨[], rfl, rfl, rfl⟩
  | n + 1, acc, [], as, r, h => by simp only [a_pop] at h; cases h
  | n + 1, acc, v :: st, as, r, h => by
    simp only [a_pop] at h
    obtain ⟨as', h1, h2, h3⟩ := a_pop_eq n (v :: acc) st as r h
    refine ⟨as' ++ [v], by rw [h1, List.append_assoc]; rfl, by rw [List.length_append, h2]; rfl, ?_⟩
    rw [List.reverse_append, h3]
    rfl
/-- the words and the room of a call -/
theorem a_callB {q mc ms k o n9 : Nat} (hm : a_mok q) (hts : ∀ w ∈ a_big, w.before args s = true) (hR : frT mi ≤ R.frames ∧ loT mi ≤ R.locals) (f1 : frT q + 1 ≤ frT mi) (f2 : 8 + (nlT q + 11) + loT q ≤ loT mi) (hd : (parseMethodDescriptor (yT q).desc).map (fun d => d.parameters.length) = some n9) (hl : (Cond.methodLink (RT o) k (yT q)).before args s = true) :
    CallB R s args (RT o) k (yT q) (codT q) (nlT q) (retT q) (a_ws q) (a_rm q mc ms) mc ms n9 := by
  obtain ⟨hm1, hm2, hm3, hm4, hm5, hm6⟩ := hm
  have hG : GoodIn a_big (a_ws q) := fun w hw => by
    have h1 : w ∈ a_big := by
      rcases List.mem_cons.mp hw with rfl | h
      · exact hm1
      · exact h
    exact ⟨h1, good_of_word (List.mem_filter.mp h1).2⟩
  refine ⟨rfl, rfl, Nat.le_trans f1 hR.1, Nat.le_trans f2 hR.2, pay_in hts hG, List.mem_cons_self, hts _ hm1, hts _ hm2, hm5, fun sig h => ?_, hl⟩
  rw [h] at hd
  exact (Option.some.inj hd).symm
theorem a_callN {q mc ms k o n9 : Nat} (hm : a_mok q) (hts : ∀ w ∈ a_big, w.before args s = true) (hR : frT mi ≤ R.frames ∧ loT mi ≤ R.locals) (f1 : frT q + 1 ≤ frT mi) (f2 : 8 + (nlT q + 11) + loT q ≤ loT mi) (hd : (parseMethodDescriptor (yT q).desc).map (fun d => d.parameters.length) = some n9) (hl : (Cond.methodLinkNest (RT o) k (yT q) "WhitePaw").before args s = true) :
    va_CN R s args (RT o) k (yT q) "WhitePaw" (codT q) (nlT q) (retT q) (a_ws q) (a_rm q mc ms) mc ms n9 := by
  obtain ⟨hm1, hm2, hm3, hm4, hm5, hm6⟩ := hm
  have hG : GoodIn a_big (a_ws q) := fun w hw => by
    have h1 : w ∈ a_big := by
      rcases List.mem_cons.mp hw with rfl | h
      · exact hm1
      · exact h
    exact ⟨h1, good_of_word (List.mem_filter.mp h1).2⟩
  refine ⟨⟨rfl, rfl, Nat.le_trans f1 hR.1, Nat.le_trans f2 hR.2, pay_in hts hG, List.mem_cons_self⟩, hts _ hm1, hts _ hm2, hm5, fun sig h => ?_, hl⟩
  rw [h] at hd
  exact (Option.some.inj hd).symm
theorem a_call_ok {n q pc npc : Nat} {ls ls2 : aL} {st as r : List Value} {h h2 h' : aH} {v : Option Value} (hA : a_All l base ex cA D n) (hh : a_call mi (pc, ls, st, h) = some (q, as, npc, ls2, r, h2)) (hev : a_ev [] n q (0, a_ent (nlT q) as, [], h2) = some (v, h')) (X : a_X p R s m args meth c base ex cA D scr mi) (hrc : h'.length - n0 ≤ R.cells) (hrs : a_sl h' - z0 ≤ R.slots) (kk : a_W p l e R s m args below meth c Q base ex cA D n0 z0 mi (npc, ls2, v.toList ++ r, h')) : a_W p l e R s m args below meth c Q base ex cA D n0 z0 mi (pc, ls, st, h) := by
  have hgrow : a_le h2 h' := a_ev_le n hev
  simp only [a_call] at hh
  split at hh
  · cases hh
  · rename_i i len npc9 tg hdec
    obtain ⟨hd, hn, -⟩ := decT_ok _ _ _ hdec
    split at hh
    · rename_i q9 as9 r9 hcal
      obtain ⟨hft, hc9⟩ := a_cond_some hh
      cases hc9
      have hnd := a_nodbl hft
      obtain ⟨f1, f2, f3, f4⟩ := a_fit_ok hft
      obtain ⟨hx, hb, hml, hown, hts, hE, hR, hin, hsc⟩ := X
      intro H locs rls hl hll hP hS hz h1 h2 T hT XT
      have h1 : n0 ≤ h.length := h1
      have h2 : z0 ≤ a_sl h := h2
      have hsz := a_hsz XT hT rfl hP hS hz h1
      have hfx : CallFix p m c (codT mi) (nlT mi) s args a_big (RT (ownT mi)) := ⟨hx, hb, hml, hown, hts⟩
      have hPc : ∀ U : State, U.heap = H → s.WarmedH U.vm → a_Pc base ex cA D as h ((as.map (a_rv base ex)).toArray) U := fun U hU hW => ⟨rfl, by rw [hU]; exact hsz, by rw [hU]; exact hP, hE.next hW hU hS⟩
      have hroom : 2 * (F0 m pc rls (st.map (a_rv base ex))).monitorRoom + ((r.map (a_rv base ex)).map fun v => v.category).sum ≤ 8 := lv_room (by rw [a_cat_map]; exact f3)
      have hcs : h.length - n0 + (h'.length - h.length) ≤ R.cells ∧ a_sl h - z0 + (a_sl h' - a_sl h) ≤ R.slots := by
        have a1 := hgrow.1
        have a2 := hgrow.2
        constructor
        · omega
        · omega
      have kk2 : npc = pc + 3 → ∀ (H1 : Heap) (locs1 : List Loc), va_P D vwCl (a_wd base ex cA 0 h') H1 → va_S (fun q => base ≤ q) s.heap H1 locs1 → W p l e R s m args below meth c H1 locs1 (h.length - n0 + (h'.length - h.length)) (a_sl h - z0 + (a_sl h' - a_sl h)) Q (F0 m (pc + 3) rls ((v.map (a_rv base ex)).toList ++ r.map (a_rv base ex))) := by
        intro hnp H1 locs1 hP1 hS1
        have a1 := hgrow.1
        have a2 := hgrow.2
        have := kk H1 locs1 rls hl hll hP1 hS1 hz (by show n0 ≤ h'.length; omega) (by show z0 ≤ a_sl h'; omega)
        have e1 : h'.length - n0 = h.length - n0 + (h'.length - h.length) := by omega
        have e2 : a_sl h' - z0 = a_sl h - z0 + (a_sl h' - a_sl h) := by omega
        have e3 : (v.toList ++ r).map (a_rv base ex) = (v.map (a_rv base ex)).toList ++ r.map (a_rv base ex) := by
          rw [List.map_append]
          cases v <;> rfl
        simp only [e1, e2, e3, hnp] at this
        exact this
      cases i
      case invokevirtual k =>
        simp only [a_cal] at hcal
        split at hcal
        · rename_i q8 n8 nest hc
          obtain ⟨g0, g1, g2, g3, g4, g5, g6, g7, g8⟩ := cT_ok _ _ _ hc
          have hrecv : ∃ (b : Nat) (as1 : List Value), q = q8 ∧ as.map (a_rv base ex) = .ref b :: as1.map (a_rv base ex) ∧ as1.length = n8 ∧ st.map (a_rv base ex) = (as1.map (a_rv base ex)).reverse ++ .ref b :: r.map (a_rv base ex) ∧ ∃ cellB : Cell, H[b]? = some cellB ∧ cellB.vm.isStatics = false ∧ s.vm.findClass (yT q8).cls = some cellB.cls := by
            split at hcal
            · rename_i as1 o r1 hpop
              split at hcal
              · rename_i cj fs hq
                obtain ⟨hcc, hc8⟩ := a_cond_some hcal
                cases hc8
                obtain ⟨as2, e1, e2, e3⟩ := a_pop_eq _ _ _ _ _ hpop
                rw [List.append_nil] at e1
                subst e1
                rw [Bool.and_eq_true] at hcc
                have ho := Nat.eq_of_beq_eq_true hcc.1
                have hlt : cj < 10 := Nat.le_of_ble_eq_true hcc.2
                refine ⟨base + o, as1, rfl, rfl, e2, ?_, ?_⟩
                · rw [e3, List.map_append, List.map_reverse]; rfl
                · have := va_recv hE.1 hP (a_cl_at cj hlt) (a_wd_at hq)
                  rw [g1.2.2.2.1, ← ho, ← a_clR_RT cj hlt]
                  exact this
              · cases hcal
            · rename_i as1 o r1 hpop
              obtain ⟨hcc, hc8⟩ := a_cond_some hcal
              cases hc8
              obtain ⟨as2, e1, e2, e3⟩ := a_pop_eq _ _ _ _ _ hpop
              rw [List.append_nil] at e1
              subst e1
              rw [Bool.and_eq_true] at hcc
              have ho := Nat.eq_of_beq_eq_true hcc.1
              have hlt : o.toNat < 4 := Nat.le_of_ble_eq_true hcc.2
              refine ⟨ex o.toNat, as1, rfl, rfl, e2, ?_, ?_⟩
              · rw [e3, List.map_append, List.map_reverse]; rfl
              · have := vk_recv hE.2.2.2.1 hlt hS
                rw [g1.2.2.2.1, ← ho]
                exact this
            · cases hcal
          obtain ⟨b9, as1, eq, e1, e2, e3, hcell⟩ := hrecv
          subst eq
          have hM := a_met_of hA g1 hev hnd f4 (by have := frT_le mi; omega)
          have hpv : PreV s H (yT q).cls b9 (a_Pc base ex cA D as h) (as1.map (a_rv base ex)) := ⟨a_Pc_blind, hcell, fun U hU hW => by have := hPc U hU hW; rw [e1] at this; exact this⟩
          cases nest with
          | false =>
            exact a_callg (va_runV hfx hM ⟨a_callB g1 hts hR f1 f2 g4 (hts _ (g2 rfl)), hts _ (g6 (by decide)), hts _ (g7 rfl)⟩ hpv rfl (by rw [List.length_map]; exact e2) hl.1 e3 hroom hd hcs) hS (kk2 hn) T hT XT
          | true =>
            exact a_callg (va_runVN hfx hM ⟨a_callN g1 hts hR f1 f2 g4 (va_Nw.use rfl (hE.2.1 _ (g3 rfl) rfl)), hts _ (g6 (by decide)), hts _ (g7 rfl)⟩ hpv rfl (by rw [List.length_map]; exact e2) hl.1 e3 hroom hd hcs) hS (kk2 hn) T hT XT
        · cases hcal
      case invokestatic k =>
        simp only [a_cal] at hcal
        split at hcal
        · rename_i q8 n8 nest hc
          obtain ⟨g0, g1, g2, g3, g4, g5, g6, g7, g8⟩ := cT_ok _ _ _ hc
          split at hcal
          · rename_i as1 r1 hpop
            cases hcal
            obtain ⟨as2, e1, e2, e3⟩ := a_pop_eq _ _ _ _ _ hpop
            rw [List.append_nil] at e1
            subst e1
            have hM := a_met_of hA g1 hev hnd f4 (by have := frT_le mi; omega)
            have hpv : PreS s H (a_Pc base ex cA D as h) (as.map (a_rv base ex)) := ⟨a_Pc_blind, hPc⟩
            have e4 : st.map (a_rv base ex) = (as.map (a_rv base ex)).reverse ++ r.map (a_rv base ex) := by rw [e3, List.map_append, List.map_reverse]
            cases nest with
            | false =>
              exact a_callg (va_runS hfx hM ⟨a_callB g1 hts hR f1 f2 g4 (hts _ (g2 rfl)), hts _ (g5 rfl)⟩ hpv rfl (by rw [List.length_map]; exact e2) hl.1 e4 hroom hd hcs) hS (kk2 hn) T hT XT
            | true =>
              exact a_callg (va_runSN hfx hM ⟨a_callN g1 hts hR f1 f2 g4 (va_Nw.use rfl (hE.2.1 _ (g3 rfl) rfl)), hts _ (g5 rfl), trivial⟩ hpv rfl (by rw [List.length_map]; exact e2) hl.1 e4 hroom hd hcs) hS (kk2 hn) T hT XT
          · cases hcal
        · cases hcal
      case invokespecial k =>
        simp only [a_cal] at hcal
        split at hcal
        · rename_i q8 n8 nest hc
          obtain ⟨g0, g1, g2, g3, g4, g5, g6, g7, g8⟩ := cT_ok _ _ _ hc
          split at hcal
          · rename_i as1 o r1 hpop
            cases hcal
            obtain ⟨as2, e1, e2, e3⟩ := a_pop_eq _ _ _ _ _ hpop
            rw [List.append_nil] at e1
            subst e1
            have hM := a_met_of hA g1 hev hnd f4 (by have := frT_le mi; omega)
            have hpv : PreS s H (a_Pc base ex cA D (.ref o :: as1) h) (.ref (base + o) :: as1.map (a_rv base ex)) := ⟨a_Pc_blind, hPc⟩
            have e4 : st.map (a_rv base ex) = (as1.map (a_rv base ex)).reverse ++ .ref (base + o) :: r.map (a_rv base ex) := by rw [e3, List.map_append, List.map_reverse]; rfl
            obtain ⟨hnm, hret⟩ := g8 rfl
            cases nest with
            | false =>
              have cb := a_callB (mc := h'.length - h.length) (ms := a_sl h' - a_sl h) g1 hts hR f1 f2 g4 (hts _ (g2 rfl))
              rw [hret] at cb
              exact a_callg (va_runI hfx hM ⟨cb, hnm, hts _ (g6 (by decide))⟩ hpv rfl (by rw [List.length_map]; exact e2) hl.1 e4 hroom hd hcs) hS (kk2 hn) T hT XT
            | true =>
              have cb := a_callN (mc := h'.length - h.length) (ms := a_sl h' - a_sl h) g1 hts hR f1 f2 g4 (va_Nw.use rfl (hE.2.1 _ (g3 rfl) rfl))
              rw [hret] at cb
              exact a_callg (va_runIN hfx hM ⟨cb, hnm, hts _ (g6 (by decide))⟩ hpv rfl (by rw [List.length_map]; exact e2) hl.1 e4 hroom hd hcs) hS (kk2 hn) T hT XT
          · cases hcal
        · cases hcal
      all_goals (simp only [a_cal] at hcal; cases hcal)
    · cases hh
end
theorem a_all (l : Launch) (base : Nat) (ex : Nat → Nat) (cA : Nat → ClassId) (D : va_G) : ∀ n, a_All l base ex cA D n
  | 0 => by
    intro p e R s m args below meth c Q scr n0 z0 mi f v h' hev
    simp only [a_ev] at hev
    cases hev
  | n + 1 => by
    intro p e R s m args below meth c Q scr n0 z0 mi f v h' hev X hrc hrs hend
    obtain ⟨pc, ls, st, h⟩ := f
    have hev0 := hev
    simp only [a_ev] at hev
    split at hev
    · rename_i c2 he
      have hg := a_ev_le n hev
      refine a_stp_ok he X ?_ ?_ (a_all l base ex cA D n p e R s m args below meth c Q scr n0 z0 mi c2 v h' hev X hrc hrs hend)
      · have := hg.1; omega
      · have := hg.2; omega
    · split at hev
      · rename_i q as npc ls2 r h2 he
        split at hev
        · rename_i v2 h3 he2
          have hg := a_ev_le n hev
          have hg : a_le h3 h' := hg
          refine a_call_ok (a_all l base ex cA D n) he he2 X ?_ ?_ (a_all l base ex cA D n p e R s m args below meth c Q scr n0 z0 mi _ v h' hev X hrc hrs hend)
          · have := hg.1; omega
          · have := hg.2; omega
        · cases hev
      · exact hend _ hev

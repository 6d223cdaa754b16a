/-! one instruction of the little machine is one of the machine's: lengths, statics, new objects; all that needs no check -/
section
variable {p : Program} {l : Launch} {e : Env} {R : Room} {s : State} {m : MethodId} {args : Array Value} {below : List Frame} {meth : Method} {c : Code} {Q : State → Prop}
variable {base : Nat} {ex : Nat → Nat} {cA : Nat → ClassId} {D : va_G} {scr : List Int32} {n0 z0 mi : Nat}
variable {len npc pc : Nat} {ls : aL} {st : List Value} {h : aH} {c' : aF}
theorem a_tys_at (cA : Nat → ClassId) {k : Nat} (hk : k < 3) : ∃ ty, (a_tys cA)[k]? = some (cA k, ty) := by
  match k, hk with
  | 0, _ => exact ⟨_, rfl⟩
  | 1, _ => exact ⟨_, rfl⟩
  | 2, _ => exact ⟨_, rfl⟩
theorem x_arraylength (hh : a_exec mi .arraylength len npc ls st h = some c') (hd : decode (codT mi) pc = .ok (.arraylength, len)) (hn : npc = pc + len) (X : a_X p R s m args meth c base ex cA D scr mi) (kk : a_W p l e R s m args below meth c Q base ex cA D n0 z0 mi c') : a_W p l e R s m args below meth c Q base ex cA D n0 z0 mi (pc, ls, st, h) := by
  obtain ⟨hx, hb, hml, hown, hts, hE, hR, hin, hsc⟩ := X
  simp only [a_exec] at hh
  split at hh
  · rename_i q r
    split at hh
    · rename_i k v hq
      obtain ⟨hk9, hc⟩ := a_cond_some hh
      cases hc
      subst hn
      intro H locs rls hl hll hP hS hz h1 h2
      obtain ⟨ty, hty⟩ := a_tys_at cA (Nat.le_of_ble_eq_true hk9)
      have he := a_wd_at (base := base) (ex := ex) (cA := cA) hq
      exact va_alen hx hb hE.1 hP q k he hty rfl hd (kk H locs rls hl hll hP hS hz h1 h2)
    · rename_i v hq
      cases hh
      subst hn
      intro H locs rls hl hll hP hS hz h1 h2
      have he := a_wd_at (base := base) (ex := ex) (cA := cA) hq
      exact va_alen hx hb hE.1 hP q 3 he rfl rfl hd (kk H locs rls hl hll hP hS hz h1 h2)
    · cases hh
  · rename_i j r
    cases hb9 : Nat.ble 10 j.toNat with
    | false => rw [hb9] at hh; cases hh
    | true =>
      rw [hb9] at hh
      have hh : (match a_nth a_slen (j.toNat - 10) with | some n => some (npc, ls, .int (nI n) :: r, h) | none => none) = some c' := hh
      split at hh
      · rename_i n hq
        cases hh
        subst hn
        intro H locs rls hl hll hP hS hz h1 h2
        have h10 : 10 ≤ j.toNat := Nat.le_of_ble_eq_true hb9
        have hlt : j.toNat - 10 < 4 := a_nth_lt hq
        have hT := (hE.2.2.2.1.1 (j.toNat - 10) hlt).2.2.2
        have ej : 10 + (j.toNat - 10) = j.toNat := by omega
        rw [show (fun j => ex (10 + j)) (j.toNat - 10) = ex j.toNat from congrArg ex ej] at hT
        have en : a_slen.getD (j.toNat - 10) 0 = n := by
          rw [List.getD_eq_getElem?_getD, ← a_nth_eq, hq]; rfl
        exact va_tlen hx hb hT hS (by rw [en]; rfl) hd (kk H locs rls hl hll hP hS hz h1 h2)
      · cases hh
  · cases hh
theorem x_getstatic {k : Nat} (hh : a_exec mi (.getstatic k) len npc ls st h = some c') (hd : decode (codT mi) pc = .ok (.getstatic k, len)) (hn : npc = pc + len) (X : a_X p R s m args meth c base ex cA D scr mi) (kk : a_W p l e R s m args below meth c Q base ex cA D n0 z0 mi c') : a_W p l e R s m args below meth c Q base ex cA D n0 z0 mi (pc, ls, st, h) := by
  obtain ⟨hx, hb, hml, hown, hts, hE, hR, hin, hsc⟩ := X
  simp only [a_exec] at hh
  split at hh
  · rename_i ho
    cases hh
    subst hn
    rw [ho] at hown
    intro H locs rls hl hll hP hS hz h1 h2
    exact va_gets hx hb hE.2.2.2.2.2.1 hS hown (hts _ a_mbS38) (fun x hx => hx) hd (kk H locs rls hl hll hP hS hz h1 h2)
  · rename_i ho
    cases hh
    subst hn
    rw [ho] at hown
    intro H locs rls hl hll hP hS hz h1 h2
    exact va_gets hx hb hE.2.2.2.2.2.2.1 hS hown (hts _ a_mbS1053) (fun x hx => hx) hd (kk H locs rls hl hll hP hS hz h1 h2)
  · cases hh
theorem a_hsz {T : State} {H : Heap} {locs : List Loc} {cc z : Nat} (X : Stand p l e R s m args below meth c T locs cc z) (hT : T.heap = H) (hcc : cc = h.length - n0) (hP : va_P D vwCl (a_wd base ex cA 0 h) H) (hS : va_S (fun q => base ≤ q) s.heap H locs) (hz : s.heap.size = base + n0) (hn : n0 ≤ h.length) : H.size = base + h.length := by
  have hu : (T.setVm s.vm).heap.size ≤ s.heap.size + cc := X.same.2.2.1
  have hu2 : H.size ≤ s.heap.size + cc := by rw [← hT]; exact hu
  have hs1 := hS.1
  rcases Nat.eq_zero_or_pos h.length with e0 | e0
  · omega
  · have hlt : h.length - 1 < h.length := by omega
    have hg : a_nth h (h.length - 1) = some h[h.length - 1] := by rw [a_nth_eq]; exact List.getElem?_eq_getElem hlt
    have := (hP _ _ (a_wd_at (base := base) (ex := ex) (cA := cA) hg)).lt
    have h9 : base + (h.length - 1) < H.size := this
    omega
theorem a_P_app {H H1 : Heap} {y : aC} (hP : va_P D vwCl (a_wd base ex cA 0 h) H) (hk : ∀ q, q < H.size → H1[q]? = H[q]?) (hy : va_at D vwCl (base + h.length, a_rc base ex cA y) H1) : va_P D vwCl (a_wd base ex cA 0 (h ++ [y])) H1 := by
  rw [a_wd_app, Nat.zero_add]
  refine va_P.app (hP.kept fun k x hx => hk x.1 ((hP k x hx).lt)) (fun k x hx => ?_)
  have hz : k < 1 := (List.getElem?_eq_some_iff.mp hx).1
  rw [show k = 0 by omega] at hx
  cases hx
  exact hy
theorem a_df_ok (ci : Nat) : ((a_df ci).all fun v => match v with | .int _ => true | .long _ => true | .null => true | _ => false) = true := by
  have hc : ∀ {b : Bool} {x y : List Value} {f : Value → Bool}, x.all f = true → y.all f = true → (cond b x y).all f = true := by
    intro b x y f h1 h2
    cases b
    · exact h2
    · exact h1
  unfold a_df
  repeat (first | refine hc ?_ ?_ | rfl)
theorem a_df_rv (ci base : Nat) (ex : Nat → Nat) : (a_df ci).map (a_rv base ex) = a_df ci := by
  have key : ∀ v ∈ a_df ci, a_rv base ex v = v := by
    have h : ∀ l : List Value, (l.all fun v => match v with | .int _ => true | .long _ => true | .null => true | _ => false) = true → ∀ v ∈ l, a_rv base ex v = v := by
      intro l hl v hv
      have := List.all_eq_true.mp hl v hv
      cases v <;> first | rfl | cases this
    exact h _ (a_df_ok ci)
  exact (List.map_congr_left key).trans (List.map_id' _)
theorem x_new {k : Nat} (hh : a_exec mi (.new k) len npc ls st h = some c') (hd : decode (codT mi) pc = .ok (.new k, len)) (hn : npc = pc + len) (X : a_X p R s m args meth c base ex cA D scr mi) (hrc : c'.2.2.2.length - n0 ≤ R.cells) (hrs : a_sl c'.2.2.2 - z0 ≤ R.slots) (kk : a_W p l e R s m args below meth c Q base ex cA D n0 z0 mi c') : a_W p l e R s m args below meth c Q base ex cA D n0 z0 mi (pc, ls, st, h) := by
  obtain ⟨hx, hb, hml, hown, hts, hE, hR, hin, hsc⟩ := X
  simp only [a_exec] at hh
  split at hh
  · rename_i ci hci
    cases hh
    subst hn
    intro H locs rls hl hll hP hS hz h1 h2 T hT X
    have h1 : n0 ≤ h.length := h1
    have h2 : z0 ≤ a_sl h := h2
    obtain ⟨g1, g2, g3, g4⟩ := nT_ok _ _ _ hci
    obtain ⟨c1, c2, ⟨ty, c3, c4⟩, c5⟩ := a_cl_ok _ _ g2
    have hsz := a_hsz X hT rfl hP hS hz h1
    have hKn := hE.1.1 ci _ g2
    have hrc : (h ++ [(Sum.inr (Sum.inl (ci, a_df ci)) : aC)]).length - n0 ≤ R.cells := hrc
    have hrs : a_sl (h ++ [(Sum.inr (Sum.inl (ci, a_df ci)) : aC)]) - z0 ≤ R.slots := hrs
    rw [List.length_append, List.length_singleton] at hrc
    rw [a_sl_app] at hrs
    have hsl : a_size (Sum.inr (Sum.inl (ci, a_df ci)) : aC) = a_clN ci := c5
    rw [hsl] at hrs
    refine W.newcK (Q := Q) (g := F0 m pc rls (st.map (a_rv base ex))) hx hb hown (hts _ g1) (hts _ g3) (hts _ g4) rfl hd (by show h.length - n0 + 1 ≤ R.cells; omega) (by show a_sl h - z0 + a_clN ci ≤ R.slots; omega) hKn.2.1 rfl (fun H1 kC hkC e1 z1 o1 => ?_) T hT X
    have hdf : (a_df ci).map (a_rv base ex) = a_df ci := a_df_rv ci base ex
    have hat : va_at D vwCl (base + h.length, a_rc base ex cA (Sum.inr (Sum.inl (ci, a_df ci)) : aC)) H1 := by
      refine ⟨_, g2, ?_⟩
      show t_OB (base + h.length) _ _ _ H1 (vp_V ((a_df ci).map (a_rv base ex)))
      rw [hdf, ← hsz]
      exact (u_born ty hts c1 hKn hkC e1 c3).to c4
    have := kk H1 locs rls hl hll (a_P_app hP o1 hat) ⟨Nat.le_trans hS.1 (by omega), fun x b1 b2 => (o1 x (Nat.lt_of_lt_of_le b1 hS.1)).trans (hS.2.1 x b1 b2), hS.2.2⟩ hz (by show n0 ≤ (h ++ [_]).length; rw [List.length_append]; omega) (by show z0 ≤ a_sl (h ++ [_]); rw [a_sl_app]; omega)
    simp only [List.length_append, List.length_singleton, a_sl_app, hsl] at this
    rw [show h.length + 1 - n0 = h.length - n0 + 1 by omega, show a_sl h + a_clN ci - z0 = a_sl h - z0 + a_clN ci by omega] at this
    rw [hsz]
    exact this
  · cases hh
theorem a_exec_ok {i : Instr} (hh : a_exec mi i len npc ls st h = some c') (hd : decode (codT mi) pc = .ok (i, len)) (hn : npc = pc + len) (X : a_X p R s m args meth c base ex cA D scr mi) (hrc : c'.2.2.2.length - n0 ≤ R.cells) (hrs : a_sl c'.2.2.2 - z0 ≤ R.slots) (kk : a_W p l e R s m args below meth c Q base ex cA D n0 z0 mi c') : a_W p l e R s m args below meth c Q base ex cA D n0 z0 mi (pc, ls, st, h) := by
  cases i
  case iadd => exact x_iadd hh hd hn X kk
  case isub => exact x_isub hh hd hn X kk
  case imul => exact x_imul hh hd hn X kk
  case iand => exact x_iand hh hd hn X kk
  case ior => exact x_ior hh hd hn X kk
  case ixor => exact x_ixor hh hd hn X kk
  case ishl => exact x_ishl hh hd hn X kk
  case ishr => exact x_ishr hh hd hn X kk
  case iushr => exact x_iushr hh hd hn X kk
  case ladd => exact x_ladd hh hd hn X kk
  case lmul => exact x_lmul hh hd hn X kk
  case land => exact x_land hh hd hn X kk
  case lor => exact x_lor hh hd hn X kk
  case lshl => exact x_lshl hh hd hn X kk
  case lshr => exact x_lshr hh hd hn X kk
  case lcmp => exact x_lcmp hh hd hn X kk
  case i2l => exact x_i2l hh hd hn X kk
  case l2i => exact x_l2i hh hd hn X kk
  case i2b => exact x_i2b hh hd hn X kk
  case i2c => exact x_i2c hh hd hn X kk
  case pop => exact x_pop hh hd hn X kk
  case dup => exact x_dup hh hd hn X kk
  case dup2 => exact x_dup2 hh hd hn X kk
  case aload_n => exact x_aload_n hh hd hn X kk
  case aload => exact x_aload hh hd hn X kk
  case iload_n => exact x_iload_n hh hd hn X kk
  case iload => exact x_iload hh hd hn X kk
  case lload_n => exact x_lload_n hh hd hn X kk
  case lload => exact x_lload hh hd hn X kk
  case istore_n => exact x_istore_n hh hd hn X kk
  case istore => exact x_istore hh hd hn X kk
  case astore_n => exact x_astore_n hh hd hn X kk
  case lstore_n => exact x_lstore_n hh hd hn X kk
  case lstore => exact x_lstore hh hd hn X kk
  case iinc => exact x_iinc hh hd hn X kk
  case iconst => exact x_iconst hh hd hn X kk
  case bipush => exact x_bipush hh hd hn X kk
  case sipush => exact x_sipush hh hd hn X kk
  case lconst => exact x_lconst hh hd hn X kk
  case ldc => exact x_ldc hh hd hn X kk
  case ldc_w => exact x_ldc_w hh hd hn X kk
  case ldc2_w => exact x_ldc2_w hh hd hn X kk
  case ifnull => exact x_ifnull hh hd hn X kk
  case getfield => exact x_getfield hh hd hn X kk
  case putfield => exact x_putfield hh hd hn X kk
  case arraylength => exact x_arraylength hh hd hn X kk
  case getstatic => exact x_getstatic hh hd hn X kk
  case new => exact x_new hh hd hn X hrc hrs kk
  all_goals (simp only [a_exec] at hh; cases hh)
end

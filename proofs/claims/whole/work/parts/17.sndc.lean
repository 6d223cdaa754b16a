/-! one instruction of the little machine is one of the machine's: fields, lengths, new objects -/
section
variable {p : Program} {l : Launch} {e : Env} {R : Room} {s : State} {m : MethodId} {args : Array Value} {below : List Frame} {meth : Method} {c : Code} {Q : State → Prop}
variable {base : Nat} {ex : Nat → Nat} {cA : Nat → ClassId} {D : va_G} {scr : List Int32} {n0 z0 mi : Nat}
variable {len npc pc : Nat} {ls : aL} {st : List Value} {h : aH} {c' : aF}
theorem x_getfield {k : Nat} (hh : a_exec mi (.getfield k) len npc ls st h = some c') (hd : decode (codT mi) pc = .ok ((.getfield k), len)) (hn : npc = pc + len) (X : a_X p R s m args meth c base ex cA D scr mi) (kk : a_W p l e R s m args below meth c Q base ex cA D n0 z0 mi c') : a_W p l e R s m args below meth c Q base ex cA D n0 z0 mi (pc, ls, st, h) := by
  obtain ⟨hx, hb, hml, hown, hts, hE, hR, hin, hsc⟩ := X
  simp only [a_exec] at hh
  split at hh
  · rename_i q r
    split at hh
    · rename_i ci f nest fin ty cj fs hF hq
      cases hbq : Nat.beq ci cj with
      | false => rw [hbq] at hh; cases hh
      | true =>
        rw [hbq] at hh
        have e9 := Nat.eq_of_beq_eq_true hbq
        subst e9
        have hh : (match a_nth fs f with | some v => some (npc, ls, v :: r, h) | none => none) = some c' := hh
        split at hh
        · rename_i v hv
          cases hh
          subst hn
          intro H locs rls hl hll hP hS hz h1 h2
          obtain ⟨g1, g2, g3, g4, g5, g6, g7, t, g8, g9⟩ := fT_ok _ _ _ hF
          have he := a_wd_at (base := base) (ex := ex) (cA := cA) hq
          have hv2 : (fs.map (a_rv base ex))[f]? = some (a_rv base ex v) := by rw [List.getElem?_map, ← a_nth_eq, hv]; rfl
          have hcl := (a_cl_ok _ _ g1).1
          cases nest with
          | false =>
            exact va_get (D := D) (ref := a_clR ci) hx hb hts hcl hown hE.1 hP q he g1 f g2 (hts _ (g3 rfl)) (fun x hx => by rw [← g5]; exact hx) hv2 hd (kk H locs rls hl hll hP hS hz h1 h2)
          | true =>
            exact va_getN (D := D) (ref := a_clR ci) (host := "WhitePaw") hx hb hts hcl hown hE.1 hP q he g1 f g2 (va_Nw.use rfl (hE.2.1 _ (g4 rfl) rfl)) (fun x hx => by rw [← g5]; exact hx) hv2 hd (kk H locs rls hl hll hP hS hz h1 h2)
        · cases hh
    · cases hh
  · rename_i j r
    split at hh
    · rename_i ho
      obtain ⟨hb9, hc⟩ := a_cond_some hh
      cases hc
      subst hn
      intro H locs rls hl hll hP hS hz h1 h2
      have hj : j.toNat < 4 := Nat.le_of_ble_eq_true hb9
      have hu : (UInt32.ofNat (10 + j.toNat)).toNat = 10 + j.toNat := by rw [UInt32.toNat_ofNat']; omega
      have hV := (hE.2.2.2.1.1 j.toNat hj).2.2.1
      rw [ho] at hown
      have hw : Cond.fieldLink (RT 10) 9 "java/lang/String" "value" "[B" ∈ a_big := a_mbF9
      have kk2 := kk H locs rls hl hll hP hS hz h1 h2
      refine vk_getf (v := .ref (ex (10 + j.toNat))) hx hb hV hS hown (hts _ hw) (fun x hx => hx) hd ?_
      rw [← hu]
      exact kk2
    · rename_i ho
      obtain ⟨hb9, hc⟩ := a_cond_some hh
      cases hc
      subst hn
      intro H locs rls hl hll hP hS hz h1 h2
      have hj : j.toNat < 4 := Nat.le_of_ble_eq_true hb9
      have hV := (hE.2.2.2.1.1 j.toNat hj).2.1
      rw [ho] at hown
      have hw : Cond.fieldLink (RT 10) 15 "java/lang/String" "coder" "B" ∈ a_big := a_mbF15
      exact vk_getf (v := .int 0) hx hb hV hS hown (hts _ hw) (fun x hx => hx) hd (kk H locs rls hl hll hP hS hz h1 h2)
    · cases hh
  · cases hh
theorem a_fits_ok {ty : Nat} {t : FieldType} {v : Value} (h : a_tyk ty t) (hf : a_fits ty v = true) : narrow t (a_rv base ex v) = a_rv base ex v ∧ fits t (a_rv base ex v) = true := by
  rcases h with ⟨rfl, rfl⟩ | ⟨rfl, rfl⟩ | ⟨rfl, ⟨x, rfl⟩ | ⟨x, rfl⟩⟩ | ⟨rfl, rfl⟩
  · cases v <;> first | exact ⟨rfl, rfl⟩ | cases hf
  · cases v <;> first | exact ⟨rfl, rfl⟩ | cases hf
  · cases v <;> first | exact ⟨rfl, rfl⟩ | cases hf
  · cases v <;> first | exact ⟨rfl, rfl⟩ | cases hf
  · cases v with
    | int x =>
      have h9 : x = nI 0 ∨ x = nI 1 := of_decide_eq_true hf
      rcases h9 with rfl | rfl
      · exact ⟨rfl, rfl⟩
      · exact ⟨rfl, rfl⟩
    | _ => cases hf
theorem x_putfield {k : Nat} (hh : a_exec mi (.putfield k) len npc ls st h = some c') (hd : decode (codT mi) pc = .ok ((.putfield k), len)) (hn : npc = pc + len) (X : a_X p R s m args meth c base ex cA D scr mi) (kk : a_W p l e R s m args below meth c Q base ex cA D n0 z0 mi c') : a_W p l e R s m args below meth c Q base ex cA D n0 z0 mi (pc, ls, st, h) := by
  obtain ⟨hx, hb, hml, hown, hts, hE, hR, hin, hsc⟩ := X
  simp only [a_exec] at hh
  split at hh
  · rename_i v q r
    split at hh
    · rename_i ci f nest fin ty cj fs hF hq
      cases hbq : Nat.beq ci cj with
      | false => rw [hbq] at hh; cases hh
      | true =>
        rw [hbq] at hh
        have e9 := Nat.eq_of_beq_eq_true hbq
        subst e9
        cases hft : a_fits ty v with
        | false => rw [hft] at hh; cases hh
        | true =>
          rw [hft] at hh
          cases hfn : a_fin fin nest mi ci with
          | false => rw [hfn] at hh; cases hh
          | true =>
            rw [hfn] at hh
            have hh : (match a_nth fs f with | some _ => some (npc, ls, r, h.set q (.inr (.inl (ci, fs.set f v)))) | none => none) = some c' := hh
            split at hh
            · rename_i v0 hv
              cases hh
              subst hn
              intro H locs rls hl hll hP hS hz h1 h2
              obtain ⟨g1, g2, g3, g4, g5, g6, g7, t, g8, g9⟩ := fT_ok _ _ _ hF
              have he := a_wd_at (base := base) (ex := ex) (cA := cA) hq
              have hlf : f < (fs.map (a_rv base ex)).length := by rw [List.length_map]; exact a_nth_lt hv
              obtain ⟨hcl, hnm, ⟨ty0, hty0, -⟩, -⟩ := a_cl_ok _ _ g1
              obtain ⟨f1, f2⟩ := a_fits_ok (base := base) (ex := ex) g9 hft
              have hset : (a_wd base ex cA 0 h).set q (base + q, .inr (ci, (fs.map (a_rv base ex)).set f (a_rv base ex v))) = a_wd base ex cA 0 (h.set q (.inr (.inl (ci, fs.set f v)))) := by
                rw [← a_wd_set base ex cA _ h 0 q, Nat.zero_add]
                show _ = (a_wd base ex cA 0 h).set q (base + q, .inr (ci, (fs.set f v).map (a_rv base ex)))
                rw [List.map_set]
              have hsl := a_sl_set (h := h) (q := q) (y := .inr (.inl (ci, fs.set f v))) hq (by simp [a_size])
              have kk2 : ∀ (H1 : Heap) (locs1 : List Loc), va_P D vwCl ((a_wd base ex cA 0 h).set q (base + q, .inr (ci, (fs.map (a_rv base ex)).set f (a_rv base ex v)))) H1 → va_D (fun q => base ≤ q) ((a_wd base ex cA 0 h).set q (base + q, .inr (ci, (fs.map (a_rv base ex)).set f (a_rv base ex v)))) → va_S (fun q => base ≤ q) s.heap H1 locs1 → W p l e R s m args below meth c H1 locs1 (h.length - n0) (a_sl h - z0) Q (F0 m (pc + 3) rls (r.map (a_rv base ex))) := by
                intro H1 locs1 hP1 _ hS1
                rw [hset] at hP1
                have := kk H1 locs1 rls hl hll hP1 hS1 hz (by show n0 ≤ (h.set q _).length; rw [List.length_set]; exact h1) (by show z0 ≤ a_sl (h.set q _); rw [hsl]; exact h2)
                simp only [List.length_set, hsl] at this
                exact this
              cases fin with
              | false =>
                cases nest with
                | false =>
                  exact va_put (D := D) (ref := a_clR ci) hx hb hts hcl ty0 hty0 hnm hown hE.1 hP (a_wd_D base ex cA h) hS q he g1 f g2 (hts _ (g3 rfl)) (fun x hx => by rw [← g5]; exact hx) g6 g8 f1 f2 hlf hd kk2
                | true =>
                  exact va_putN (D := D) (ref := a_clR ci) (host := "WhitePaw") hx hb hts hcl ty0 hty0 hnm hown hE.1 hP (a_wd_D base ex cA h) hS q he g1 f g2 (va_Nw.use rfl (hE.2.1 _ (g4 rfl) rfl)) (fun x hx => by rw [← g5]; exact hx) g6 g8 f1 f2 hlf hd kk2
              | true =>
                simp only [a_fin, Bool.and_eq_true, Bool.not_eq_true'] at hfn
                obtain ⟨hi9, hn9, ho9⟩ := hfn
                have ho9 := Nat.eq_of_beq_eq_true ho9
                cases nest with
                | false =>
                  exact va_putF (D := D) (ref := a_clR ci) hx hb hts hcl ty0 hty0 hnm hown hE.1 hP (a_wd_D base ex cA h) hS q he g1 f g2 (hts _ (g3 rfl)) (fun x hx => by rw [← g5]; exact hx) g6 (hin hi9) (g7 rfl ho9) g8 f1 f2 hlf hd kk2
                | true => cases hn9
            · cases hh
    · cases hh
  · cases hh
end

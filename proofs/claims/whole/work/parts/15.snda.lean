/-! the little machine's frames, as the machine's: realization of values, cells, locals; what a walk carries -/
def a_rv (base : Nat) (ex : Nat → Nat) (v : Value) : Value := match v with
  | .ref k => .ref (base + k)
  | .float u => .ref (ex u.toNat)
  | .retAddr _ => if ex 31 = 0 then .null else .ref (ex 30)
  | v => v
theorem a_rv_cat {base : Nat} {ex : Nat → Nat} (v : Value) : (a_rv base ex v).category = v.category := by
  cases v with
  | retAddr x =>
    show (if ex 31 = 0 then Value.null else Value.ref (ex 30)).category = 1
    split <;> rfl
  | _ => rfl
def a_rc (base : Nat) (ex : Nat → Nat) (cA : Nat → ClassId) (x : aC) : va_E := match x with
  | .inl (k, l) => .inl (cA k, l.length, .inl (fun j => l.getD j 0))
  | .inr (.inl (ci, fs)) => .inr (ci, fs.map (a_rv base ex))
  | .inr (.inr l) => .inl (cA 3, l.length, .inr (.inr (.inr (.inr (fun j => (l.getD j none).map (fun k => base + k))))))
def a_wd (base : Nat) (ex : Nat → Nat) (cA : Nat → ClassId) : Nat → aH → va_W
  | _, [] => []
  | k, x :: h => (base + k, a_rc base ex cA x) :: a_wd base ex cA (k + 1) h
theorem a_wd_get (base : Nat) (ex : Nat → Nat) (cA : Nat → ClassId) : ∀ (h : aH) (k i : Nat), (a_wd base ex cA k h)[i]? = (h[i]?).map (fun x => (base + (k + i), a_rc base ex cA x))
  | [], k, i => by simp [a_wd]
  | x :: h, k, 0 => by simp [a_wd]
  | x :: h, k, i + 1 => by
    rw [a_wd, List.getElem?_cons_succ, a_wd_get base ex cA h (k + 1) i, List.getElem?_cons_succ, show k + 1 + i = k + (i + 1) by omega]
theorem a_wd_set (base : Nat) (ex : Nat → Nat) (cA : Nat → ClassId) (y : aC) : ∀ (h : aH) (k i : Nat), (a_wd base ex cA k h).set i (base + (k + i), a_rc base ex cA y) = a_wd base ex cA k (h.set i y)
  | [], k, i => by simp [a_wd]
  | x :: h, k, 0 => by simp [a_wd]
  | x :: h, k, i + 1 => by
    rw [a_wd, List.set_cons_succ, List.set_cons_succ, a_wd, ← a_wd_set base ex cA y h (k + 1) i, show k + 1 + i = k + (i + 1) by omega]
theorem a_wd_app (base : Nat) (ex : Nat → Nat) (cA : Nat → ClassId) (y : aC) : ∀ (h : aH) (k : Nat), a_wd base ex cA k (h ++ [y]) = a_wd base ex cA k h ++ [(base + (k + h.length), a_rc base ex cA y)]
  | [], k => by simp [a_wd]
  | x :: h, k => by
    rw [List.cons_append, a_wd, a_wd, a_wd_app base ex cA y h (k + 1), List.cons_append, List.length_cons, show k + 1 + h.length = k + (h.length + 1) by omega]
theorem a_wd_D (base : Nat) (ex : Nat → Nat) (cA : Nat → ClassId) (h : aH) : va_D (fun q => base ≤ q) (a_wd base ex cA 0 h) := by
  have key : ∀ (k : Nat) (q : Nat × va_E), (a_wd base ex cA 0 h)[k]? = some q → q.1 = base + k := by
    intro k q hq
    rw [a_wd_get] at hq
    cases hx : h[k]? with
    | none => rw [hx] at hq; cases hq
    | some x => rw [hx] at hq; cases hq; show base + (0 + k) = base + k; omega
  refine ⟨fun i j x y hi hj hxy => ?_, fun k q hk => ?_⟩
  · have a := key i x hi
    have b := key j y hj
    omega
  · show base ≤ q.1
    have a := key k q hk
    omega
theorem a_wd_at {base : Nat} {ex : Nat → Nat} {cA : Nat → ClassId} {h : aH} {q : Nat} {x : aC} (hq : a_nth h q = some x) : (a_wd base ex cA 0 h)[q]? = some (base + q, a_rc base ex cA x) := by
  rw [a_wd_get, ← a_nth_eq, hq, Nat.zero_add]
  rfl
theorem a_nth_lt {α : Type} {l : List α} {n : Nat} {x : α} (h : a_nth l n = some x) : n < l.length := by
  rw [a_nth_eq] at h
  exact (List.getElem?_eq_some_iff.mp h).1
-- the locals
def a_las (base : Nat) (ex : Nat → Nat) : Nat → aL → List (Nat × Value)
  | _, [] => []
  | i, none :: t => a_las base ex (i + 1) t
  | i, some v :: t => (i, a_rv base ex v) :: a_las base ex (i + 1) t
theorem a_las_mem (base : Nat) (ex : Nat → Nat) : ∀ (ls : aL) (i j : Nat) (w : Value), (j, w) ∈ a_las base ex i ls ↔ ∃ (k : Nat) (v : Value), j = i + k ∧ ls[k]? = some (some v) ∧ w = a_rv base ex v
  | [], i, j, w => by simp [a_las]
  | none :: t, i, j, w => by
    rw [a_las, a_las_mem base ex t (i + 1) j w]
    constructor
    · rintro ⟨k, v, h1, h2, h3⟩
      exact ⟨k + 1, v, by omega, by rw [List.getElem?_cons_succ]; exact h2, h3⟩
    · rintro ⟨k, v, h1, h2, h3⟩
      cases k with
      | zero => rw [List.getElem?_cons_zero] at h2; cases h2
      | succ k => exact ⟨k, v, by omega, by rw [List.getElem?_cons_succ] at h2; exact h2, h3⟩
  | some u :: t, i, j, w => by
    rw [a_las, List.mem_cons, a_las_mem base ex t (i + 1) j w]
    constructor
    · rintro (h | ⟨k, v, h1, h2, h3⟩)
      · cases h
        exact ⟨0, u, rfl, by rw [List.getElem?_cons_zero], rfl⟩
      · exact ⟨k + 1, v, by omega, by rw [List.getElem?_cons_succ]; exact h2, h3⟩
    · rintro ⟨k, v, h1, h2, h3⟩
      cases k with
      | zero =>
        rw [List.getElem?_cons_zero] at h2
        cases h2
        exact Or.inl (by rw [h1, h3]; rfl)
      | succ k => exact Or.inr ⟨k, v, by omega, by rw [List.getElem?_cons_succ] at h2; exact h2, h3⟩
theorem a_lv_mono {ls : Array Slot} {n : Nat} {l l' : List (Nat × Value)} (h : lv_has ls n l) (hm : ∀ q ∈ l', q ∈ l) : lv_has ls n l' := ⟨h.1, h.2.1, fun q hq => h.2.2 q (hm q hq)⟩
theorem a_lv_get {base : Nat} {ex : Nat → Nat} {rls : Array Slot} {n : Nat} {ls : aL} {i : Nat} {v : Value} (h : lv_has rls n (a_las base ex 0 ls)) (hv : a_ld ls i = some v) : rls[i]? = some (.val (a_rv base ex v)) := by
  have h1 : ls[i]? = some (some v) := by
    rw [← a_nth_eq]
    unfold a_ld at hv
    split at hv
    · rename_i w e
      cases hv
      exact e
    · cases hv
  exact h.2.2 (i, a_rv base ex v) ((a_las_mem base ex ls 0 i _).mpr ⟨i, v, by omega, h1, rfl⟩)
theorem a_setk_some {α β : Type} {l : List α} {n : Nat} {v : α} {k : List α → Option β} {r : β} (h : a_setk l n v k = some r) : n < l.length ∧ k (l.set n v) = some r := by
  by_cases hn : n < l.length
  · rw [a_setk_eq l n v k hn] at h
    exact ⟨hn, h⟩
  · rw [a_setk_none l n v k (Nat.le_of_not_lt hn)] at h
    cases h
theorem a_clr_some {β : Type} {ls : aL} {i : Nat} {k : aL → Option β} {r : β} (h : a_clr ls i k = some r) : ∃ ls', k ls' = some r ∧ ls'.length = ls.length ∧ ∀ (j : Nat) (w : Value), ls'[j]? = some (some w) → ls[j]? = some (some w) ∧ ¬ (j + 1 = i ∧ w.category = 2) := by
  unfold a_clr at h
  split at h
  · exact ⟨ls, h, rfl, fun j w hj => ⟨hj, by omega⟩⟩
  · rename_i j0
    have hset : ∀ {u : Value}, a_nth ls j0 = some (some u) → a_setk ls j0 none k = some r → ∃ ls', k ls' = some r ∧ ls'.length = ls.length ∧ ∀ (j : Nat) (w : Value), ls'[j]? = some (some w) → ls[j]? = some (some w) ∧ ¬ (j + 1 = j0 + 1 ∧ w.category = 2) := by
      intro u hu hk
      obtain ⟨h1, h2⟩ := a_setk_some hk
      refine ⟨_, h2, List.length_set, fun j w hj => ?_⟩
      by_cases e : j0 = j
      · subst e
        rw [List.getElem?_set_self h1] at hj
        cases hj
      · rw [List.getElem?_set_ne e] at hj
        exact ⟨hj, by omega⟩
    split at h
    · rename_i u hu
      exact hset hu h
    · rename_i u hu
      exact hset hu h
    · rename_i hu1 hu2
      refine ⟨ls, h, rfl, fun j w hj => ⟨hj, ?_⟩⟩
      rintro ⟨e, hw⟩
      have e2 : j = j0 := by omega
      subst e2
      cases w with
      | long x => exact hu1 x (by rw [a_nth_eq]; exact hj)
      | double x => exact hu2 x (by rw [a_nth_eq]; exact hj)
      | _ => cases hw
theorem a_st1_some {β : Type} {ls : aL} {i : Nat} {v : Value} {k : aL → Option β} {r : β} (h : a_st1 ls i v k = some r) : i < ls.length ∧ ∃ ls', k ls' = some r ∧ ls'.length = ls.length ∧ ∀ (j : Nat) (w : Value), ls'[j]? = some (some w) → (j = i ∧ w = v) ∨ (j ≠ i ∧ ls[j]? = some (some w) ∧ ¬ (j + 1 = i ∧ w.category = 2)) := by
  obtain ⟨l1, h1, h2, h3⟩ := a_clr_some h
  obtain ⟨h4, h5⟩ := a_setk_some h1
  refine ⟨by omega, _, h5, by rw [List.length_set, h2], fun j w hj => ?_⟩
  by_cases e : i = j
  · subst e
    rw [List.getElem?_set_self h4] at hj
    cases hj
    exact Or.inl ⟨rfl, rfl⟩
  · rw [List.getElem?_set_ne e] at hj
    exact Or.inr ⟨fun z => e z.symm, h3 j w hj⟩
theorem a_st2_some {β : Type} {ls : aL} {i : Nat} {v : Value} {k : aL → Option β} {r : β} (h : a_st2 ls i v k = some r) : i + 1 < ls.length ∧ ∃ ls', k ls' = some r ∧ ls'.length = ls.length ∧ ∀ (j : Nat) (w : Value), ls'[j]? = some (some w) → (j = i ∧ w = v) ∨ (j ≠ i ∧ j ≠ i + 1 ∧ ls[j]? = some (some w) ∧ ¬ (j + 1 = i ∧ w.category = 2)) := by
  obtain ⟨l1, h1, h2, h3⟩ := a_clr_some h
  obtain ⟨h4, h5⟩ := a_setk_some h1
  obtain ⟨h6, h7⟩ := a_setk_some h5
  rw [List.length_set] at h6
  refine ⟨by omega, _, h7, by rw [List.length_set, List.length_set, h2], fun j w hj => ?_⟩
  by_cases e2 : i + 1 = j
  · subst e2
    rw [List.getElem?_set_self (by rw [List.length_set]; exact h6)] at hj
    cases hj
  · rw [List.getElem?_set_ne e2] at hj
    by_cases e : i = j
    · subst e
      rw [List.getElem?_set_self h4] at hj
      cases hj
      exact Or.inl ⟨rfl, rfl⟩
    · rw [List.getElem?_set_ne e] at hj
      exact Or.inr ⟨fun z => e z.symm, fun z => e2 z.symm, h3 j w hj⟩
theorem a_las_st1 {base : Nat} {ex : Nat → Nat} {ls ls' : aL} {i : Nat} {v : Value} (h : ∀ (j : Nat) (w : Value), ls'[j]? = some (some w) → (j = i ∧ w = v) ∨ (j ≠ i ∧ ls[j]? = some (some w) ∧ ¬ (j + 1 = i ∧ w.category = 2))) :
    ∀ q ∈ a_las base ex 0 ls', q ∈ (i, a_rv base ex v) :: (a_las base ex 0 ls).filter (fun q => !(q.1 == i) && !(q.1 + 1 == i && q.2.category == 2)) := by
  rintro ⟨j, w⟩ hq
  obtain ⟨k, u, e1, e2, e3⟩ := (a_las_mem base ex ls' 0 j w).mp hq
  rw [Nat.zero_add] at e1
  subst e1; subst e3
  rcases h j u e2 with ⟨a, b⟩ | ⟨a, b, d⟩
  · subst a; subst b
    exact List.mem_cons_self
  · refine List.mem_cons_of_mem _ (List.mem_filter.mpr ⟨(a_las_mem base ex ls 0 j _).mpr ⟨j, u, by omega, b, rfl⟩, ?_⟩)
    simp only [a_rv_cat, Bool.and_eq_true, Bool.not_eq_true', beq_eq_false_iff_ne, ne_eq, Bool.and_eq_false_iff]
    refine ⟨a, ?_⟩
    by_cases z : j + 1 = i
    · exact Or.inr (fun y => d ⟨z, y⟩)
    · exact Or.inl z
theorem a_las_st2 {base : Nat} {ex : Nat → Nat} {ls ls' : aL} {i : Nat} {v : Value} (h : ∀ (j : Nat) (w : Value), ls'[j]? = some (some w) → (j = i ∧ w = v) ∨ (j ≠ i ∧ j ≠ i + 1 ∧ ls[j]? = some (some w) ∧ ¬ (j + 1 = i ∧ w.category = 2))) :
    ∀ q ∈ a_las base ex 0 ls', q ∈ (i, a_rv base ex v) :: (a_las base ex 0 ls).filter (fun q => !(q.1 == i) && (!(q.1 == i + 1) && !(q.1 + 1 == i && q.2.category == 2))) := by
  rintro ⟨j, w⟩ hq
  obtain ⟨k, u, e1, e2, e3⟩ := (a_las_mem base ex ls' 0 j w).mp hq
  rw [Nat.zero_add] at e1
  subst e1; subst e3
  rcases h j u e2 with ⟨a, b⟩ | ⟨a, a2, b, d⟩
  · subst a; subst b
    exact List.mem_cons_self
  · refine List.mem_cons_of_mem _ (List.mem_filter.mpr ⟨(a_las_mem base ex ls 0 j _).mpr ⟨j, u, by omega, b, rfl⟩, ?_⟩)
    simp only [a_rv_cat, Bool.and_eq_true, Bool.not_eq_true', beq_eq_false_iff_ne, ne_eq, Bool.and_eq_false_iff]
    refine ⟨a, a2, ?_⟩
    by_cases z : j + 1 = i
    · exact Or.inr (fun y => d ⟨z, y⟩)
    · exact Or.inl z
theorem a_sl_set {h : aH} {q : Nat} {x y : aC} (hx : a_nth h q = some x) (he : a_size y = a_size x) : a_sl (h.set q y) = a_sl h := by
  rw [a_nth_eq] at hx
  unfold a_sl
  induction h generalizing q with
  | nil => rfl
  | cons z t ih =>
    cases q with
    | zero =>
      rw [List.getElem?_cons_zero] at hx
      cases hx
      simp only [List.set_cons_zero, List.map_cons, List.sum_cons, he]
    | succ q =>
      rw [List.getElem?_cons_succ] at hx
      simp only [List.set_cons_succ, List.map_cons, List.sum_cons, ih hx]
theorem a_sl_app (h : aH) (y : aC) : a_sl (h ++ [y]) = a_sl h + a_size y := by
  simp [a_sl, List.sum_append]
-- what a walk carries
def a_tys (cA : Nat → ClassId) : List (ClassId × FieldType) := [(cA 0, .int), (cA 1, .byte), (cA 2, .boolean), (cA 3, .object "WhitePaw$Moment")]
def a_isN (w : Cond) : Bool := match w with
  | .fieldLinkNest .. => true
  | .methodLinkNest .. => true
  | _ => false
def a_E (base : Nat) (ex : Nat → Nat) (cA : Nat → ClassId) (D : va_G) (U : State) : Prop :=
  va_K D vwCl (a_tys cA) U ∧ (∀ w ∈ lw_tbl, a_isN w = true → va_Nw w U) ∧ va_AO "WhitePaw$Moment" U ∧ vk_S 4 a_slen a_sbyt ex (fun j => ex (10 + j)) (fun q => base ≤ q) U U.heap ∧ (∀ (j i : Nat) (t : String), a_strs[j]? = some (i, t) → vk_R "WhitePaw$Tokens" i t (ex j) U) ∧ va_Z "java/lang/String" "COMPACT_STRINGS" "Z" (.int 1) (fun q => base ≤ q) U U.heap ∧ va_Z "jdk/internal/util/Preconditions" "SIOOBE_FORMATTER" "Ljava/util/function/BiFunction;" (a_rv base ex (.retAddr 0)) (fun q => base ≤ q) U U.heap ∧ base ≤ U.heap.size
theorem a_E.next {base : Nat} {ex : Nat → Nat} {cA : Nat → ClassId} {D : va_G} {s U : State} {H : Heap} {locs : List Loc} (h : a_E base ex cA D s) (hW : s.WarmedH U.vm) (hU : U.heap = H) (hS : va_S (fun q => base ≤ q) s.heap H locs) : a_E base ex cA D U := by
  obtain ⟨h1, h2, h3, h4, h5, h6, h7, h8⟩ := h
  have hv : s.vm.Alike U.vm := hW.alike
  have hk : ∀ a : Nat, a < s.heap.size → ¬ (base ≤ a) → U.heap[a]? = s.heap[a]? := fun a b1 b2 => by rw [hU]; exact hS.2.1 a b1 b2
  refine ⟨va_K.moved hv h1, fun w hw hn => ?_, va_AO.moved hv h3, (vk_S.moved hv h4).kept hk, fun j i t ht => vk_R.warm hW (h5 j i t ht), (va_Z.moved hv h6).kept hk, (va_Z.moved hv h7).kept hk, by rw [hU]; exact Nat.le_trans h8 hS.1⟩
  have h0 := h2 w hw hn
  cases w with
  | fieldLinkNest => exact va_Nw.warmF hW h0
  | methodLinkNest => exact va_Nw.warmM hW h0
  | _ => cases hn
theorem a_E.calling {base : Nat} {ex : Nat → Nat} {cA : Nat → ClassId} {D : va_G} {U : State} {g : JFrame} {mk : MethodId} {a : Array Value} (h : a_E base ex cA D U) : a_E base ex cA D (U.calling g mk a) := by
  obtain ⟨h1, h2, h3, h4, h5, h6, h7, h8⟩ := h
  have hv : U.vm.Alike (U.calling g mk a).vm := Vm.Alike.refl U.vm
  refine ⟨va_K.moved hv h1, fun w hw hn => ?_, va_AO.moved hv h3, vk_S.moved hv h4, fun j i t ht => vk_R.same (u := U) rfl (h5 j i t ht), va_Z.moved hv h6, va_Z.moved hv h7, h8⟩
  have h0 := h2 w hw hn
  cases w with
  | fieldLinkNest => exact va_Nw.same rfl (u := U) rfl h0
  | methodLinkNest => exact va_Nw.same rfl (u := U) rfl h0
  | _ => cases hn
/-- the script, if a frame has one -/
def a_S (base : Nat) (ex : Nat → Nat) (scr : List Int32) (mi : Nat) (s : State) : Prop := (scr = [] ∧ frT mi < 12) ∨ (va_X (ex 20) scr.length (fun j => scr.getD j 0) s s.heap ∧ ex 20 < s.heap.size ∧ ¬ base ≤ ex 20)
/-- a frame of method mi -/
def a_X (p : Program) (R : Room) (s : State) (m : MethodId) (args : Array Value) (meth : Method) (c : Code) (base : Nat) (ex : Nat → Nat) (cA : Nat → ClassId) (D : va_G) (scr : List Int32) (mi : Nat) : Prop :=
  p.tables.exec = Jvm.exec ∧ c.code = codT mi ∧ c.maxLocals = nlT mi ∧ s.vm.findClass (RT (ownT mi)) = some m.cls ∧ (∀ w ∈ a_big, w.before args s = true) ∧ a_E base ex cA D s ∧ (frT mi ≤ R.frames ∧ loT mi ≤ R.locals) ∧ (iniT mi = true → meth.name = "<init>") ∧ a_S base ex scr mi s
/-- the goal at a frame of the little machine -/
def a_W (p : Program) (l : Launch) (e : Env) (R : Room) (s : State) (m : MethodId) (args : Array Value) (below : List Frame) (meth : Method) (c : Code) (Q : State → Prop) (base : Nat) (ex : Nat → Nat) (cA : Nat → ClassId) (D : va_G) (n0 z0 mi : Nat) (f : aF) : Prop :=
  ∀ (H : Heap) (locs : List Loc) (rls : Array Slot), lv_has rls (nlT mi) (a_las base ex 0 f.2.1) → f.2.1.length = nlT mi → va_P D vwCl (a_wd base ex cA 0 f.2.2.2) H → va_S (fun q => base ≤ q) s.heap H locs → s.heap.size = base + n0 → n0 ≤ f.2.2.2.length → z0 ≤ a_sl f.2.2.2 →
    W p l e R s m args below meth c H locs (f.2.2.2.length - n0) (a_sl f.2.2.2 - z0) Q (F0 m f.1 rls (f.2.2.1.map (a_rv base ex)))

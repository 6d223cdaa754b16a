/-! THE LITTLE MACHINE: frames over a heap of lists; positions for references; tokens (.float) for the script, the words' Strings and their bytes. What it runs, the machine runs (next parts). -/
abbrev aC : Type := (Nat × List Int32) ⊕ ((Nat × List Value) ⊕ List (Option Nat))
abbrev aH : Type := List aC
abbrev aL : Type := List (Option Value)
abbrev aF : Type := Nat × aL × List Value × aH
def a_nth {α : Type} : List α → Nat → Option α
  | [], _ => none
  | a :: _, 0 => some a
  | _ :: l, n + 1 => a_nth l n
theorem a_nth_eq {α : Type} : ∀ (l : List α) (n : Nat), a_nth l n = l[n]?
  | [], n => by simp [a_nth]
  | a :: l, 0 => by simp [a_nth]
  | a :: l, n + 1 => by simp [a_nth, a_nth_eq l n]
def a_in (i : Int32) (n : Nat) : Bool := decide (¬ (i < 0 ∨ n ≤ i.toNatClampNeg))
theorem a_in_of {i : Int32} {n : Nat} (h : a_in i n = true) : vp_in i n := of_decide_eq_true (p := ¬ (i < 0 ∨ n ≤ i.toNatClampNeg)) h
def a_ld (ls : aL) (i : Nat) : Option Value := match a_nth ls i with
  | some (some v) => some v
  | _ => none
def a_setk {α β : Type} : List α → Nat → α → (List α → Option β) → Option β
  | [], _, _, _ => none
  | _ :: l, 0, v, k => k (v :: l)
  | a :: l, n + 1, v, k => a_setk l n v fun l' => k (a :: l')
theorem a_setk_eq {α β : Type} : ∀ (l : List α) (n : Nat) (v : α) (k : List α → Option β), n < l.length → a_setk l n v k = k (l.set n v)
  | [], n, v, k, h => absurd h (Nat.not_lt_zero _)
  | a :: l, 0, v, k, _ => rfl
  | a :: l, n + 1, v, k, h => by
    rw [a_setk, a_setk_eq l n v _ (Nat.lt_of_succ_lt_succ h), List.set_cons_succ]
theorem a_setk_none {α β : Type} : ∀ (l : List α) (n : Nat) (v : α) (k : List α → Option β), l.length ≤ n → a_setk l n v k = none
  | [], n, v, k, _ => rfl
  | a :: l, 0, v, k, h => absurd h (Nat.not_succ_le_zero _)
  | a :: l, n + 1, v, k, h => a_setk_none l n v _ (Nat.le_of_succ_le_succ h)
def a_kk {β : Type} (n : Int) (k : Int32 → Option β) : Option β := match n with
  | .ofNat j => k (nI j)
  | .negSucc j => k (a_k (.negSucc j))
def a_kkl {β : Type} (n : Int) (k : Int64 → Option β) : Option β := match n with
  | .ofNat j => k (lN j)
  | .negSucc j => k (a_kl (.negSucc j))
theorem a_kk_eq {β : Type} (n : Int) (k : Int32 → Option β) : a_kk n k = k (a_k n) := by cases n <;> rfl
theorem a_kkl_eq {β : Type} (n : Int) (k : Int64 → Option β) : a_kkl n k = k (a_kl n) := by cases n <;> rfl
/-- an overwritten half of a long is gone -/
def a_clr {β : Type} (ls : aL) (i : Nat) (k : aL → Option β) : Option β := match i with
  | 0 => k ls
  | j + 1 => match a_nth ls j with
    | some (some (.long _)) => a_setk ls j none k
    | some (some (.double _)) => a_setk ls j none k
    | _ => k ls
def a_st1 {β : Type} (ls : aL) (i : Nat) (v : Value) (k : aL → Option β) : Option β := a_clr ls i fun l => a_setk l i (some v) k
def a_st2 {β : Type} (ls : aL) (i : Nat) (v : Value) (k : aL → Option β) : Option β := a_clr ls i fun l => a_setk l i (some v) fun l' => a_setk l' (i + 1) none k
def a_size (x : aC) : Nat := match x with
  | .inl (_, l) => l.length
  | .inr (.inl (_, l)) => l.length
  | .inr (.inr l) => l.length
def a_sl (h : aH) : Nat := (h.map a_size).sum
def a_tg (pc : Nat) (off : Int) : Nat := ((pc : Int) + off).toNat
def a_slen : List Nat := [4, 7, 6, 4]
def a_sbyt : List (List Int32) := [[108, 111, 117, 100], [107, 110, 111, 99, 107, 101, 114], [101, 114, 114, 97, 110, 100], [114, 117, 108, 101]]
/-- what a value of a type may be put into a field -/
def a_fits (k : Nat) (v : Value) : Bool := match k, v with
  | 0, .int _ => true
  | 1, .long _ => true
  | 2, .ref _ => true
  | 3, .int x => decide (x = nI 0 ∨ x = nI 1)
  | _, _ => false
def a_fin (fin nest : Bool) (mi ci : Nat) : Bool := match fin with
  | false => true
  | true => iniT mi && (!nest && Nat.beq (ownT mi) ci)

def a_exec (mi : Nat) (i : Instr) (len npc : Nat) (ls : aL) (st : List Value) (h : aH) : Option aF := match i with
  | .iadd => (match len, st with
    | 1, .int y :: .int x :: r => some (npc, ls, .int (x + y) :: r, h)
    | _, _ => none)
  | .isub => (match len, st with
    | 1, .int y :: .int x :: r => some (npc, ls, .int (x - y) :: r, h)
    | _, _ => none)
  | .imul => (match len, st with
    | 1, .int y :: .int x :: r => some (npc, ls, .int (x * y) :: r, h)
    | _, _ => none)
  | .iand => (match len, st with
    | 1, .int y :: .int x :: r => some (npc, ls, .int (x &&& y) :: r, h)
    | _, _ => none)
  | .ior => (match len, st with
    | 1, .int y :: .int x :: r => some (npc, ls, .int (x ||| y) :: r, h)
    | _, _ => none)
  | .ixor => (match len, st with
    | 1, .int y :: .int x :: r => some (npc, ls, .int (x ^^^ y) :: r, h)
    | _, _ => none)
  | .ishl => (match len, st with
    | 1, .int y :: .int x :: r => some (npc, ls, .int (x <<< (y &&& 31)) :: r, h)
    | _, _ => none)
  | .ishr => (match len, st with
    | 1, .int y :: .int x :: r => some (npc, ls, .int (x >>> (y &&& 31)) :: r, h)
    | _, _ => none)
  | .iushr => (match len, st with
    | 1, .int y :: .int x :: r => some (npc, ls, .int ((x.toUInt32 >>> (y.toUInt32 &&& Int32.toUInt32 31)).toInt32) :: r, h)
    | _, _ => none)
  | .ladd => (match len, st with
    | 1, .long y :: .long x :: r => some (npc, ls, .long (x + y) :: r, h)
    | _, _ => none)
  | .lmul => (match len, st with
    | 1, .long y :: .long x :: r => some (npc, ls, .long (x * y) :: r, h)
    | _, _ => none)
  | .land => (match len, st with
    | 1, .long y :: .long x :: r => some (npc, ls, .long (x &&& y) :: r, h)
    | _, _ => none)
  | .lor => (match len, st with
    | 1, .long y :: .long x :: r => some (npc, ls, .long (x ||| y) :: r, h)
    | _, _ => none)
  | .lshl => (match len, st with
    | 1, .int y :: .long x :: r => some (npc, ls, .long (x <<< (y.toInt64 &&& 63)) :: r, h)
    | _, _ => none)
  | .lshr => (match len, st with
    | 1, .int y :: .long x :: r => some (npc, ls, .long (x >>> (y.toInt64 &&& 63)) :: r, h)
    | _, _ => none)
  | .lcmp => (match len, st with
    | 1, .long y :: .long x :: r => some (npc, ls, .int (lg_cmp x y) :: r, h)
    | _, _ => none)
  | .i2l => (match len, st with
    | 1, .int x :: r => some (npc, ls, .long x.toInt64 :: r, h)
    | _, _ => none)
  | .l2i => (match len, st with
    | 1, .long x :: r => some (npc, ls, .int x.toInt32 :: r, h)
    | _, _ => none)
  | .i2b => (match len, st with
    | 1, .int x :: r => some (npc, ls, .int x.toInt8.toInt32 :: r, h)
    | _, _ => none)
  | .i2c => (match len, st with
    | 1, .int x :: r => some (npc, ls, .int (x.toUInt32 % 65536).toInt32 :: r, h)
    | _, _ => none)
  | .pop => (match len, st with
    | 1, .int x :: r => some (npc, ls, r, h)
    | _, _ => none)
  | .dup => (match len, st with
    | 1, .int x :: r => some (npc, ls, .int x :: .int x :: r, h)
    | 1, .ref x :: r => some (npc, ls, .ref x :: .ref x :: r, h)
    | _, _ => none)
  | .dup2 => (match len, st with
    | 1, .int x :: .ref y :: r => some (npc, ls, .int x :: .ref y :: .int x :: .ref y :: r, h)
    | _, _ => none)
  | .aload_n k => (match len, a_ld ls k.val with
    | 1, some (.ref q) => some (npc, ls, .ref q :: st, h)
    | 1, some (.float q) => some (npc, ls, .float q :: st, h)
    | _, _ => none)
  | .aload k => (match len, a_ld ls k with
    | 2, some (.ref q) => some (npc, ls, .ref q :: st, h)
    | 2, some (.float q) => some (npc, ls, .float q :: st, h)
    | _, _ => none)
  | .iload_n k => (match len, a_ld ls k.val with
    | 1, some (.int x) => some (npc, ls, .int x :: st, h)
    | _, _ => none)
  | .iload k => (match len, a_ld ls k with
    | 2, some (.int x) => some (npc, ls, .int x :: st, h)
    | _, _ => none)
  | .lload_n k => (match len, a_ld ls k.val with
    | 1, some (.long x) => some (npc, ls, .long x :: st, h)
    | _, _ => none)
  | .lload k => (match len, a_ld ls k with
    | 2, some (.long x) => some (npc, ls, .long x :: st, h)
    | _, _ => none)
  | .istore_n k => (match len, st with
    | 1, .int x :: r => a_st1 ls k.val (.int x) fun ls' => some (npc, ls', r, h)
    | _, _ => none)
  | .istore k => (match len, st with
    | 2, .int x :: r => a_st1 ls k (.int x) fun ls' => some (npc, ls', r, h)
    | _, _ => none)
  | .astore_n k => (match len, st with
    | 1, .ref x :: r => a_st1 ls k.val (.ref x) fun ls' => some (npc, ls', r, h)
    | _, _ => none)
  | .lstore_n k => (match len, st with
    | 1, .long x :: r => a_st2 ls k.val (.long x) fun ls' => some (npc, ls', r, h)
    | _, _ => none)
  | .lstore k => (match len, st with
    | 2, .long x :: r => a_st2 ls k (.long x) fun ls' => some (npc, ls', r, h)
    | _, _ => none)
  | .iinc k n => (match len, a_ld ls k with
    | 3, some (.int x) => a_kk n fun y => a_st1 ls k (.int (x + y)) fun ls' => some (npc, ls', st, h)
    | _, _ => none)
  | .iconst n => (match len with
    | 1 => a_kk n fun y => some (npc, ls, .int y :: st, h)
    | _ => none)
  | .bipush n => (match len, n with
    | 2, .ofNat k => cond (Nat.ble k 127) (some (npc, ls, .int (nI k) :: st, h)) none
    | 2, .negSucc k => cond (Nat.ble k 127) (some (npc, ls, .int (a_k (.negSucc k)) :: st, h)) none
    | _, _ => none)
  | .sipush n => (match len, n with
    | 3, .ofNat k => cond (Nat.ble k 400) (some (npc, ls, .int (nI k) :: st, h)) none
    | _, _ => none)
  | .lconst n => (match len with
    | 1 => some (npc, ls, .long (lN n.val) :: st, h)
    | _ => none)
  | .ldc k => (match len, kT (ownT mi) k, sT (ownT mi) k with
    | 2, some n, _ => a_kk n fun y => some (npc, ls, .int y :: st, h)
    | 2, none, some j => some (npc, ls, .float (UInt32.ofNat j) :: st, h)
    | _, _, _ => none)
  | .ldc_w k => (match len, kT (ownT mi) k with
    | 3, some n => a_kk n fun y => some (npc, ls, .int y :: st, h)
    | _, _ => none)
  | .ldc2_w k => (match len, lT (ownT mi) k with
    | 3, some n => a_kkl n fun y => some (npc, ls, .long y :: st, h)
    | _, _ => none)
  | .getstatic k => (match len, ownT mi, k with
    | 3, 10, 38 => some (npc, ls, .int (nI 1) :: st, h)
    | 3, 10, 1053 => some (npc, ls, .retAddr 0 :: st, h)
    | _, _, _ => none)
  | .getfield k => (match len, st with
    | 3, .ref q :: r => (match fT (ownT mi) k, a_nth h q with
      | some (ci, f, _, _, _), some (.inr (.inl (cj, fs))) => cond (Nat.beq ci cj) (match a_nth fs f with
        | some v => some (npc, ls, v :: r, h)
        | none => none) none
      | _, _ => none)
    | 3, .float j :: r => (match ownT mi, k with
      | 10, 9 => cond (Nat.blt j.toNat 4) (some (npc, ls, .float (UInt32.ofNat (10 + j.toNat)) :: r, h)) none
      | 10, 15 => cond (Nat.blt j.toNat 4) (some (npc, ls, .int (nI 0) :: r, h)) none
      | _, _ => none)
    | _, _ => none)
  | .putfield k => (match len, st with
    | 3, v :: .ref q :: r => (match fT (ownT mi) k, a_nth h q with
      | some (ci, f, nest, fin, ty), some (.inr (.inl (cj, fs))) => cond (Nat.beq ci cj) (cond (a_fits ty v) (cond (a_fin fin nest mi ci) (match a_nth fs f with
        | some _ => some (npc, ls, r, h.set q (.inr (.inl (cj, fs.set f v))))
        | none => none) none) none) none
      | _, _ => none)
    | _, _ => none)
  | .arraylength => (match len, st with
    | 1, .ref q :: r => (match a_nth h q with
      | some (.inl (k, l)) => cond (Nat.blt k 3) (some (npc, ls, .int (nI l.length) :: r, h)) none
      | some (.inr (.inr l)) => some (npc, ls, .int (nI l.length) :: r, h)
      | _ => none)
    | 1, .float j :: r => cond (Nat.ble 10 j.toNat) (match a_nth a_slen (j.toNat - 10) with
      | some n => some (npc, ls, .int (nI n) :: r, h)
      | none => none) none
    | _, _ => none)
  | .ifnull _ => (match len, st with
    | 3, .ref _ :: r => some (npc, ls, r, h)
    | _, _ => none)
  | .new k => (match len, nT (ownT mi) k with
    | 3, some ci => some (npc, ls, .ref h.length :: st, h ++ [.inr (.inl (ci, a_df ci))])
    | _, _ => none)
  | _ => none
/-- a comparison -/
def a_cp (c : ClassFile.Cond) (x y : Int32) : Prop := match c with
  | .eq => x = y
  | .ne => x ≠ y
  | .lt => x < y
  | .ge => y ≤ x
  | .gt => y < x
  | .le => x ≤ y
def a_cb (c : ClassFile.Cond) (x y : Int32) : Bool := match c with
  | .eq => decide (x = y)
  | .ne => decide (x ≠ y)
  | .lt => decide (x < y)
  | .ge => decide (y ≤ x)
  | .gt => decide (y < x)
  | .le => decide (x ≤ y)
theorem a_cb_iff (c : ClassFile.Cond) (x y : Int32) : a_cb c x y = true ↔ a_cp c x y := by cases c <;> simp [a_cb, a_cp]
/-- a branch: its condition and numbers, where it goes -/
def a_cnd (i : Instr) (len : Nat) (tg : Option Nat) (st : List Value) : Option (ClassFile.Cond × Int32 × Int32 × Nat × List Value) := match i with
  | .if_icmp c _ => (match len, tg, st with
    | 3, some t, .int y :: .int x :: r => some (c, x, y, t, r)
    | _, _, _ => none)
  | .ifCond c _ => (match len, tg, st with
    | 3, some t, .int x :: r => some (c, x, 0, t, r)
    | _, _, _ => none)
  | _ => none
/-- a jump; a switch by what is switched on -/
def a_jmp (i : Instr) (len pc : Nat) (tg : Option Nat) (st : List Value) : Option (Nat × List Value) := match i with
  | .goto _ => (match len, tg with
    | 3, some t => some (t, st)
    | _, _ => none)
  | .tableswitch dflt lo hi offs => (match st with
    | .int x :: r => (match (if x.toInt < lo ∨ hi < x.toInt then some dflt else offs[(x.toInt - lo).toNat]?) with
      | some off => cond (decide (0 ≤ (pc : Int) + off)) (some (a_tg pc off, r)) none
      | none => none)
    | _ => none)
  | _ => none
/-- what wants a check: its condition, what comes behind -/
def a_chk (scr : List Int32) (mi : Nat) (i : Instr) (len npc : Nat) (ls : aL) (st : List Value) (h : aH) : Option (Bool × aF) := match i with
  | .iaload => (match len, st with
    | 1, .int i :: .ref q :: r => (match a_nth h q with
      | some (.inl (0, l)) => some (a_in i l.length, (npc, ls, .int (l.getD i.toNatClampNeg 0) :: r, h))
      | _ => none)
    | 1, .int i :: .float j :: r => cond (Nat.beq j.toNat 20) (some (a_in i scr.length, (npc, ls, .int (scr.getD i.toNatClampNeg 0) :: r, h))) none
    | _, _ => none)
  | .arraylength => (match len, st with
    | 1, .float j :: r => cond (Nat.beq j.toNat 20 && Nat.beq (frT mi) 12) (some (true, (npc, ls, .int (nI scr.length) :: r, h))) none
    | _, _ => none)
  | .baload => (match len, st with
    | 1, .int i :: .ref q :: r => (match a_nth h q with
      | some (.inl (1, l)) => some (a_in i l.length, (npc, ls, .int (l.getD i.toNatClampNeg 0) :: r, h))
      | some (.inl (2, l)) => some (a_in i l.length, (npc, ls, .int (l.getD i.toNatClampNeg 0) :: r, h))
      | _ => none)
    | 1, .int i :: .float j :: r => cond (Nat.ble 10 j.toNat) (match a_nth a_slen (j.toNat - 10), a_nth a_sbyt (j.toNat - 10) with
      | some n, some l => some (a_in i n, (npc, ls, .int (l.getD i.toNatClampNeg 0) :: r, h))
      | _, _ => none) none
    | _, _ => none)
  | .aaload => (match len, st with
    | 1, .int i :: .ref q :: r => (match a_nth h q with
      | some (.inr (.inr l)) => (match l[i.toNatClampNeg]? with
        | some (some a) => some (a_in i l.length, (npc, ls, .ref a :: r, h))
        | _ => none)
      | _ => none)
    | _, _ => none)
  | .iastore => (match len, st with
    | 1, .int x :: .int i :: .ref q :: r => (match a_nth h q with
      | some (.inl (0, l)) => some (a_in i l.length, (npc, ls, r, h.set q (.inl (0, l.set i.toNatClampNeg x))))
      | _ => none)
    | _, _ => none)
  | .bastore => (match len, st with
    | 1, .int x :: .int i :: .ref q :: r => (match a_nth h q with
      | some (.inl (1, l)) => some (a_in i l.length, (npc, ls, r, h.set q (.inl (1, l.set i.toNatClampNeg x.toInt8.toInt32))))
      | some (.inl (2, l)) => some (a_in i l.length, (npc, ls, r, h.set q (.inl (2, l.set i.toNatClampNeg (x &&& 1)))))
      | _ => none)
    | _, _ => none)
  | .aastore => (match len, st with
    | 1, .ref a :: .int i :: .ref q :: r => (match a_nth h q, a_nth h a with
      | some (.inr (.inr l)), some (.inr (.inl (2, _))) => some (a_in i l.length, (npc, ls, r, h.set q (.inr (.inr (l.set i.toNatClampNeg (some a))))))
      | _, _ => none)
    | _, _ => none)
  | .newarray t => (match len, st with
    | 2, .int n :: r => (match t with
      | .int => some (decide (¬ n < 0 ∧ n.toNatClampNeg ≤ 1000), (npc, ls, .ref h.length :: r, h ++ [.inl (0, List.replicate n.toNatClampNeg 0)]))
      | .byte => some (decide (¬ n < 0 ∧ n.toNatClampNeg ≤ 1000), (npc, ls, .ref h.length :: r, h ++ [.inl (1, List.replicate n.toNatClampNeg 0)]))
      | .boolean => some (decide (¬ n < 0 ∧ n.toNatClampNeg ≤ 1000), (npc, ls, .ref h.length :: r, h ++ [.inl (2, List.replicate n.toNatClampNeg 0)]))
      | _ => none)
    | _, _ => none)
  | .anewarray k => (match len, st, ownT mi, k with
    | 3, .int n :: r, 3, 13 => some (decide (¬ n < 0 ∧ n.toNatClampNeg ≤ 1000), (npc, ls, .ref h.length :: r, h ++ [.inr (.inr (List.replicate n.toNatClampNeg none))]))
    | _, _, _, _ => none)
  | .idiv => (match len, st with
    | 1, .int y :: .int x :: r => some (decide (¬ y = 0), (npc, ls, .int (x / y) :: r, h))
    | _, _ => none)
  | .irem => (match len, st with
    | 1, .int y :: .int x :: r => some (decide (¬ y = 0), (npc, ls, .int (x - x / y * y) :: r, h))
    | _, _ => none)
  | .ldiv => (match len, st with
    | 1, .long y :: .long x :: r => some (decide (¬ y = 0), (npc, ls, .long (x / y) :: r, h))
    | _, _ => none)
  | .lrem => (match len, st with
    | 1, .long y :: .long x :: r => some (decide (¬ y = 0), (npc, ls, .long (x - x / y * y) :: r, h))
    | _, _ => none)
  | .invokestatic k => (match len, st, cT (ownT mi) k with
    | 3, .int y :: .int x :: r, some (4, _, _, _) => some (Nat.ble 1 (frT mi) && Nat.ble 21 (loT mi) && Nat.ble (r.map fun v => v.category).sum 8, (npc, ls, .int (if x < y then y else x) :: r, h))
    | 3, .int y :: .int x :: r, some (5, _, _, _) => some (Nat.ble 1 (frT mi) && Nat.ble 21 (loT mi) && Nat.ble (r.map fun v => v.category).sum 8, (npc, ls, .int (if y < x then y else x) :: r, h))
    | 3, .long y :: .long x :: r, some (6, _, _, _) => some (Nat.ble 1 (frT mi) && Nat.ble 23 (loT mi) && Nat.ble (r.map fun v => v.category).sum 8, (npc, ls, .long (if y < x then x else y) :: r, h))
    | 3, .int n :: .int dp :: .ref q1 :: .int sp :: .ref q0 :: r, some (7, _, _, _) => (match a_nth h q0, a_nth h q1 with
      | some (.inl (0, l0)), some (.inl (0, l1)) => some (Nat.ble 1 (frT mi) && Nat.ble 60 (loT mi) && Nat.ble (r.map fun v => v.category).sum 8 && decide (sp = 0 ∧ dp = 0 ∧ n = nI l0.length ∧ l0.length = l1.length ∧ l0.length ≤ 1000), (npc, ls, r, h.set q1 (.inl (0, l0))))
      | _, _ => none)
    | _, _, _ => none)
  | .invokespecial k => (match len, st, cT (ownT mi) k with
    | 3, .ref _ :: r, some (3, _, _, _) => some (Nat.ble 1 (frT mi) && Nat.ble 20 (loT mi) && Nat.ble (r.map fun v => v.category).sum 8, (npc, ls, r, h))
    | _, _, _ => none)
  | _ => none
/-- the arguments off the stack: as they were pushed, and what is left -/
def a_pop : Nat → List Value → List Value → Option (List Value × List Value)
  | 0, acc, st => some (acc, st)
  | n + 1, acc, v :: st => a_pop n (v :: acc) st
  | _ + 1, _, [] => none
def a_ent (n : Nat) : List Value → aL
  | [] => List.replicate n none
  | .long x :: vs => some (.long x) :: none :: a_ent (n - 2) vs
  | v :: vs => some v :: a_ent (n - 1) vs
/-- a call of a method of ours: its number, the arguments (the receiver ahead), what is left of the stack -/
def a_cal (mi : Nat) (i : Instr) (len : Nat) (st : List Value) (h : aH) : Option (Nat × List Value × List Value) := match i with
  | .invokevirtual k => (match len, cT (ownT mi) k with
    | 3, some (0, q, n, _) => (match a_pop n [] st with
      | some (as, .ref o :: r) => (match a_nth h o with
        | some (.inr (.inl (cj, _))) => cond (Nat.beq cj (ownT q) && Nat.blt cj 10) (some (q, .ref o :: as, r)) none
        | _ => none)
      | some (as, .float o :: r) => cond (Nat.beq 10 (ownT q) && Nat.blt o.toNat 4) (some (q, .float o :: as, r)) none
      | _ => none)
    | _, _ => none)
  | .invokestatic k => (match len, cT (ownT mi) k with
    | 3, some (1, q, n, _) => (match a_pop n [] st with
      | some (as, r) => some (q, as, r)
      | _ => none)
    | _, _ => none)
  | .invokespecial k => (match len, cT (ownT mi) k with
    | 3, some (2, q, n, _) => (match a_pop n [] st with
      | some (as, .ref o :: r) => some (q, .ref o :: as, r)
      | _ => none)
    | _, _ => none)
  | _ => none
/-- the room and the words that a call wants -/
def a_fit (mi q : Nat) (as r : List Value) : Bool := Nat.ble (frT q + 1) (frT mi) && (Nat.ble (8 + (nlT q + 11) + loT q) (loT mi) && (Nat.ble (r.map fun v => v.category).sum 8 && (Nat.ble (as.map fun v => v.category).sum (nlT q) && as.all fun v => match v with | .double _ => false | _ => true)))
def a_ret (mi : Nat) (i : Instr) (len : Nat) (st : List Value) : Option (Bool × Option Value) := match i with
  | .return_ => (match len, st, retT mi with
    | 1, [], none => some (true, none)
    | _, _, _ => none)
  | .ireturn => (match len, st, retT mi with
    | 1, [.int v], some .int => some (true, some (.int v))
    | 1, [.int v], some .boolean => some (decide (v = 0 ∨ v = 1), some (.int v))
    | 1, [.int v], some .byte => some (decide (v.toInt8.toInt32 = v), some (.int v))
    | 1, [.int v], some .char => some (decide (v.toUInt32.toUInt16.toUInt32.toInt32 = v), some (.int v))
    | _, _, _ => none)
  | .lreturn => (match len, st, retT mi with
    | 1, [.long v], some .long => some (true, some (.long v))
    | _, _, _ => none)
  | .areturn => (match len, st, retT mi with
    | 1, [.ref v], some (.object _) => some (true, some (.ref v))
    | _, _, _ => none)
  | _ => none
/-- one step that is no call and no return -/
def a_stp (scr : List Int32) (mi : Nat) (c : aF) : Option aF := match c with
  | (pc, ls, st, h) => match decT mi pc with
    | none => none
    | some (i, len, npc, tg) => match a_exec mi i len npc ls st h with
      | some c' => some c'
      | none => match a_cnd i len tg st with
        | some (cc, x, y, t, r) => cond (a_cb cc x y) (some (t, ls, r, h)) (some (npc, ls, r, h))
        | none => match a_jmp i len pc tg st with
          | some (t, r) => some (t, ls, r, h)
          | none => match a_chk scr mi i len npc ls st h with
            | some (b, c') => cond b (some c') none
            | none => none
/-- a call: the method, its arguments, where it goes on, the locals, the rest of the stack, the heap -/
def a_call (mi : Nat) (c : aF) : Option (Nat × List Value × Nat × aL × List Value × aH) := match c with
  | (pc, ls, st, h) => match decT mi pc with
    | none => none
    | some (i, len, npc, _) => match a_cal mi i len st h with
      | some (q, as, r) => cond (a_fit mi q as r) (some (q, as, npc, ls, r, h)) none
      | none => none
def a_rtn (mi : Nat) (c : aF) : Option (Option Value × aH) := match c with
  | (pc, _, st, h) => match decT mi pc with
    | none => none
    | some (i, len, _, _) => match a_ret mi i len st with
      | some (b, v) => cond b (some (v, h)) none
      | none => none
/-- a frame, run to its end -/
def a_ev : List Int32 → Nat → Nat → aF → Option (Option Value × aH)
  | _, 0, _, _ => none
  | scr, n + 1, mi, c => match a_stp scr mi c with
    | some c' => a_ev scr n mi c'
    | none => match a_call mi c with
      | some (q, as, npc, ls, r, h) => match a_ev [] n q (0, a_ent (nlT q) as, [], h) with
        | some (v, h') => a_ev scr n mi (npc, ls, v.toList ++ r, h')
        | none => none
      | none => a_rtn mi c


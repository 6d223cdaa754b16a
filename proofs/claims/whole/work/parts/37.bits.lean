/-! sets of SIGNS: what is no subset; Euclid's steps -/
set_option maxHeartbeats 4000000 in
theorem andN : ∀ a, a < 256 → ∀ b, b < 256 → nI a &&& (nI b ^^^ kM1) = nI (a &&& (255 ^^^ b)) := by decide +kernel
set_option maxHeartbeats 4000000 in
theorem pop_sub : ∀ a, a < 256 → ∀ b, b < 256 → a &&& (255 ^^^ b) = 0 → pop a ≤ pop b := by decide +kernel
theorem eu_pos : ∀ (n a b : Nat), 0 < a → 0 < eu n a b
  | 0, a, b, h => h
  | n + 1, a, b, h => by
    show 0 < (if b = 0 then a else eu n b (a % b))
    split
    · exact h
    · exact eu_pos n b (a % b) (by omega)
theorem eu_pos2 (n a b : Nat) (h : 0 < b) : 0 < eu (n + 1) a b := by
  show 0 < (if b = 0 then a else eu n b (a % b))
  rw [if_neg (by omega)]
  exact eu_pos n b (a % b) h
theorem eu_le : ∀ (n a b m : Nat), a ≤ m → b ≤ m → eu n a b ≤ m
  | 0, a, b, m, h, _ => h
  | n + 1, a, b, m, h, h2 => by
    show (if b = 0 then a else eu n b (a % b)) ≤ m
    split
    · exact h
    · exact eu_le n b (a % b) m h2 (Nat.le_trans (Nat.mod_le _ _) h)
/-- in how many of 10^many ways he is let in, by the sets below n -/
def od (le : Nat → Bool) (s p : Nat) : Nat → Nat
  | 0 => 0
  | n + 1 => od le s p n + if n &&& (255 ^^^ s) = 0 ∧ le n = true then (10 - p) ^ pop n * p ^ (pop s - pop n) else 0
theorem od_term {p a b : Nat} (hp : p ≤ 10) (h : a + b ≤ 8) : (10 - p) ^ a * p ^ b ≤ 100000000 := by
  have h1 : (10 - p) ^ a ≤ 10 ^ a := Nat.pow_le_pow_left (by omega) a
  have h2 : p ^ b ≤ 10 ^ b := Nat.pow_le_pow_left hp b
  have h3 : (10 - p) ^ a * p ^ b ≤ 10 ^ a * 10 ^ b := Nat.mul_le_mul h1 h2
  rw [← Nat.pow_add] at h3
  exact Nat.le_trans h3 (Nat.le_trans (Nat.pow_le_pow_right (by decide) h) (by decide))
theorem od_le {le : Nat → Bool} {s p : Nat} (hp : p ≤ 10) (hs : s < 256) : ∀ n, n ≤ 256 → od le s p n ≤ n * 100000000
  | 0, _ => by show 0 ≤ _; omega
  | n + 1, h => by
    have ih := od_le (le := le) hp hs n (by omega)
    show od le s p n + (if _ then _ else _) ≤ _
    split
    · rename_i hc
      have h1 := pop_sub n (by omega) s hs hc.1
      have h2 := pop_le s
      have h3 := od_term (p := p) (a := pop n) (b := pop s - pop n) hp (by omega)
      rw [Nat.succ_mul]
      exact Nat.add_le_add ih h3
    · rw [Nat.succ_mul]
      exact Nat.le_trans ih (Nat.le_add_right _ _)

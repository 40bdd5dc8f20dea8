/-! the bits of a key -/
theorem bit32 {a c t : Nat} (hc : c < 32) : (a * 32 + c).testBit t = if t < 5 then c.testBit t else a.testBit (t - 5) := by
  rw [Nat.mul_comm a 32, show (32 : Nat) = 2 ^ 5 from rfl, Nat.testBit_two_pow_mul_add a (show c < 2 ^ 5 from hc)]
theorem lk_bit {f : Int → Int} : ∀ (n t : Nat), okF f n → (lk f n).testBit t = if t < 5 * n then (f ((n - 1 - t / 5 : Nat) : Int)).toNat.testBit (t % 5) else false
  | 0, t, _ => by
    rw [if_neg (by omega)]
    exact Nat.zero_testBit t
  | n + 1, t, ok => by
    have b := ok n (by omega) (by omega)
    unfold lk
    rw [bit32 (by omega)]
    by_cases z : t < 5
    · rw [if_pos z, if_pos (by omega), show n + 1 - 1 - t / 5 = n by omega, show t % 5 = t by omega]
    · rw [if_neg z, lk_bit n (t - 5) (fun k a c => ok k a (by omega))]
      by_cases z2 : t < 5 * (n + 1)
      · rw [if_pos z2, if_pos (by omega), show n - 1 - (t - 5) / 5 = n + 1 - 1 - t / 5 by omega, show (t - 5) % 5 = t % 5 by omega]
      · rw [if_neg z2, if_neg (by omega)]
theorem key_bit {f : Int → Int} {n : Nat} (hn : n ≤ 8) (ok : okF f n) (t : Nat) : (keyN f n).testBit t = if t < 40 then (if t < 5 * n then (f ((n - 1 - t / 5 : Nat) : Int)).toNat.testBit (t % 5) else false) else n.testBit (t - 40) := by
  have hl := (key_lt hn ok).1
  unfold keyN
  rw [Nat.mul_comm n, show (1099511627776 : Nat) = 2 ^ 40 from rfl, Nat.testBit_two_pow_mul_add n (show lk f n < 2 ^ 40 from hl), lk_bit n t ok]

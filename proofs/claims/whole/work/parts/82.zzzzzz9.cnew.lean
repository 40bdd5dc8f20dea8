/-! bits that change places -/
theorem swp_bit {X s t : Nat} (hs : 5 ≤ s) : (X ^^^ ((((X >>> s) ^^^ (X >>> (s - 5))) &&& 31) <<< s) ^^^ ((((X >>> s) ^^^ (X >>> (s - 5))) &&& 31) <<< (s - 5))).testBit t = if s ≤ t ∧ t < s + 5 then X.testBit (t - 5) else if s - 5 ≤ t ∧ t < s then X.testBit (t + 5) else X.testBit t := by
  rw [Nat.testBit_xor, Nat.testBit_xor, Nat.testBit_shiftLeft, Nat.testBit_shiftLeft, Nat.testBit_and, Nat.testBit_and, Nat.testBit_xor, Nat.testBit_xor, Nat.testBit_shiftRight, Nat.testBit_shiftRight, Nat.testBit_shiftRight, Nat.testBit_shiftRight, show (31 : Nat) = 2 ^ 5 - 1 from rfl, Nat.testBit_two_pow_sub_one, Nat.testBit_two_pow_sub_one]
  by_cases z1 : s ≤ t ∧ t < s + 5
  · rw [if_pos z1, show s + (t - s) = t by omega, show s - 5 + (t - s) = t - 5 by omega]
    simp [z1.1, show t - s < 5 by omega, show s - 5 ≤ t by omega, show ¬ t - (s - 5) < 5 by omega]
  · rw [if_neg z1]
    by_cases z2 : s - 5 ≤ t ∧ t < s
    · rw [if_pos z2, show s + (t - (s - 5)) = t + 5 by omega, show s - 5 + (t - (s - 5)) = t by omega]
      simp [z2.1, show ¬ s ≤ t by omega, show t - (s - 5) < 5 by omega]
      cases X.testBit t <;> cases X.testBit (t + 5) <;> rfl
    · rw [if_neg z2]
      have a1 : (decide (t ≥ s) && decide (t - s < 5)) = false := by
        simp
        omega
      have a2 : (decide (t ≥ s - 5) && decide (t - (s - 5) < 5)) = false := by
        simp
        omega
      by_cases y1 : t ≥ s
      · have y2 : ¬ t - s < 5 := by omega
        have y3 : ¬ t - (s - 5) < 5 := by omega
        simp [y2, y3]
      · have y3 : ¬ t ≥ s - 5 := by omega
        simp [y1, y3]

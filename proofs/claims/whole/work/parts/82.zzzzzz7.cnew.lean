/-! the letters of a row with one put in -/
theorem ins_lk {f : Int → Int} {n i c : Nat} (ok : okF f n) (hi : i ≤ n) (hc : c < 26) : ((((lk f n >>> (5 * (n - i))) <<< 5) ||| c) <<< (5 * (n - i))) ||| (lk f n % 2 ^ (5 * (n - i))) = lk (fun k => if k < (i : Int) then f k else if k = (i : Int) then (c : Int) else f (k - 1)) (n + 1) := by
  have ok2 : okF (fun k => if k < (i : Int) then f k else if k = (i : Int) then (c : Int) else f (k - 1)) (n + 1) := fun k a b => by
    show 0 ≤ (if k < (i : Int) then f k else if k = (i : Int) then (c : Int) else f (k - 1)) ∧ (if k < (i : Int) then f k else if k = (i : Int) then (c : Int) else f (k - 1)) ≤ 25
    split
    · exact ok k a (by omega)
    · split
      · omega
      · exact ok (k - 1) (by omega) (by omega)
  apply Nat.eq_of_testBit_eq
  intro t
  rw [lk_bit (n + 1) t ok2, Nat.testBit_or, Nat.testBit_mod_two_pow, Nat.testBit_shiftLeft, Nat.testBit_or, Nat.testBit_shiftLeft, Nat.testBit_shiftRight]
  by_cases z1 : t < 5 * (n - i)
  · rw [if_pos (show t < 5 * (n + 1) by omega), lk_bit n t ok, if_pos (show t < 5 * n by omega)]
    show _ = (if ((n + 1 - 1 - t / 5 : Nat) : Int) < (i : Int) then _ else if ((n + 1 - 1 - t / 5 : Nat) : Int) = (i : Int) then _ else f (((n + 1 - 1 - t / 5 : Nat) : Int) - 1)).toNat.testBit _
    rw [if_neg (by omega), if_neg (by omega), show ((n + 1 - 1 - t / 5 : Nat) : Int) - 1 = ((n - 1 - t / 5 : Nat) : Int) by omega]
    simp [z1, show ¬ t ≥ 5 * (n - i) by omega]
  · by_cases z2 : t < 5 * (n - i) + 5
    · rw [if_pos (show t < 5 * (n + 1) by omega)]
      show _ = (if ((n + 1 - 1 - t / 5 : Nat) : Int) < (i : Int) then _ else if ((n + 1 - 1 - t / 5 : Nat) : Int) = (i : Int) then (c : Int) else _).toNat.testBit _
      rw [if_neg (by omega), if_pos (by omega), show t % 5 = t - 5 * (n - i) by omega]
      simp [show ¬ t < 5 * (n - i) by omega, show t ≥ 5 * (n - i) by omega, show ¬ t - 5 * (n - i) ≥ 5 by omega]
    · have cz : c.testBit (t - 5 * (n - i)) = false := Nat.testBit_lt_two_pow (Nat.lt_of_lt_of_le (show c < 2 ^ 5 by omega) (Nat.pow_le_pow_right (by decide) (by omega)))
      rw [cz, show 5 * (n - i) + (t - 5 * (n - i) - 5) = t - 5 by omega, lk_bit n (t - 5) ok]
      by_cases z3 : t < 5 * (n + 1)
      · rw [if_pos z3, if_pos (show t - 5 < 5 * n by omega)]
        show _ = (if ((n + 1 - 1 - t / 5 : Nat) : Int) < (i : Int) then f ((n + 1 - 1 - t / 5 : Nat) : Int) else _).toNat.testBit _
        rw [if_pos (by omega), show n - 1 - (t - 5) / 5 = n + 1 - 1 - t / 5 by omega, show (t - 5) % 5 = t % 5 by omega]
        simp [show ¬ t < 5 * (n - i) by omega, show t ≥ 5 * (n - i) by omega, show t - 5 * (n - i) ≥ 5 by omega]
      · rw [if_neg z3, if_neg (show ¬ t - 5 < 5 * n by omega)]
        simp [show ¬ t < 5 * (n - i) by omega]

/-! the letters of a row with one left out -/
theorem del_lk {f : Int → Int} {n i : Nat} (ok : okF f n) (hi : i < n) : ((lk f n >>> (5 * (n - 1 - i) + 5)) <<< (5 * (n - 1 - i))) ||| (lk f n % 2 ^ (5 * (n - 1 - i))) = lk (fun k => f (if k < (i : Int) then k else k + 1)) (n - 1) := by
  have ok2 : okF (fun k => f (if k < (i : Int) then k else k + 1)) (n - 1) := fun k a b => by
    show 0 ≤ f (if k < (i : Int) then k else k + 1) ∧ f (if k < (i : Int) then k else k + 1) ≤ 25
    split
    · exact ok k a (by omega)
    · exact ok (k + 1) (by omega) (by omega)
  apply Nat.eq_of_testBit_eq
  intro t
  rw [lk_bit (n - 1) t ok2, Nat.testBit_or, Nat.testBit_mod_two_pow, Nat.testBit_shiftLeft, Nat.testBit_shiftRight]
  by_cases z1 : t < 5 * (n - 1 - i)
  · rw [if_pos (show t < 5 * (n - 1) by omega), lk_bit n t ok, if_pos (show t < 5 * n by omega)]
    show _ = (f (if ((n - 1 - 1 - t / 5 : Nat) : Int) < (i : Int) then _ else ((n - 1 - 1 - t / 5 : Nat) : Int) + 1)).toNat.testBit _
    rw [if_neg (by omega), show ((n - 1 - 1 - t / 5 : Nat) : Int) + 1 = ((n - 1 - t / 5 : Nat) : Int) by omega]
    simp [z1, show ¬ t ≥ 5 * (n - 1 - i) by omega]
  · rw [show 5 * (n - 1 - i) + 5 + (t - 5 * (n - 1 - i)) = t + 5 by omega, lk_bit n (t + 5) ok]
    by_cases z3 : t < 5 * (n - 1)
    · rw [if_pos z3, if_pos (show t + 5 < 5 * n by omega)]
      show _ = (f (if ((n - 1 - 1 - t / 5 : Nat) : Int) < (i : Int) then ((n - 1 - 1 - t / 5 : Nat) : Int) else _)).toNat.testBit _
      rw [if_pos (by omega), show n - 1 - (t + 5) / 5 = n - 1 - 1 - t / 5 by omega, show (t + 5) % 5 = t % 5 by omega]
      simp [z1, show t ≥ 5 * (n - 1 - i) by omega]
    · rw [if_neg z3, if_neg (show ¬ t + 5 < 5 * n by omega)]
      simp [z1]

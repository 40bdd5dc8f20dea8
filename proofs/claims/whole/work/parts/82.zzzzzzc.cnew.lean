/-! keys of rows with one left out, with two that change places -/
theorem lxor_nat {a b : Nat} (ha : a < 9223372036854775808) (hb : b < 9223372036854775808) : lxor (a : Int) (b : Int) = ((a ^^^ b : Nat) : Int) := by
  unfold lxor
  have h3 : a ^^^ b < 2 ^ 63 := Nat.xor_lt_two_pow ha hb
  refine tL _ ?_ h3
  show ((Int64.ofInt (a : Int)).toBitVec ^^^ (Int64.ofInt (b : Int)).toBitVec).toNat = _
  rw [BitVec.toNat_xor, natOfL a (by omega), natOfL b (by omega)]
theorem low_u {f : Int → Int} {n s : Nat} (hn : n ≤ 8) (ok : okF f n) (hs : 5 ≤ s) (hs2 : s + 5 ≤ 40) : ((lk f n >>> s) ^^^ (lk f n >>> (s - 5))) &&& 31 = ((keyN f n >>> s) ^^^ (keyN f n >>> (s - 5))) &&& 31 := by
  have e : ∀ t, t < 40 → (lk f n).testBit t = (keyN f n).testBit t := fun t ht => by
    rw [key_bit hn ok, lk_bit n t ok, if_pos ht]
  apply Nat.eq_of_testBit_eq
  intro t
  rw [Nat.testBit_and, Nat.testBit_and, Nat.testBit_xor, Nat.testBit_xor, Nat.testBit_shiftRight, Nat.testBit_shiftRight, Nat.testBit_shiftRight, Nat.testBit_shiftRight, show (31 : Nat) = 2 ^ 5 - 1 from rfl, Nat.testBit_two_pow_sub_one]
  by_cases z : t < 5
  · rw [e _ (by omega), e _ (by omega)]
  · simp [z]
theorem swp_key {f : Int → Int} {n i : Nat} (hn : n ≤ 8) (ok : okF f n) (hi : i + 1 < n) : (keyN f n ^^^ ((((keyN f n >>> (5 * (n - 1 - i))) ^^^ (keyN f n >>> (5 * (n - 1 - i) - 5))) &&& 31) <<< (5 * (n - 1 - i))) ^^^ ((((keyN f n >>> (5 * (n - 1 - i))) ^^^ (keyN f n >>> (5 * (n - 1 - i) - 5))) &&& 31) <<< (5 * (n - 1 - i) - 5))) = keyN (fun k => if k = (i : Int) then f ((i : Int) + 1) else if k = (i : Int) + 1 then f i else f k) n := by
  have ok2 : okF (fun k => if k = (i : Int) then f ((i : Int) + 1) else if k = (i : Int) + 1 then f i else f k) n := fun k a b => by
    show 0 ≤ (if k = (i : Int) then f ((i : Int) + 1) else if k = (i : Int) + 1 then f i else f k) ∧ (if k = (i : Int) then f ((i : Int) + 1) else if k = (i : Int) + 1 then f i else f k) ≤ 25
    split
    · exact ok _ (by omega) (by omega)
    · split
      · exact ok _ (by omega) (by omega)
      · exact ok k a b
  apply Nat.eq_of_testBit_eq
  intro t
  rw [swp_bit (by omega), key_bit hn ok2]
  by_cases z1 : 5 * (n - 1 - i) ≤ t ∧ t < 5 * (n - 1 - i) + 5
  · rw [if_pos z1, if_pos (show t < 40 by omega), if_pos (show t < 5 * n by omega), key_bit hn ok, if_pos (show t - 5 < 40 by omega), if_pos (show t - 5 < 5 * n by omega)]
    show _ = (if ((n - 1 - t / 5 : Nat) : Int) = (i : Int) then f ((i : Int) + 1) else _).toNat.testBit _
    rw [if_pos (by omega), show ((n - 1 - (t - 5) / 5 : Nat) : Int) = (i : Int) + 1 by omega, show (t - 5) % 5 = t % 5 by omega]
  · rw [if_neg z1]
    by_cases z2 : 5 * (n - 1 - i) - 5 ≤ t ∧ t < 5 * (n - 1 - i)
    · rw [if_pos z2, if_pos (show t < 40 by omega), if_pos (show t < 5 * n by omega), key_bit hn ok, if_pos (show t + 5 < 40 by omega), if_pos (show t + 5 < 5 * n by omega)]
      show _ = (if ((n - 1 - t / 5 : Nat) : Int) = (i : Int) then _ else if ((n - 1 - t / 5 : Nat) : Int) = (i : Int) + 1 then f i else _).toNat.testBit _
      rw [if_neg (by omega), if_pos (by omega), show ((n - 1 - (t + 5) / 5 : Nat) : Int) = (i : Int) by omega, show (t + 5) % 5 = t % 5 by omega]
    · rw [if_neg z2, key_bit hn ok]
      by_cases z3 : t < 40
      · rw [if_pos z3, if_pos z3]
        by_cases z4 : t < 5 * n
        · rw [if_pos z4, if_pos z4]
          show _ = (if ((n - 1 - t / 5 : Nat) : Int) = (i : Int) then _ else if ((n - 1 - t / 5 : Nat) : Int) = (i : Int) + 1 then _ else f ((n - 1 - t / 5 : Nat) : Int)).toNat.testBit _
          rw [if_neg (by omega), if_neg (by omega)]
        · rw [if_neg z4, if_neg z4]
      · rw [if_neg z3, if_neg z3]

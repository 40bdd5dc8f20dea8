/-! the key of a row with one other letter -/
theorem rep_key {f : Int → Int} {n i c : Nat} (hn : n ≤ 8) (ok : okF f n) (hi : i < n) (hc : c < 26) : ((keyN f n ^^^ (keyN f n &&& 31 <<< (5 * (n - 1 - i)))) ||| c <<< (5 * (n - 1 - i))) = keyN (fun k => if k = (i : Int) then (c : Int) else f k) n := by
  have ok2 : okF (fun k => if k = (i : Int) then (c : Int) else f k) n := fun k a b => by
    show 0 ≤ (if k = (i : Int) then (c : Int) else f k) ∧ (if k = (i : Int) then (c : Int) else f k) ≤ 25
    split
    · omega
    · exact ok k a b
  apply Nat.eq_of_testBit_eq
  intro t
  rw [Bool.eq_iff_iff, Nat.testBit_or, Bool.or_eq_true, minus_test, Nat.testBit_shiftLeft, Nat.testBit_shiftLeft, show (31 : Nat) = 2 ^ 5 - 1 from rfl, Nat.testBit_two_pow_sub_one, key_bit hn ok2, key_bit hn ok]
  by_cases z : 5 * (n - 1 - i) ≤ t ∧ t < 5 * (n - 1 - i) + 5
  · have e : ((n - 1 - t / 5 : Nat) : Int) = (i : Int) := by omega
    have e2 : t % 5 = t - 5 * (n - 1 - i) := by omega
    rw [if_pos (show t < 40 by omega), if_pos (show t < 5 * n by omega), if_pos (show t < 40 by omega), if_pos (show t < 5 * n by omega), e2]
    show _ ↔ (if ((n - 1 - t / 5 : Nat) : Int) = (i : Int) then (c : Int) else _).toNat.testBit _ = true
    rw [if_pos e]
    simp [z.1, show t - 5 * (n - 1 - i) < 5 by omega]
  · have e3 : ¬ (decide (t ≥ 5 * (n - 1 - i)) && decide (t - 5 * (n - 1 - i) < 5)) = true := by
      simp
      omega
    have e4 : ¬ (decide (t ≥ 5 * (n - 1 - i)) && c.testBit (t - 5 * (n - 1 - i))) = true := by
      by_cases z1 : t ≥ 5 * (n - 1 - i)
      · have : c.testBit (t - 5 * (n - 1 - i)) = false := Nat.testBit_lt_two_pow (Nat.lt_of_lt_of_le (show c < 2 ^ 5 by omega) (Nat.pow_le_pow_right (by decide) (by omega)))
        rw [this]
        simp
      · simp [z1]
    have e5 : ∀ (h : t < 5 * n), (if ((n - 1 - t / 5 : Nat) : Int) = (i : Int) then (c : Int) else f ((n - 1 - t / 5 : Nat) : Int)) = f ((n - 1 - t / 5 : Nat) : Int) := fun h => if_neg (by omega)
    constructor
    · rintro (y | y)
      · have y := y.1
        by_cases z1 : t < 40
        · rw [if_pos z1] at y ⊢
          by_cases z2 : t < 5 * n
          · rw [if_pos z2] at y ⊢
            show (if ((n - 1 - t / 5 : Nat) : Int) = (i : Int) then (c : Int) else f ((n - 1 - t / 5 : Nat) : Int)).toNat.testBit (t % 5) = true
            rw [e5 z2]; exact y
          · rw [if_neg z2] at y; cases y
        · rw [if_neg z1] at y ⊢; exact y
      · exact absurd y e4
    · intro y
      refine Or.inl ⟨?_, e3⟩
      by_cases z1 : t < 40
      · rw [if_pos z1] at y ⊢
        by_cases z2 : t < 5 * n
        · rw [if_pos z2] at y ⊢
          have y : (if ((n - 1 - t / 5 : Nat) : Int) = (i : Int) then (c : Int) else f ((n - 1 - t / 5 : Nat) : Int)).toNat.testBit (t % 5) = true := y
          rw [e5 z2] at y; exact y
        · rw [if_neg z2] at y; cases y
      · rw [if_neg z1] at y ⊢; exact y

/-! longs as sets of bits, keys -/
theorem tL (z : Int64) {m : Nat} (h : z.toBitVec.toNat = m) (hm : m < 9223372036854775808) : z.toInt = (m : Int) := by
  show z.toBitVec.toInt = _
  rw [BitVec.toInt_eq_toNat_of_lt (by rw [h]; omega), h]
theorem natOfL (x : Nat) (hx : x < 18446744073709551616) : (Int64.ofInt (x : Int)).toBitVec.toNat = x := by
  show (BitVec.ofInt 64 (x : Int)).toNat = _
  rw [BitVec.ofInt_natCast, BitVec.toNat_ofNat, Nat.mod_eq_of_lt (by omega)]
theorem sh63 : ∀ s : Fin 64, ((Int32.ofNat s.val).toInt64 &&& 63).toBitVec.smod 64 = BitVec.ofNat 64 s.val := by decide
theorem ush63 : ∀ s : Fin 64, ((Int32.ofNat s.val).toInt64.toUInt64 &&& Int64.toUInt64 63).toBitVec % 64 = BitVec.ofNat 64 s.val := by decide
theorem lshl_nat {a s : Nat} (ha : a <<< s < 9223372036854775808) (hs : s < 64) : lshl (a : Int) (s : Int) = ((a <<< s : Nat) : Int) := by
  unfold lshl
  rw [ofNatI]
  have h3 : a ≤ a <<< s := Nat.le_shiftLeft
  refine tL _ ?_ ha
  show ((Int64.ofInt (a : Int)).toBitVec <<< (((Int32.ofNat s).toInt64 &&& 63).toBitVec.smod 64)).toNat = _
  rw [sh63 ⟨s, hs⟩, BitVec.shiftLeft_eq', BitVec.toNat_shiftLeft, natOfL a (Nat.lt_of_le_of_lt h3 (by omega)), BitVec.toNat_ofNat, Nat.mod_eq_of_lt (show s < 2 ^ 64 by omega), Nat.mod_eq_of_lt (by omega)]
theorem lushr_nat {a s : Nat} (ha : a < 9223372036854775808) (hs : s < 64) : lushr (a : Int) (s : Int) = ((a >>> s : Nat) : Int) := by
  unfold lushr
  rw [ofNatI]
  have h3 : a >>> s ≤ a := Nat.shiftRight_le a s
  refine tL _ ?_ (Nat.lt_of_le_of_lt h3 ha)
  show ((Int64.ofInt (a : Int)).toBitVec >>> (((Int32.ofNat s).toInt64.toUInt64 &&& Int64.toUInt64 63).toBitVec % 64)).toNat = _
  rw [ush63 ⟨s, hs⟩, BitVec.ushiftRight_eq', BitVec.toNat_ushiftRight, natOfL a (by omega), BitVec.toNat_ofNat, Nat.mod_eq_of_lt (show s < 2 ^ 64 by omega)]
theorem l2i_nat {a : Nat} (ha : a < 2147483648) : l2i (a : Int) = (a : Int) := okI ⟨by omega, by omega⟩
theorem and_l2i (a : Nat) : iand (l2i (a : Int)) 31 = ((a % 32 : Nat) : Int) := by
  unfold l2i
  unfold iand
  rw [Int32.ofInt_toInt]
  refine tI _ ?_ (by omega)
  show ((Int32.ofInt (a : Int)).toBitVec &&& BitVec.ofInt 32 31).toNat = _
  rw [BitVec.toNat_and, natOf]
  show ((a : Int) % 4294967296).toNat &&& (2 ^ 5 - 1) = _
  rw [Nat.and_two_pow_sub_one_eq_mod]
  omega
theorem shl_le {s : Nat} (hs : s < 40) : 1 <<< s < 1099511627776 := by
  rw [Nat.one_shiftLeft]
  exact Nat.pow_lt_pow_right (by decide) (show s < 40 from hs)
/-- the letters of a row as one number, five bits each -/
def lk (f : Int → Int) : Nat → Nat
  | 0 => 0
  | k + 1 => lk f k * 32 + (f k).toNat
def keyN (f : Int → Int) (n : Nat) : Nat := n * 1099511627776 + lk f n
theorem lk_lt {f : Int → Int} : ∀ {n : Nat}, (∀ k : Int, 0 ≤ k → k < n → 0 ≤ f k ∧ f k ≤ 25) → lk f n < 32 ^ n
  | 0, _ => Nat.zero_lt_one
  | n + 1, h => by
    have ih := lk_lt (f := f) (n := n) (fun k a b => h k a (by omega))
    have hf := h n (by omega) (by omega)
    show lk f n * 32 + (f n).toNat < 32 ^ (n + 1)
    rw [Nat.pow_succ]
    have : (f n).toNat ≤ 25 := by omega
    omega
theorem lk_congr {f f' : Int → Int} : ∀ {n : Nat}, (∀ k : Int, 0 ≤ k → k < n → f k = f' k) → lk f n = lk f' n
  | 0, _ => rfl
  | n + 1, h => by
    show lk f n * 32 + (f n).toNat = lk f' n * 32 + (f' n).toNat
    rw [lk_congr (n := n) (fun k a b => h k a (by omega)), h n (by omega) (by omega)]
theorem lk_inj {f f' : Int → Int} : ∀ {n : Nat}, (∀ k : Int, 0 ≤ k → k < n → 0 ≤ f k ∧ f k ≤ 25) → (∀ k : Int, 0 ≤ k → k < n → 0 ≤ f' k ∧ f' k ≤ 25) → lk f n = lk f' n → ∀ k : Int, 0 ≤ k → k < n → f k = f' k
  | 0, _, _, _, k, a, b => by omega
  | n + 1, h, h', e, k, a, b => by
    have e2 : lk f n * 32 + (f n).toNat = lk f' n * 32 + (f' n).toNat := e
    have hf := h n (by omega) (by omega)
    have hf' := h' n (by omega) (by omega)
    by_cases hk : k = n
    · rw [hk]; omega
    · exact lk_inj (n := n) (fun k a b => h k a (by omega)) (fun k a b => h' k a (by omega)) (by omega) k a (by omega)
theorem lk_at {f : Int → Int} : ∀ {n : Nat}, (∀ k : Int, 0 ≤ k → k < n → 0 ≤ f k ∧ f k ≤ 25) → ∀ i : Nat, i < n → lk f n / 32 ^ (n - 1 - i) % 32 = (f i).toNat
  | 0, _, i, hi => by omega
  | n + 1, h, i, hi => by
    have hf := h n (by omega) (by omega)
    show (lk f n * 32 + (f n).toNat) / 32 ^ (n + 1 - 1 - i) % 32 = _
    by_cases e : i = n
    · subst e
      rw [show i + 1 - 1 - i = 0 by omega, Nat.pow_zero, Nat.div_one]
      omega
    · have ih := lk_at (n := n) (fun k a b => h k a (by omega)) i (by omega)
      rw [show n + 1 - 1 - i = (n - 1 - i) + 1 by omega, Nat.pow_succ, Nat.mul_comm (32 ^ (n - 1 - i)) 32, ← Nat.div_div_eq_div_mul]
      rw [show (lk f n * 32 + (f n).toNat) / 32 = lk f n by omega]
      exact ih
theorem key_inj {f f' : Int → Int} {n n' : Nat} (hn : n ≤ 8) (hn' : n' ≤ 8) (h : ∀ k : Int, 0 ≤ k → k < n → 0 ≤ f k ∧ f k ≤ 25) (h' : ∀ k : Int, 0 ≤ k → k < n' → 0 ≤ f' k ∧ f' k ≤ 25) (e : keyN f n = keyN f' n') : n = n' ∧ ∀ k : Int, 0 ≤ k → k < n → f k = f' k := by
  have b : ∀ m : Nat, m ≤ 8 → 32 ^ m ≤ 1099511627776 := fun m hm => Nat.le_trans (Nat.pow_le_pow_right (by decide) hm) (by decide)
  have l1 := lk_lt h
  have l2 := lk_lt h'
  have b1 := b n hn
  have b2 := b n' hn'
  unfold keyN at e
  have en : n = n' := by omega
  subst en
  exact ⟨rfl, lk_inj h h' (by omega)⟩
theorem key_lt {f : Int → Int} {n : Nat} (hn : n ≤ 8) (h : ∀ k : Int, 0 ≤ k → k < n → 0 ≤ f k ∧ f k ≤ 25) : lk f n < 1099511627776 ∧ keyN f n < 9895604649984 := by
  have l1 := lk_lt h
  have b1 : 32 ^ n ≤ 1099511627776 := Nat.le_trans (Nat.pow_le_pow_right (by decide) hn) (by decide)
  unfold keyN
  omega
theorem or_low {a b k : Nat} (hb : b < 2 ^ k) : a <<< k ||| b = a * 2 ^ k + b := by
  rw [Nat.shiftLeft_eq, Nat.mul_comm, ← Nat.two_pow_add_eq_or_of_lt hb]

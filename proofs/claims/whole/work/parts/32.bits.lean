/-! bytes -/
theorem tI (z : Int32) {m : Nat} (h : z.toBitVec.toNat = m) (hm : m < 2147483648) : z.toInt = (m : Int) := by
  show z.toBitVec.toInt = _
  rw [BitVec.toInt_eq_toNat_of_lt (by rw [h]; omega), h]
theorem iand_z (z : Int32) : iand z.toInt 255 = ((z.toBitVec.toNat % 256 : Nat) : Int) := by
  unfold iand
  rw [Int32.ofInt_toInt]
  refine tI _ ?_ (by omega)
  show (z.toBitVec &&& BitVec.ofInt 32 255).toNat = _
  rw [BitVec.toNat_and]
  show z.toBitVec.toNat &&& (2 ^ 8 - 1) = _
  rw [Nat.and_two_pow_sub_one_eq_mod]
theorem natOf (x : Int) : (Int32.ofInt x).toBitVec.toNat = (x % 4294967296).toNat := by
  show (BitVec.ofInt 32 x).toNat = _
  rw [BitVec.toNat_ofInt]
  rfl
theorem iand_255 {x : Int} (h : inI x) : iand x 255 = x % 256 := by
  have e := iand_z (Int32.ofInt x)
  rw [okI h, natOf] at e
  rw [e]
  omega
theorem ishr_div {v : Int} (hv : inI v) {s : Nat} (hs : s < 32) : ishr v (s : Int) = v / ((2 ^ s : Nat) : Int) := by
  unfold ishr
  rw [ofNatI]
  show ((Int32.ofInt v).toBitVec.sshiftRight' ((Int32.ofNat s &&& 31).toBitVec.smod 32)).toInt = _
  rw [sh31 ⟨s, hs⟩]
  show ((Int32.ofInt v).toBitVec.sshiftRight (BitVec.ofNat 32 s).toNat).toInt = _
  rw [BitVec.toInt_sshiftRight, BitVec.toNat_ofNat, Nat.mod_eq_of_lt (by omega)]
  show (Int32.ofInt v).toInt >>> s = _
  rw [okI hv, Int.shiftRight_eq_div_pow]
theorem i2b_bmod {x : Int} (h : inI x) : i2b x = x.bmod 256 := by
  unfold i2b
  rw [Int8.toInt_toInt32, Int32.toInt_toInt8, okI h]
theorem ush31 : ∀ s : Fin 32, ((Int32.ofNat s.val).toUInt32 &&& Int32.toUInt32 31).toBitVec % 32 = BitVec.ofNat 32 s.val := by decide
theorem iushr_nat (v : Int) {s : Nat} (hs : s < 32) : ((Int32.ofInt v).toUInt32 >>> ((Int32.ofInt (s : Int)).toUInt32 &&& Int32.toUInt32 31)).toInt32.toBitVec.toNat = (v % 4294967296).toNat / 2 ^ s := by
  rw [ofNatI]
  show ((Int32.ofInt v).toBitVec >>> (((Int32.ofNat s).toUInt32 &&& Int32.toUInt32 31).toBitVec % 32)).toNat = _
  rw [ush31 ⟨s, hs⟩, BitVec.ushiftRight_eq', BitVec.toNat_ushiftRight, natOf, BitVec.toNat_ofNat, Nat.mod_eq_of_lt (by omega), Nat.shiftRight_eq_div_pow]
theorem iand_iushr (v : Int) {s : Nat} (hs : s < 32) : iand (iushr v (s : Int)) 255 = (((v % 4294967296).toNat / 2 ^ s % 256 : Nat) : Int) := by
  unfold iushr
  rw [iand_z, iushr_nat v hs]
/-- byte j of a fed number -/
def byt (v j : Int) : Int := if j = 0 then v / 16777216 % 256 else if j = 1 then v / 65536 % 256 else if j = 2 then v / 256 % 256 else v % 256
/-- a byte as the reference holds it -/
def sgn (b : Int) : Int := if b < 128 then b else b - 256
theorem byt_b (v j : Int) : 0 ≤ byt v j ∧ byt v j < 256 := by
  unfold byt
  split
  · omega
  · split
    · omega
    · split <;> omega
theorem sgn_b {b : Int} (h0 : 0 ≤ b) (h1 : b < 256) : -128 ≤ sgn b ∧ sgn b < 128 := by
  unfold sgn
  split <;> omega
theorem iand_sgn {b : Int} (h0 : 0 ≤ b) (h1 : b < 256) : iand (sgn b) 255 = b := by
  have h2 := sgn_b h0 h1
  rw [iand_255 ⟨by omega, by omega⟩]
  unfold sgn
  split <;> omega
theorem byt_m {v : Int} (hv : inI v) (j : Int) (h0 : 0 ≤ j) (h1 : j ≤ 3) : i2b (ishr v (8 * j)) = sgn (byt v (3 - j)) := by
  have key : ∀ s : Nat, s < 32 → i2b (ishr v (s : Int)) = (v / ((2 ^ s : Nat) : Int)).bmod 256 := fun s hs => by
    rw [ishr_div hv hs]
    refine i2b_bmod ?_
    have h5 := hv.1
    have h6 := hv.2
    have hp : (0 : Int) < ((2 ^ s : Nat) : Int) := by have := Nat.two_pow_pos s; omega
    have h7 : v / ((2 ^ s : Nat) : Int) ≤ 2147483647 := by
      rcases Int.lt_or_le v 0 with z | z
      · have := Int.ediv_lt_of_lt_mul hp (show v < 1 * ((2 ^ s : Nat) : Int) by omega)
        omega
      · have := Int.ediv_le_self ((2 ^ s : Nat) : Int) z
        omega
    have h8 : -2147483648 ≤ v / ((2 ^ s : Nat) : Int) := by
      refine Int.le_ediv_of_mul_le hp ?_
      have h9 : (1 : Int) ≤ ((2 ^ s : Nat) : Int) := by omega
      have h10 := Int.mul_le_mul_of_nonneg_left h9 (show (0 : Int) ≤ 2147483648 by decide)
      omega
    exact ⟨h8, by omega⟩
  have e4 : j = 0 ∨ j = 1 ∨ j = 2 ∨ j = 3 := by omega
  rcases e4 with rfl | rfl | rfl | rfl
  · have e := key 0 (by decide)
    rw [show (8 * (0 : Int)) = ((0 : Nat) : Int) by decide, e]
    unfold sgn byt Int.bmod
    simp
  · have e := key 8 (by decide)
    rw [show (8 * (1 : Int)) = ((8 : Nat) : Int) by decide, e]
    unfold sgn byt Int.bmod
    simp
  · have e := key 16 (by decide)
    rw [show (8 * (2 : Int)) = ((16 : Nat) : Int) by decide, e]
    unfold sgn byt Int.bmod
    simp
  · have e := key 24 (by decide)
    rw [show (8 * (3 : Int)) = ((24 : Nat) : Int) by decide, e]
    unfold sgn byt Int.bmod
    simp
theorem byt_c (v j : Int) (h0 : 0 ≤ j) (h1 : j ≤ 3) : iand (iushr v (8 * j)) 255 = byt v (3 - j) := by
  have e4 : j = 0 ∨ j = 1 ∨ j = 2 ∨ j = 3 := by omega
  rcases e4 with rfl | rfl | rfl | rfl
  · have e := iand_iushr v (s := 0) (by decide)
    rw [show (8 * (0 : Int)) = ((0 : Nat) : Int) by decide, e]
    unfold byt
    simp
    omega
  · have e := iand_iushr v (s := 8) (by decide)
    rw [show (8 * (1 : Int)) = ((8 : Nat) : Int) by decide, e]
    unfold byt
    simp
    omega
  · have e := iand_iushr v (s := 16) (by decide)
    rw [show (8 * (2 : Int)) = ((16 : Nat) : Int) by decide, e]
    unfold byt
    simp
    omega
  · have e := iand_iushr v (s := 24) (by decide)
    rw [show (8 * (3 : Int)) = ((24 : Nat) : Int) by decide, e]
    unfold byt
    simp
    omega

/-! how many bits are set -/
def pcN (N : Nat) : Nat → Nat
  | 0 => 0
  | m + 1 => pcN N m + (if N.testBit m = true then 1 else 0)
theorem pop_pc (N : Nat) : ∀ m : Nat, pop N m = (pcN N m : Int)
  | 0 => rfl
  | m + 1 => by
    have ih := pop_pc N m
    unfold pop at ih ⊢
    unfold pcN
    by_cases h : N.testBit m = true
    · rw [cnt_t (P := fun v : Int => N.testBit v.toNat = true) (m := m) (by rw [Int.toNat_natCast]; exact h), ih, if_pos h]; omega
    · rw [cnt_f (P := fun v : Int => N.testBit v.toNat = true) (m := m) (by rw [Int.toNat_natCast]; exact h), ih, if_neg h]; omega
theorem pc_congr {N M : Nat} : ∀ m : Nat, (∀ i, i < m → N.testBit i = M.testBit i) → pcN N m = pcN M m
  | 0, _ => rfl
  | m + 1, h => by
    unfold pcN
    rw [pc_congr m (fun i hi => h i (by omega)), h m (by omega)]
theorem tb_add {y b j : Nat} (hb : b < 256) : (256 * y + b).testBit j = if j < 8 then b.testBit j else y.testBit (j - 8) := Nat.testBit_two_pow_mul_add y (i := 8) hb j
theorem pc_split {y b : Nat} (hb : b < 256) : ∀ m : Nat, pcN (256 * y + b) (m + 8) = pcN b 8 + pcN y m
  | 0 => pc_congr 8 (fun i hi => by rw [tb_add hb, if_pos hi])
  | m + 1 => by
    have ih := pc_split (y := y) hb m
    show pcN (256 * y + b) (m + 8) + (if (256 * y + b).testBit (m + 8) = true then 1 else 0) = pcN b 8 + (pcN y m + (if y.testBit m = true then 1 else 0))
    have e : (256 * y + b).testBit (m + 8) = y.testBit m := by rw [tb_add hb, if_neg (by omega), Nat.add_sub_cancel]
    rw [ih, e, Nat.add_assoc]
theorem pc_le (N : Nat) : ∀ m : Nat, pcN N m ≤ m
  | 0 => Nat.le_refl 0
  | m + 1 => by
    have := pc_le N m
    unfold pcN
    split <;> omega
/-- masks that are the same in every byte -/
theorem mk8 {M y b : Nat} (s : Nat) (hs : s ≤ 4) (hM : M % 2 ^ 56 = M / 2 ^ 8) (hm : M % 2 ^ 8 < 2 ^ (8 - s)) (hy : y < 2 ^ 48) (hb : b < 256) : ((256 * y + b) >>> s) &&& M = 256 * ((y >>> s) &&& M) + ((b >>> s) &&& M) := by
  have hlt : (b >>> s) &&& M < 256 := Nat.lt_of_le_of_lt Nat.and_le_left (Nat.lt_of_le_of_lt (Nat.shiftRight_le b s) hb)
  apply Nat.eq_of_testBit_eq
  intro j
  rw [tb_add hlt]
  simp only [Nat.testBit_and, Nat.testBit_shiftRight]
  rw [tb_add hb]
  by_cases hj : j < 8
  · rw [if_pos hj]
    by_cases h2 : s + j < 8
    · rw [if_pos h2]
    · have hz : M.testBit j = false := by
        have h3 : (M % 2 ^ 8).testBit j = false := Nat.testBit_lt_two_pow (Nat.lt_of_lt_of_le hm (Nat.pow_le_pow_right (by decide) (by omega)))
        rw [Nat.testBit_mod_two_pow] at h3
        simpa [hj] using h3
      rw [hz, Bool.and_false, Bool.and_false]
  · rw [if_neg hj, if_neg (by omega), show s + j - 8 = s + (j - 8) by omega]
    by_cases h2 : s + (j - 8) < 48
    · have h3 : M.testBit (j - 8) = M.testBit j := by
        have e1 : (M % 2 ^ 56).testBit (j - 8) = (M / 2 ^ 8).testBit (j - 8) := by rw [hM]
        rw [Nat.testBit_mod_two_pow, Nat.testBit_div_two_pow, show j - 8 + 8 = j by omega] at e1
        simpa [show j - 8 < 56 by omega] using e1
      rw [h3]
    · have hz : y.testBit (s + (j - 8)) = false := Nat.testBit_lt_two_pow (Nat.lt_of_lt_of_le hy (Nat.pow_le_pow_right (by decide) (by omega)))
      rw [hz, Bool.false_and, Bool.false_and]
def n1 (x : Nat) : Nat := x - ((x >>> 1) &&& 6148914691236517205)
def n2 (x : Nat) : Nat := (x &&& 3689348814741910323) + ((x >>> 2) &&& 3689348814741910323)
def n3 (x : Nat) : Nat := (x + (x >>> 4)) &&& 1085102592571150095
theorem n1_le (x : Nat) : n1 x ≤ x := Nat.sub_le _ _
theorem n2_le (x : Nat) : n2 x ≤ 2 * x := by
  unfold n2
  have h1 : x &&& 3689348814741910323 ≤ x := Nat.and_le_left
  have h2 : (x >>> 2) &&& 3689348814741910323 ≤ x >>> 2 := Nat.and_le_left
  have h3 : x >>> 2 ≤ x := Nat.shiftRight_le x 2
  omega
theorem n1_add {y b : Nat} (hy : y < 2 ^ 48) (hb : b < 256) : n1 (256 * y + b) = 256 * n1 y + n1 b := by
  have h := mk8 (M := 6148914691236517205) 1 (by decide) (by decide) (by decide) hy hb
  have h1 : (y >>> 1) &&& 6148914691236517205 ≤ y := Nat.le_trans Nat.and_le_left (Nat.shiftRight_le y 1)
  have h2 : (b >>> 1) &&& 6148914691236517205 ≤ b := Nat.le_trans Nat.and_le_left (Nat.shiftRight_le b 1)
  unfold n1
  rw [h]
  generalize (y >>> 1) &&& 6148914691236517205 = u at h1 ⊢
  generalize (b >>> 1) &&& 6148914691236517205 = v at h2 ⊢
  omega
theorem n2_add {y b : Nat} (hy : y < 2 ^ 48) (hb : b < 256) : n2 (256 * y + b) = 256 * n2 y + n2 b := by
  have h := mk8 (M := 3689348814741910323) 2 (by decide) (by decide) (by decide) hy hb
  have h0 := mk8 (M := 3689348814741910323) 0 (by decide) (by decide) (by decide) hy hb
  simp only [Nat.shiftRight_zero] at h0
  unfold n2
  rw [h, h0]
  generalize y &&& 3689348814741910323 = u
  generalize (y >>> 2) &&& 3689348814741910323 = v
  omega
theorem and_c3 : ∀ v : Fin 256, v.val &&& 1085102592571150095 = v.val % 16 := by decide +kernel
theorem n3_add {y b : Nat} (hy : y < 2 ^ 47) (hb : b ≤ 68) (hn : y % 16 ≤ 4) : n3 (256 * y + b) = 256 * n3 y + n3 b := by
  unfold n3
  have e : 256 * y + b + (256 * y + b) >>> 4 = 256 * (y + y >>> 4) + (b + b >>> 4 + 16 * (y % 16)) := by
    simp only [Nat.shiftRight_eq_div_pow]
    omega
  have hY : y + y >>> 4 < 2 ^ 48 := by
    have := Nat.shiftRight_le y 4
    omega
  have hs : b >>> 4 ≤ 4 := by
    rw [Nat.shiftRight_eq_div_pow]
    omega
  have hL : b + b >>> 4 + 16 * (y % 16) < 256 := by omega
  have h0 := mk8 (M := 1085102592571150095) 0 (by decide) (by decide) (by decide) hY hL
  simp only [Nat.shiftRight_zero] at h0
  rw [e, h0, and_c3 ⟨_, hL⟩, and_c3 ⟨b + b >>> 4, by omega⟩]
  show _ + (b + b >>> 4 + 16 * (y % 16)) % 16 = _ + (b + b >>> 4) % 16
  omega
theorem byteF : ∀ b : Fin 256, (n2 (n1 b.val) ≤ 68 ∧ n2 (n1 b.val) % 16 ≤ 4) ∧ n3 (n2 (n1 b.val)) = pcN b.val 8 := by decide +kernel
/-- every byte holds how many of its bits are set -/
theorem F_add {y b : Nat} (hy : y < 2 ^ 32) (hb : b < 256) : n3 (n2 (n1 (256 * y + b))) = 256 * n3 (n2 (n1 y)) + pcN b 8 := by
  have hb2 := byteF ⟨b, hb⟩
  have l1 := n1_le y
  have l2 := n2_le (n1 y)
  have l3 := n1_le b
  rw [n1_add (by omega) hb, n2_add (by omega) (by omega)]
  have hn : n2 (n1 y) % 16 ≤ 4 := by
    have e : y = 256 * (y / 256) + y % 256 := by omega
    have hy2 : y % 256 < 256 := by omega
    have k2 := byteF ⟨y % 256, hy2⟩
    have l4 := n1_le (y / 256)
    have l5 := n1_le (y % 256)
    rw [e, n1_add (by omega) hy2, n2_add (by omega) (by omega)]
    have k3 : n2 (n1 (y % 256)) % 16 ≤ 4 := k2.1.2
    omega
  rw [n3_add (by omega) hb2.1.1 hn, hb2.2]
theorem w64n {a : Nat} (h : a < 9223372036854775808) : w64 (a : Int) = a := okL ⟨by omega, by omega⟩
theorem w32n {a : Nat} (h : a < 2147483648) : w32 (a : Int) = a := okI ⟨by omega, by omega⟩
theorem bcL_3 {x : Nat} (hx : x < 1099511627776) : bcL3 (bcL2 (bcL1 x)) = (n3 (n2 (n1 x)) : Int) := by
  have l1 := n1_le x
  have l2 := n2_le (n1 x)
  have a1 : (x >>> 1) &&& 6148914691236517205 ≤ x := Nat.le_trans Nat.and_le_left (Nat.shiftRight_le x 1)
  have e1 : bcL1 x = (n1 x : Int) := by
    unfold bcL1
    rw [show (1 : Int) = ((1 : Nat) : Int) from rfl, lushr_nat (by omega) (by decide), show (6148914691236517205 : Int) = ((6148914691236517205 : Nat) : Int) from rfl, land_nat (Nat.lt_of_le_of_lt (Nat.shiftRight_le x 1) (by omega)) (by decide), show (x : Int) - (((x >>> 1) &&& 6148914691236517205 : Nat) : Int) = ((n1 x : Nat) : Int) by unfold n1; omega]
    exact w64n (by omega)
  have e2 : bcL2 (n1 x : Int) = (n2 (n1 x) : Int) := by
    generalize n1 x = y at l1 l2
    unfold bcL2
    rw [show (2 : Int) = ((2 : Nat) : Int) from rfl, lushr_nat (by omega) (by decide), show (3689348814741910323 : Int) = ((3689348814741910323 : Nat) : Int) from rfl, land_nat (Nat.lt_of_le_of_lt (Nat.shiftRight_le y 2) (by omega)) (by decide), land_nat (by omega) (by decide), ← Int.natCast_add]
    exact w64n (Nat.lt_of_le_of_lt l2 (by omega))
  rw [e1, e2]
  generalize n2 (n1 x) = z at l2
  have l6 := Nat.shiftRight_le z 4
  unfold bcL3
  rw [show (4 : Int) = ((4 : Nat) : Int) from rfl, lushr_nat (by omega) (by decide), ← Int.natCast_add, w64n (by omega), show (1085102592571150095 : Int) = ((1085102592571150095 : Nat) : Int) from rfl, land_nat (by omega) (by decide)]
  rfl
theorem bcL_pop {x : Nat} (hx : x < 1099511627776) : bcL x = pop x 40 := by
  rw [pop_pc]
  unfold bcL
  rw [bcL_3 hx]
  obtain ⟨x1, b0, h0, e0⟩ : ∃ x1 b0, b0 < 256 ∧ x = 256 * x1 + b0 := ⟨x / 256, x % 256, by omega, by omega⟩
  obtain ⟨x2, b1, h1, e1⟩ : ∃ x2 b1, b1 < 256 ∧ x1 = 256 * x2 + b1 := ⟨x1 / 256, x1 % 256, by omega, by omega⟩
  obtain ⟨x3, b2, h2, e2⟩ : ∃ x3 b2, b2 < 256 ∧ x2 = 256 * x3 + b2 := ⟨x2 / 256, x2 % 256, by omega, by omega⟩
  obtain ⟨b4, b3, h3, e3⟩ : ∃ b4 b3, b3 < 256 ∧ x3 = 256 * b4 + b3 := ⟨x3 / 256, x3 % 256, by omega, by omega⟩
  have h4 : b4 < 256 := by omega
  have f4 := (byteF ⟨b4, h4⟩).2
  have f3 := F_add (y := b4) (b := b3) (by omega) h3
  have f2 := F_add (y := x3) (b := b2) (by omega) h2
  have f1 := F_add (y := x2) (b := b1) (by omega) h1
  have f0 := F_add (y := x1) (b := b0) (by omega) h0
  have p0 : pcN (256 * x1 + b0) 40 = pcN b0 8 + pcN x1 32 := pc_split (y := x1) h0 32
  have p1 : pcN (256 * x2 + b1) 32 = pcN b1 8 + pcN x2 24 := pc_split (y := x2) h1 24
  have p2 : pcN (256 * x3 + b2) 24 = pcN b2 8 + pcN x3 16 := pc_split (y := x3) h2 16
  have p3 : pcN (256 * b4 + b3) 16 = pcN b3 8 + pcN b4 8 := pc_split (y := b4) h3 8
  rw [← e0] at f0 p0
  rw [← e1] at f1 p1
  rw [← e2] at f2 p2
  rw [← e3] at f3 p3
  have c0 := pc_le b0 8
  have c1 := pc_le b1 8
  have c2 := pc_le b2 8
  have c3 := pc_le b3 8
  have c4 := pc_le b4 8
  have f4' : n3 (n2 (n1 b4)) = pcN b4 8 := f4
  have hp : pcN x 40 = pcN b0 8 + (pcN b1 8 + (pcN b2 8 + (pcN b3 8 + pcN b4 8))) := by omega
  have hf : n3 (n2 (n1 x)) = 4294967296 * pcN b4 8 + 16777216 * pcN b3 8 + 65536 * pcN b2 8 + 256 * pcN b1 8 + pcN b0 8 := by omega
  rw [hp, hf]
  generalize pcN b0 8 = q0 at c0
  generalize pcN b1 8 = q1 at c1
  generalize pcN b2 8 = q2 at c2
  generalize pcN b3 8 = q3 at c3
  generalize pcN b4 8 = q4 at c4
  have s4 : bcL4 ((4294967296 * q4 + 16777216 * q3 + 65536 * q2 + 256 * q1 + q0 : Nat) : Int) = ((4294967296 * q4 + 16777216 * (q3 + q4) + 65536 * (q2 + q3) + 256 * (q1 + q2) + (q0 + q1) : Nat) : Int) := by
    unfold bcL4
    rw [show (8 : Int) = ((8 : Nat) : Int) from rfl, lushr_nat (by omega) (by decide), ← Int.natCast_add, w64n (by rw [Nat.shiftRight_eq_div_pow]; omega)]
    congr 1
    rw [Nat.shiftRight_eq_div_pow]
    omega
  have s5 : ∃ r : Nat, r < 65536 * 65536 ∧ bcL5 ((4294967296 * q4 + 16777216 * (q3 + q4) + 65536 * (q2 + q3) + 256 * (q1 + q2) + (q0 + q1) : Nat) : Int) = ((4294967296 * q4 + 256 * r + (q0 + q1 + q2 + q3) : Nat) : Int) ∧ r < 16777216 := by
    refine ⟨65536 * (q3 + q4) + 256 * (q2 + q3 + q4) + (q1 + q2 + q3 + q4), by omega, ?_, by omega⟩
    unfold bcL5
    rw [show (16 : Int) = ((16 : Nat) : Int) from rfl, lushr_nat (by omega) (by decide), ← Int.natCast_add, w64n (by rw [Nat.shiftRight_eq_div_pow]; omega)]
    congr 1
    rw [Nat.shiftRight_eq_div_pow]
    omega
  obtain ⟨r, -, s5, r1⟩ := s5
  have s6 : bcL6 ((4294967296 * q4 + 256 * r + (q0 + q1 + q2 + q3) : Nat) : Int) = ((4294967296 * q4 + 256 * r + (q0 + q1 + q2 + q3 + q4) : Nat) : Int) := by
    unfold bcL6
    rw [show (32 : Int) = ((32 : Nat) : Int) from rfl, lushr_nat (by omega) (by decide), ← Int.natCast_add, w64n (by rw [Nat.shiftRight_eq_div_pow]; omega)]
    congr 1
    rw [Nat.shiftRight_eq_div_pow]
    omega
  rw [s4, s5, s6]
  have e7 : ∀ a : Nat, iand (l2i (a : Int)) 127 = ((a % 128 : Nat) : Int) := fun a => by
    show iand ((Int32.ofInt (a : Int)).toInt) 127 = _
    unfold iand
    rw [Int32.ofInt_toInt]
    refine tI _ ?_ (by omega)
    show (BitVec.ofInt 32 (a : Int) &&& BitVec.ofInt 32 127).toNat = _
    rw [BitVec.ofInt_natCast, BitVec.toNat_and, BitVec.toNat_ofNat, show (BitVec.ofInt 32 127).toNat = 2 ^ 7 - 1 from rfl, Nat.and_two_pow_sub_one_eq_mod]
    omega
  rw [e7]
  omega
def m1 (x : Nat) : Nat := x - ((x >>> 1) &&& 1431655765)
def m2 (x : Nat) : Nat := (x &&& 858993459) + ((x >>> 2) &&& 858993459)
def m3 (x : Nat) : Nat := (x + (x >>> 4)) &&& 252645135
def m4 (x : Nat) : Nat := x + (x >>> 8)
def m5 (x : Nat) : Nat := x + (x >>> 16)
theorem m_all : ∀ a b : Fin 128, m5 (m4 (m3 (m2 (m1 (128 * a.val + b.val))))) &&& 63 = pcN (128 * a.val + b.val) 14 := by decide +kernel
theorem bcI_pop {x : Nat} (hx : x < 16384) : bcI x = pop x 14 := by
  rw [pop_pc]
  have a1 : (x >>> 1) &&& 1431655765 ≤ x := Nat.le_trans Nat.and_le_left (Nat.shiftRight_le x 1)
  have l1 : m1 x ≤ x := Nat.sub_le _ _
  have e1 : bcI1 x = (m1 x : Int) := by
    unfold bcI1
    rw [show (1 : Int) = ((1 : Nat) : Int) from rfl, iushr_n (by omega) (by decide), show (1431655765 : Int) = ((1431655765 : Nat) : Int) from rfl, iand_nat (Nat.lt_of_le_of_lt (Nat.shiftRight_le x 1) (by omega)) (by decide), show (x : Int) - (((x >>> 1) &&& 1431655765 : Nat) : Int) = ((m1 x : Nat) : Int) by unfold m1; omega]
    exact w32n (by omega)
  have l2 : m2 (m1 x) ≤ 2 * x := by
    unfold m2
    have h1 : m1 x &&& 858993459 ≤ m1 x := Nat.and_le_left
    have h2 : (m1 x >>> 2) &&& 858993459 ≤ m1 x >>> 2 := Nat.and_le_left
    have h3 : m1 x >>> 2 ≤ m1 x := Nat.shiftRight_le _ 2
    omega
  have e2 : bcI2 (m1 x : Int) = (m2 (m1 x) : Int) := by
    generalize m1 x = y at l1 l2
    unfold bcI2
    rw [show (2 : Int) = ((2 : Nat) : Int) from rfl, iushr_n (by omega) (by decide), show (858993459 : Int) = ((858993459 : Nat) : Int) from rfl, iand_nat (Nat.lt_of_le_of_lt (Nat.shiftRight_le y 2) (by omega)) (by decide), iand_nat (by omega) (by decide), ← Int.natCast_add]
    exact w32n (Nat.lt_of_le_of_lt l2 (by omega))
  have e3 : bcI3 (m2 (m1 x) : Int) = (m3 (m2 (m1 x)) : Int) := by
    generalize m2 (m1 x) = z at l2
    have l6 := Nat.shiftRight_le z 4
    unfold bcI3
    rw [show (4 : Int) = ((4 : Nat) : Int) from rfl, iushr_n (by omega) (by decide), ← Int.natCast_add, w32n (by omega), show (252645135 : Int) = ((252645135 : Nat) : Int) from rfl, iand_nat (by omega) (by decide)]
    rfl
  have l3 : m3 (m2 (m1 x)) ≤ 4 * x := by
    unfold m3
    have h1 := Nat.shiftRight_le (m2 (m1 x)) 4
    have h2 : (m2 (m1 x) + m2 (m1 x) >>> 4) &&& 252645135 ≤ m2 (m1 x) + m2 (m1 x) >>> 4 := Nat.and_le_left
    omega
  have e4 : bcI4 (m3 (m2 (m1 x)) : Int) = (m4 (m3 (m2 (m1 x))) : Int) := by
    generalize m3 (m2 (m1 x)) = z at l3
    have l6 := Nat.shiftRight_le z 8
    unfold bcI4
    rw [show (8 : Int) = ((8 : Nat) : Int) from rfl, iushr_n (by omega) (by decide), ← Int.natCast_add, w32n (by omega)]
    rfl
  have l4 : m4 (m3 (m2 (m1 x))) ≤ 8 * x := by
    have h1 := Nat.shiftRight_le (m3 (m2 (m1 x))) 8
    unfold m4
    omega
  have e5 : bcI5 (m4 (m3 (m2 (m1 x))) : Int) = (m5 (m4 (m3 (m2 (m1 x)))) : Int) := by
    generalize m4 (m3 (m2 (m1 x))) = z at l4
    have l6 := Nat.shiftRight_le z 16
    unfold bcI5
    rw [show (16 : Int) = ((16 : Nat) : Int) from rfl, iushr_n (by omega) (by decide), ← Int.natCast_add, w32n (by omega)]
    rfl
  have l5 : m5 (m4 (m3 (m2 (m1 x)))) ≤ 16 * x := by
    have h1 := Nat.shiftRight_le (m4 (m3 (m2 (m1 x)))) 16
    unfold m5
    omega
  unfold bcI
  rw [e1, e2, e3, e4, e5, show (63 : Int) = ((63 : Nat) : Int) from rfl, iand_nat (by omega) (by decide)]
  have hm := m_all ⟨x / 128, by omega⟩ ⟨x % 128, by omega⟩
  rw [show 128 * (x / 128) + x % 128 = x by omega] at hm
  rw [hm]
theorem jLBit {d : Nat} {h : AH} {K : Int → AH → Prop} (hd : 0 < d) {x : Nat} (hx : x < 1099511627776) (k : K (pop x 40) h) : Call d M_JLong_bitCount [vL (x : Int)] h K := c_JLong_bitCount 0 hd (by rw [bcL_pop hx]; exact k)
theorem jIBit {d : Nat} {h : AH} {K : Int → AH → Prop} (hd : 0 < d) {x : Nat} (hx : x < 16384) (k : K (pop x 14) h) : Call d M_JInteger_bitCount [vI (x : Int)] h K := c_JInteger_bitCount 0 hd (by rw [bcI_pop hx]; exact k)
theorem jFill {d : Nat} {h : AH} {K : Int → AH → Prop} (hd : 0 < d) (k : ∀ h', (∀ i, 0 ≤ i → i < 104 → h'.2.1 54 i = 0) → Fr [54] [] h h' → K 0 h') : Call d M_JArrays_fill [vR 54 (-1), vL 0] h K := by
  refine c_JArrays_fill 0 hd ?_
  have key : ∀ m : Nat, ∀ (v3 : Int) (hh : AH), 0 ≤ v3 → v3 ≤ 104 → 104 - v3 < m → Fr [54] [] h hh → (∀ i, 0 ≤ i → i < v3 → hh.2.1 54 i = 0) → A_JArrays_fill_6 0 K 0 v3 104 hh := by
    intro m
    induction m with
    | zero => intro v3 hh x1 x2 e; omega
    | succ m ih =>
      intro v3 hh x1 x2 e ff t
      refine s_JArrays_fill_6 ⟨fun c => k hh (fun i i0 i1 => t i i0 (by omega)) ff, fun c => ⟨ib (by omega), ii (by omega), ih (v3 + 1) _ (by omega) (by omega) (by omega) (ff.trans (Fr.wL (Or.inl (by decide)))) (fun i i0 i1 => ?_)⟩⟩
      by_cases z : i = v3
      · rw [z, rL_eq]
      · rw [rL_nk z]; exact t i i0 (by omega)
  exact key 105 0 h (by decide) (by decide) (by decide) Fr.refl (fun i i0 i1 => by omega)

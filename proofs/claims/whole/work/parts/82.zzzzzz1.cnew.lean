/-! the class' new words: the table of rows -/
theorem iand_mask {x : Int} : 0 ≤ iand x 32767 ∧ iand x 32767 < 32768 := by
  unfold iand
  have h1 : ((Int32.ofInt x &&& Int32.ofInt 32767).toBitVec).toNat ≤ 32767 := by
    show ((Int32.ofInt x).toBitVec &&& BitVec.ofInt 32 32767).toNat ≤ 32767
    rw [BitVec.toNat_and]
    exact Nat.and_le_right
  have e := tI (Int32.ofInt x &&& Int32.ofInt 32767) rfl (by omega)
  rw [e]
  omega
theorem iand_next {x : Int} (h0 : 0 ≤ x) (h1 : x < 32768) : iand (x + 1) 32767 = (x + 1) % 32768 := by
  have e := iand_nat (a := (x + 1).toNat) (b := 32767) (by omega) (by decide)
  rw [Int.toNat_of_nonneg (by omega)] at e
  have e2 : (x + 1).toNat &&& 32767 = (x + 1).toNat % 32768 := Nat.and_two_pow_sub_one_eq_mod (x + 1).toNat 15
  rw [e2] at e
  exact e.trans (by omega)
/-- where the search for a key begins -/
def hsh (k : Int) : Int := iand (l2i (lushr (w64 (k * (-7046029254386353131))) 49)) 32767
def keyR (h : AH) (r : Int) : Int := h.2.1 44 r
def TabN (h : AH) : Prop := (0 ≤ h.1 8 7 ∧ h.1 8 7 ≤ 16000) ∧ (∀ r, 0 ≤ r → r < h.1 8 7 → (0 ≤ h.1 43 r ∧ h.1 43 r < 32768) ∧ h.1 42 (h.1 43 r) = r + 1 ∧ ∃ i : Nat, i < 32768 ∧ h.1 43 r = (hsh (keyR h r) + i) % 32768 ∧ ∀ j : Nat, j < i → h.1 42 ((hsh (keyR h r) + j) % 32768) ≠ 0) ∧ (∀ s, 0 ≤ s → s < 32768 → h.1 42 s ≠ 0 → (1 ≤ h.1 42 s ∧ h.1 42 s ≤ h.1 8 7) ∧ h.1 43 (h.1 42 s - 1) = s) ∧ (∀ r r', 0 ≤ r → r < h.1 8 7 → 0 ≤ r' → r' < h.1 8 7 → keyR h r = keyR h r' → r = r') ∧ (∀ r, 0 ≤ r → r < h.1 8 7 → ∃ N : Nat, N < 1099511627776 ∧ h.2.1 45 r = (N : Int))
/-- the table has the key k -/
def HasK (h : AH) (k : Int) : Prop := ∃ r, (0 ≤ r ∧ r < h.1 8 7) ∧ keyR h r = k
/-- and the word b is joined to it -/
def Jn (h : AH) (k b : Int) : Prop := ∃ r, (0 ≤ r ∧ r < h.1 8 7) ∧ keyR h r = k ∧ ∃ N : Nat, h.2.1 45 r = (N : Int) ∧ N.testBit b.toNat = true
/-- some slot is free -/
theorem TabN.free {h : AH} (t : TabN h) (a : ∀ s, 0 ≤ s → s < 32768 → h.1 42 s ≠ 0) : False := by
  obtain ⟨t1, _, t3, _⟩ := t
  obtain ⟨i, j, ij, jn, e⟩ := pigeon 16000 (fun j => (h.1 42 j - 1).toNat) (fun j hj => by
    have := t3 j (by omega) (by omega) (a j (by omega) (by omega))
    show (h.1 42 j - 1).toNat < 16000
    omega)
  have e : (h.1 42 i - 1).toNat = (h.1 42 j - 1).toNat := e
  have a1 := t3 i (by omega) (by omega) (a i (by omega) (by omega))
  have a2 := t3 j (by omega) (by omega) (a j (by omega) (by omega))
  have e2 : h.1 42 i - 1 = h.1 42 j - 1 := by omega
  have a3 := a1.2
  rw [e2, a2.2] at a3
  omega
theorem TabN.add {h h' : AH} {k w s : Int} {i : Nat} (t : TabN h) (w0 : 0 ≤ w) (w1 : w < 40) (R1 : h.1 8 7 < 16000) (hs : s = (hsh k + i) % 32768) (hi : i < 32768) (path : ∀ j : Nat, j < i → h.1 42 ((hsh k + j) % 32768) ≠ 0) (z : h.1 42 s = 0) (no : ¬ HasK h k) (e7 : h'.1 8 7 = h.1 8 7 + 1) (e42s : h'.1 42 s = h.1 8 7 + 1) (e42 : ∀ x, x ≠ s → h'.1 42 x = h.1 42 x) (e43s : h'.1 43 (h.1 8 7) = s) (e43 : ∀ x, x ≠ h.1 8 7 → h'.1 43 x = h.1 43 x) (e44s : h'.2.1 44 (h.1 8 7) = k) (e44 : ∀ x, x ≠ h.1 8 7 → h'.2.1 44 x = h.2.1 44 x) (e45s : h'.2.1 45 (h.1 8 7) = ((1 <<< w.toNat : Nat) : Int)) (e45 : ∀ x, x ≠ h.1 8 7 → h'.2.1 45 x = h.2.1 45 x) : TabN h' ∧ (∀ x, HasK h' x ↔ HasK h x ∨ x = k) ∧ (∀ x b, 0 ≤ b → (Jn h' x b ↔ Jn h x b ∨ (x = k ∧ b = w))) := by
  obtain ⟨t1, t2, t3, t4, t5⟩ := t
  have sb : 0 ≤ s ∧ s < 32768 := by omega
  have nz : ∀ x, h.1 42 x ≠ 0 → h'.1 42 x ≠ 0 := fun x hx => by
    rw [e42 x (fun e => by rw [e] at hx; exact hx z)]
    exact hx
  have kn : keyR h' (h.1 8 7) = k := e44s
  have ko : ∀ r, r < h.1 8 7 → keyR h' r = keyR h r := fun r hr => e44 r (by omega)
  refine ⟨⟨by omega, fun r r0 r1 => ?_, fun x x0 x1 hx => ?_, fun r r' r0 r1 r0' r1' e => ?_, fun r r0 r1 => ?_⟩, fun x => ?_, fun x b b0 => ?_⟩
  · by_cases q : r = h.1 8 7
    · rw [q, e43s, e42s, kn]
      exact ⟨sb, rfl, i, hi, hs, fun j hj => nz _ (path j hj)⟩
    · obtain ⟨a1, a2, i', a3, a4, a5⟩ := t2 r r0 (by omega)
      rw [e43 r q, ko r (by omega), e42 _ (fun e => by rw [e] at a2; omega)]
      exact ⟨a1, a2, i', a3, a4, fun j hj => nz _ (a5 j hj)⟩
  · by_cases q : x = s
    · rw [q, e42s]
      refine ⟨by omega, ?_⟩
      rw [show h.1 8 7 + 1 - 1 = h.1 8 7 by omega]
      exact e43s
    · rw [e42 x q] at hx ⊢
      obtain ⟨a1, a2⟩ := t3 x x0 x1 hx
      rw [e43 _ (by omega)]
      exact ⟨by omega, a2⟩
  · by_cases q : r = h.1 8 7
    · by_cases q' : r' = h.1 8 7
      · omega
      · rw [q, kn, ko r' (by omega)] at e
        exact absurd ⟨r', ⟨r0', by omega⟩, e.symm⟩ no
    · by_cases q' : r' = h.1 8 7
      · rw [q', kn, ko r (by omega)] at e
        exact absurd ⟨r, ⟨r0, by omega⟩, e⟩ no
      · rw [ko r (by omega), ko r' (by omega)] at e
        exact t4 r r' r0 (by omega) r0' (by omega) e
  · by_cases q : r = h.1 8 7
    · rw [q, e45s]
      exact ⟨1 <<< w.toNat, shl_le (by omega), rfl⟩
    · rw [e45 r q]
      exact t5 r r0 (by omega)
  · constructor
    · rintro ⟨r, rb, e⟩
      by_cases q : r = h.1 8 7
      · rw [q, kn] at e
        exact Or.inr e.symm
      · rw [ko r (by omega)] at e
        exact Or.inl ⟨r, by omega, e⟩
    · rintro (⟨r, rb, e⟩ | e)
      · exact ⟨r, by omega, by rw [ko r rb.2]; exact e⟩
      · exact ⟨h.1 8 7, by omega, by rw [kn, e]⟩
  · constructor
    · rintro ⟨r, rb, e, N, e2, e3⟩
      by_cases q : r = h.1 8 7
      · rw [q, kn] at e
        rw [q, e45s] at e2
        have e2 : N = 1 <<< w.toNat := by omega
        rw [e2] at e3
        have e4 : (0 ||| 1 <<< w.toNat).testBit b.toNat = true := by rw [Nat.zero_or]; exact e3
        rcases (bor_t w0 b0).mp e4 with y | y
        · rw [Nat.zero_testBit] at y; cases y
        · exact Or.inr ⟨e.symm, y.symm⟩
      · rw [ko r (by omega)] at e
        rw [e45 r q] at e2
        exact Or.inl ⟨r, by omega, e, N, e2, e3⟩
    · rintro (⟨r, rb, e, N, e2, e3⟩ | ⟨e, e2⟩)
      · exact ⟨r, by omega, by rw [ko r rb.2]; exact e, N, by rw [e45 r (by omega)]; exact e2, e3⟩
      · refine ⟨h.1 8 7, by omega, by rw [kn, e], _, e45s, ?_⟩
        have e4 := (bor_t (N := 0) w0 b0).mpr (Or.inr e2.symm)
        rw [Nat.zero_or] at e4
        exact e4

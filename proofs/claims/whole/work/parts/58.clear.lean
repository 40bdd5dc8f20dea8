/-! sets no two of which are too near (R) -/
def ClearS (R : Nat → Nat → Prop) (N : Nat) : Prop := ∀ i j : Nat, N.testBit i = true → N.testBit j = true → i ≠ j → ¬ R i j
def NearT (R : Nat → Nat → Prop) (p : Int) (h : AH) : Prop := ∀ i : Nat, (i : Int) < p → ∃ M : Nat, M < 16384 ∧ h.1 91 i = (M : Int) ∧ ∀ j : Nat, M.testBit j = true ↔ (j : Int) < p ∧ j ≠ i ∧ R i j
theorem bit14 {N i : Nat} {p : Int} (p0 : 0 ≤ p) (hN : N < 2 ^ p.toNat) (hi : N.testBit i = true) : (i : Int) < p := by
  rcases Nat.lt_or_ge i p.toNat with q | q
  · omega
  · have : N < 2 ^ i := Nat.lt_of_lt_of_le hN (Nat.pow_le_pow_right (show 2 > 0 by decide) q)
    rw [Nat.testBit_lt_two_pow this] at hi
    exact absurd hi (by decide)
section CL
variable {d : Nat} {g : G} {h : AH} {K : Int → AH → Prop}
theorem mIsClear (hd : 0 < d) {p : Int} {N : Nat} {R : Nat → Nat → Prop} (p0 : 0 ≤ p) (p1 : p ≤ 14) (hN : N < 2 ^ p.toNat) (t : NearT R p h) (kT : ClearS R N → K 1 h) (kF : ¬ ClearS R N → K 0 h) : Call d M_M_isClear [vR 12 (-1), vI N, vI p] h K := by
  have hN2 : N < 16384 := Nat.lt_of_lt_of_le hN (Nat.pow_le_pow_right (n := 2) (show 2 > 0 by decide) (show p.toNat ≤ 14 by omega))
  refine c_M_isClear 0 hd ?_
  have key : ∀ m : Nat, ∀ v3 : Int, 0 ≤ v3 → v3 ≤ p → p - v3 < m → (∀ i j : Nat, (i : Int) < v3 → N.testBit i = true → N.testBit j = true → i ≠ j → ¬ R i j) → A_M_isClear_2 0 K N p v3 h := by
    intro m
    induction m with
    | zero => intro v3 x1 x2 e; omega
    | succ m ih =>
      intro v3 x1 x2 e s
      refine s_M_isClear_2 ⟨fun c => kT (fun i j hi hj hij => s i j (by have := bit14 p0 hN hi; omega) hi hj hij), fun c => ?_⟩
      have ev : v3 = ((v3.toNat : Nat) : Int) := by omega
      have q := ibit_and (U := N) (by omega) (w := v3.toNat) (by omega)
      rw [← ev] at q
      rw [q]
      by_cases hb : N.testBit v3.toNat = true
      · rw [if_pos hb]
        refine ⟨fun z => absurd rfl z, fun _ => ⟨ib (by omega), ?_⟩⟩
        obtain ⟨M, m1, m2, m3⟩ := t v3.toNat (by omega)
        rw [← ev] at m2
        rw [m2, iand_nat (by omega) (by omega)]
        refine ⟨fun z => ⟨ii (by omega), ih (v3 + 1) (by omega) (by omega) (by omega) (fun i j hi bi bj hij => ?_)⟩, fun z => kF (fun cl => ?_)⟩
        · by_cases y : (i : Int) = v3
          · intro hR
            have e3 : v3.toNat = i := by omega
            rw [e3] at m3
            have z2 : N &&& M = 0 := by omega
            have z3 : (N &&& M).testBit j = true := by
              rw [Nat.testBit_and, bj, (m3 j).mpr ⟨bit14 p0 hN bj, fun z => hij z.symm, hR⟩]; rfl
            rw [z2, Nat.zero_testBit] at z3
            exact absurd z3 (by decide)
          · exact s i j (by omega) bi bj hij
        · have z2 : N &&& M ≠ 0 := fun y => z (by rw [y]; rfl)
          obtain ⟨j, hj⟩ := bit_some z2
          rw [Nat.testBit_and, Bool.and_eq_true] at hj
          have := (m3 j).mp hj.2
          exact cl v3.toNat j hb hj.1 (fun y => this.2.1 y.symm) this.2.2
      · rw [if_neg hb]
        refine ⟨fun _ => ⟨ii (by omega), ih (v3 + 1) (by omega) (by omega) (by omega) (fun i j hi bi bj hij => ?_)⟩, fun z => absurd z (by decide)⟩
        by_cases y : (i : Int) = v3
        · exact absurd (by rw [show v3.toNat = i by omega]; exact bi) hb
        · exact s i j (by omega) bi bj hij
  exact key (p.toNat + 1) 0 (by decide) p0 (by omega) (fun i j hi => by omega)
end CL

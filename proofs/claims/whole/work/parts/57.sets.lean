/-! sets of words that are told -/
theorem ibit_and {U : Nat} (hU : U < 2147483648) {w : Nat} (hw : w < 32) : iand (ishr (U : Int) (w : Int)) 1 = if U.testBit w = true then 1 else 0 := by
  rw [ishr_nat hU hw, show (1 : Int) = ((1 : Nat) : Int) by rfl, iand_nat (Nat.lt_of_le_of_lt (Nat.shiftRight_le U w) hU) (by decide)]
  have e : (U >>> w &&& 1) = if U.testBit w = true then 1 else 0 := by
    rw [Nat.and_one_is_mod]
    have h1 : (U >>> w) % 2 = (U.testBit w).toNat := by
      rw [Nat.toNat_testBit, Nat.shiftRight_eq_div_pow]
    rw [h1]
    cases U.testBit w <;> rfl
  rw [e]
  split <;> rfl
/-- how many bits of N below m are set -/
noncomputable def pop (N m : Nat) : Int := cnt (fun v => N.testBit v.toNat = true) m
section ST
variable {d : Nat} {g : G} {lw : LW} {h : AH} {K : Int → AH → Prop}
theorem mBits (hd : 0 < d) {N : Nat} (hN : N < 16384) (k : K (pop N 14) h) : Call d M_M_bits [vI N] h K := by
  refine c_M_bits 0 hd ?_
  have key : ∀ m : Nat, ∀ v1 v2 : Int, 0 ≤ v2 → v2 ≤ 14 → 14 - v2 < m → v1 = pop N v2.toNat → A_M_bits_4 0 K N v1 v2 h := by
    intro m
    induction m with
    | zero => intro v1 v2 x1 x2 e; omega
    | succ m ih =>
      intro v1 v2 x1 x2 e t
      have ev : v2 = ((v2.toNat : Nat) : Int) := by omega
      have cb := cnt_b (fun v => N.testBit v.toNat = true) v2.toNat
      have t' : v1 = cnt (fun v => N.testBit v.toNat = true) v2.toNat := t
      refine s_M_bits_4 ⟨fun c => ?_, fun c => ?_⟩
      · rw [t, show v2.toNat = 14 by omega]; exact k
      · have q := ibit_and (U := N) (by omega) (w := v2.toNat) (by omega)
        rw [← ev] at q
        rw [q]
        by_cases hb : N.testBit v2.toNat = true
        · rw [if_pos hb]
          exact ⟨ii (by omega), ii (by omega), ih _ (v2 + 1) (by omega) (by omega) (by omega) (by unfold pop; rw [cnt_ti x1 hb, ← t'])⟩
        · rw [if_neg hb]
          exact ⟨ii (by omega), ii (by omega), ih _ (v2 + 1) (by omega) (by omega) (by omega) (by unfold pop; rw [cnt_fi x1 hb, ← t', Int.add_zero])⟩
  exact key 15 0 0 (by decide) (by decide) (by decide) rfl
theorem mStepTold (hd : 0 < d) {p i j : Int} {f : Int → Int} (r : RepM g h) (l : LaidM g lw h) (p1 : p ≤ 14) (to : ToldOk g f p) (tl : ∀ i, 0 ≤ i → i < p → h.1 88 i = f i) (i0 : 0 ≤ i) (i1 : i < p) (j0 : 0 ≤ j) (j1 : j < p) (k : K (if (sc g lw (f i) (f j)).1 = 0 then 1000000000 else (sc g lw (f i) (f j)).1) h) : Call d M_M_stepTold [vR 12 (-1), vI i, vI j] h K := by
  have nb := r.ok.nb
  have q1 := (to i i0 i1).1
  have q2 := (to j j0 j1).1
  refine c_M_stepTold 0 hd ?_
  rw [tl i i0 i1, tl j j0 j1, (l (f i) (f j) q1.1 q1.2 q2.1 q2.2).1]
  exact ⟨ib (by omega), ii (by omega), ib (by omega), ii (by omega), ib (by omega), k⟩
end ST

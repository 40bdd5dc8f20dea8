/-! the class reckons its steps -/
/-- the best of the places from f to below v -/
def CInv (g : G) (lw : LW) (a b κ f v x p : Int) : Prop :=
  (x = 0 ∧ ∀ i, f ≤ i → i < v → cst g lw a b κ i = 0) ∨
  (x ≠ 0 ∧ (f ≤ p ∧ p < v) ∧ cst g lw a b κ p = x ∧ ∀ i, f ≤ i → i < v → cst g lw a b κ i ≠ 0 → x < cst g lw a b κ i ∨ (x = cst g lw a b κ i ∧ p ≤ i))
def atr (a b : Int) (h h' : AH) : Prop := (∀ x y, ¬ (x = a ∧ y = b) → h'.2.2 33 x y = h.2.2 33 x y ∧ h'.2.2 34 x y = h.2.2 34 x y) ∧ ∀ x, x ≠ a → h'.2.1 35 x = h.2.1 35 x
theorem bit_or {N : Nat} (hN : N < 1099511627776) {w : Nat} (hw : w < 40) : lor (N : Int) (lshl 1 (w : Int)) = ((N ||| 1 <<< w : Nat) : Int) ∧ N ||| 1 <<< w < 1099511627776 := by
  have hs := shl_le hw
  have e1 : lshl 1 (w : Int) = ((1 <<< w : Nat) : Int) := lshl_nat (a := 1) (by omega) (by omega)
  exact ⟨by rw [e1, lor_nat (by omega) (by omega)], Nat.or_lt_two_pow (n := 40) hN hs⟩
theorem bit_or_test {N w x : Nat} : (N ||| 1 <<< w).testBit x = true ↔ N.testBit x = true ∨ w = x := by
  rw [Nat.testBit_or, Bool.or_eq_true, Nat.one_shiftLeft, Nat.testBit_two_pow, decide_eq_true_iff]
section CF
variable {d : Nat} {g : G} {lw : LW} {h : AH} {K : Int → AH → Prop}
theorem cFindCost (hd : 4 < d) {a b : Int} {N0 : Nat} (r : RepW0 g h) (rl : RepCL lw h) (a0 : 0 ≤ a) (a1 : a < gn g) (b0 : 0 ≤ b) (b1 : b < gn g) (ua : us g a) (ub : us g b) (q : KAt g h a b) (hk : h.2.2 30 a b ≠ -1) (h33 : h.2.2 33 a b = 0) (h35 : h.2.1 35 a = (N0 : Int)) (hN : N0 < 1099511627776)
    (k : ∀ h', StC g lw h' a b → h'.2.1 35 a = ((if (sc g lw a b).1 = 0 then N0 else N0 ||| 1 <<< b.toNat : Nat) : Int) → atr a b h h' → Fr [23, 24, 33, 34, 35] [(3, 8), (3, 9)] h h' → K 0 h') : Call d M_Steps_findCost [vR 6 (-1), vI a, vI b] h K := by
  have nb := r.1.nb
  rcases q with ⟨z, -⟩ | ⟨hκ, hfl, hiff⟩
  · exact absurd z hk
  obtain ⟨κ, eκ⟩ : ∃ κ, h.2.2 30 a b = κ := ⟨_, rfl⟩
  obtain ⟨f, ef⟩ : ∃ f, h.2.2 31 a b = f := ⟨_, rfl⟩
  obtain ⟨l, el⟩ : ∃ l, h.2.2 32 a b = l := ⟨_, rfl⟩
  rw [eκ] at hκ hiff
  rw [ef] at hfl hiff
  rw [el] at hfl hiff
  have hc : isCh g a b κ f := (hiff κ f).mpr ⟨rfl, by omega, by omega⟩
  have hrun : ∀ i, f ≤ i → i ≤ l → isCh g a b κ i := fun i x y => (hiff κ i).mpr ⟨rfl, x, y⟩
  refine c_Steps_findCost 4 hd (cNameChange (by decide) r a0 a1 b0 b1 eκ ef hκ (by omega) hc (fun h1 n1 f1 => ⟨ib (by omega), ib (by omega), ?_⟩))
  rw [f1.r 31, ef]
  have fbig : Fr [23, 24, 33, 34, 35] [(3, 8), (3, 9)] h h1 := f1.mono (by decide) (by decide)
  have key : ∀ m : Nat, ∀ (v : Int) (hh : AH), f ≤ v → v ≤ l + 1 → l + 1 - v < m → (∀ j : Nat, j < 9 → j ≠ 1 → hh.1 23 j = fac g a b κ f j) → CInv g lw a b κ f v (hh.2.2 33 a b) (hh.2.2 34 a b) → hh.2.1 35 a = ((if hh.2.2 33 a b = 0 then N0 else N0 ||| 1 <<< b.toNat : Nat) : Int) → atr a b h hh → Fr [23, 24, 33, 34, 35] [(3, 8), (3, 9)] h hh → A_Steps_findCost_15 4 K a b v hh := by
    intro m
    induction m with
    | zero => intro v hh x y e; omega
    | succ m ih =>
      intro v hh x y e nm ci n35 at' ff
      have rr := r.fr ff
      have rrl := rl.fr ff
      refine s_Steps_findCost_15 ⟨ib (by omega), ib (by omega), ?_⟩
      rw [ff.r 32, el]
      refine ⟨fun c => ?_, fun c => ?_⟩
      · have hv : v = l + 1 := by omega
        have hst : sc g lw a b = (hh.2.2 33 a b, if hh.2.2 33 a b = 0 then (0, 0) else (κ, hh.2.2 34 a b)) := by
          refine sc_of ?_
          rcases ci with ⟨c1, c2⟩ | ⟨c1, c2, c3, c4⟩
          · refine Or.inl ⟨c1, by rw [if_pos c1], fun _ _ κ' i hch => ?_⟩
            obtain ⟨rfl, z2, z3⟩ := (hiff κ' i).mp hch
            exact c2 i z2 (by omega)
          · refine Or.inr ⟨ua, ub, c1, ?_, ?_, fun κ' i hch h0 => ?_⟩
            · rw [if_neg c1]; exact hrun (hh.2.2 34 a b) c2.1 (by omega)
            · rw [if_neg c1]; exact c3
            · obtain ⟨rfl, z2, z3⟩ := (hiff κ' i).mp hch
              rw [if_neg c1]
              rcases c4 i z2 (by omega) h0 with w | w
              · exact Or.inl w
              · exact Or.inr ⟨w.1, Or.inr ⟨rfl, w.2⟩⟩
        refine k hh ?_ ?_ at' ff
        · unfold StC
          rw [hst]
          refine ⟨rfl, fun z => ?_⟩
          have z2 : ¬ hh.2.2 33 a b = 0 := z
          rw [if_neg z2, ff.r 30]
          exact ⟨eκ, rfl⟩
        · rw [hst]; exact n35
      · have fw : Fr [23, 24, 33, 34, 35] [(3, 8), (3, 9)] hh (wI hh 23 1 v) := Fr.wI (Or.inl (by decide))
        have fc : FacC (fac g a b κ v) (wI hh 23 1 v) := by
          intro j hj
          by_cases h1 : j = 1
          · subst h1
            exact rI_eq
          · rw [show (wI hh 23 1 v).1 23 (j : Int) = hh.1 23 j from rI_nk (by omega), nm j hj h1]
            have e9 := fac_runs hrun (v - f).toNat (by omega) j h1
            rw [show f + ((v - f).toNat : Int) = v by omega] at e9
            exact e9.symm
        refine cCostOf (by decide) (fac_in r.1 a0 a1 b0 b1 hκ (by omega) (hrun v x c)) (rrl.fr fw) fc (fun h3 f3 => ?_)
        have e33 : ∀ y, h3.2.2 33 a y = hh.2.2 33 a y := fun y => by rw [f3.r 33]; rfl
        have e34 : ∀ y, h3.2.2 34 a y = hh.2.2 34 a y := fun y => by rw [f3.r 34]; rfl
        have e35 : ∀ y, h3.2.1 35 y = hh.2.1 35 y := fun y => by rw [f3.l 35]; rfl
        have at3' : atr a b h h3 := ⟨fun p q hpq => ⟨by rw [f3.r 33]; exact (at'.1 p q hpq).1, by rw [f3.r 34]; exact (at'.1 p q hpq).2⟩, fun p hp => by rw [e35]; exact at'.2 p hp⟩
        have nm3 : ∀ j : Nat, j < 9 → j ≠ 1 → h3.1 23 j = fac g a b κ f j := fun j hj h1 => by
          rw [f3.i 23]
          rw [show (wI hh 23 1 v).1 23 (j : Int) = hh.1 23 j from rI_nk (by omega)]
          exact nm j hj h1
        have ff3 : Fr [23, 24, 33, 34, 35] [(3, 8), (3, 9)] h h3 := (ff.trans fw).trans (f3.mono (by decide) (by decide))
        have ce : costL (fac g a b κ v) lw none = cst g lw a b κ v := rfl
        rw [ce, e33]
        have stay : (cst g lw a b κ v = 0 ∨ (hh.2.2 33 a b ≠ 0 ∧ hh.2.2 33 a b ≤ cst g lw a b κ v)) → inI (v + 1) ∧ A_Steps_findCost_15 4 K a b (v + 1) h3 := by
          intro hs
          refine ⟨ii (by omega), ih (v + 1) h3 (by omega) (by omega) (by omega) nm3 ?_ ?_ at3' ff3⟩
          · rw [e33, e34]
            rcases ci with ⟨c1, c2⟩ | ⟨c1, c2, c3, c4⟩
            · refine Or.inl ⟨c1, fun i i0 i1 => ?_⟩
              by_cases hi : i = v
              · rw [hi]; omega
              · exact c2 i i0 (by omega)
            · refine Or.inr ⟨c1, by omega, c3, fun i i0 i1 h0 => ?_⟩
              by_cases hi : i = v
              · subst hi; omega
              · exact c4 i i0 (by omega) h0
          · rw [e33, e35]; exact n35
        have put : cst g lw a b κ v ≠ 0 → (hh.2.2 33 a b = 0 ∨ cst g lw a b κ v < hh.2.2 33 a b) → A_Steps_findCost_75 4 K a b v (cst g lw a b κ v) h3 := by
          intro h0 hs
          refine s_Steps_findCost_75 ⟨ib (by omega), ib (by omega), ii (by omega), ih (v + 1) _ (by omega) (by omega) (by omega) nm3 ?_ ?_ ?_ (((ff3.trans (Fr.wR (by decide))).trans (Fr.wR (by decide))).trans (Fr.wL (Or.inl (by decide))))⟩
          · have g33 : (wL (wR (wR h3 33 a b (cst g lw a b κ v)) 34 a b v) 35 a (lor (h3.2.1 35 a) (lshl 1 b))).2.2 33 a b = cst g lw a b κ v := by simp [wR, wL]
            have g34 : (wL (wR (wR h3 33 a b (cst g lw a b κ v)) 34 a b v) 35 a (lor (h3.2.1 35 a) (lshl 1 b))).2.2 34 a b = v := by simp [wR, wL]
            rw [g33, g34]
            refine Or.inr ⟨h0, by omega, rfl, fun i i0 i1 hi0 => ?_⟩
            by_cases hi : i = v
            · rw [hi]; exact Or.inr ⟨rfl, Int.le_refl _⟩
            · rcases ci with ⟨c1, c2⟩ | ⟨c1, c2, c3, c4⟩
              · exact absurd (c2 i i0 (by omega)) hi0
              · have := c4 i i0 (by omega) hi0
                omega
          · have g33 : (wL (wR (wR h3 33 a b (cst g lw a b κ v)) 34 a b v) 35 a (lor (h3.2.1 35 a) (lshl 1 b))).2.2 33 a b = cst g lw a b κ v := by simp [wR, wL]
            rw [g33, if_neg h0, rL_eq, e35, n35]
            have hb : b = ((b.toNat : Nat) : Int) := by omega
            have hb40 : b.toNat < 40 := by omega
            have hM : (if hh.2.2 33 a b = 0 then N0 else N0 ||| 1 <<< b.toNat : Nat) < 1099511627776 := by
              split
              · exact hN
              · exact (bit_or hN hb40).2
            have e9 := (bit_or hM hb40).1
            rw [← hb] at e9
            rw [e9]
            split
            · rfl
            · rw [Nat.or_assoc, Nat.or_self]
          · refine ⟨fun p q hpq => ⟨?_, ?_⟩, fun p hp => ?_⟩
            · show (wR (wR h3 33 a b _) 34 a b v).2.2 33 p q = _
              rw [rR_nk hpq, rR_nk hpq]; exact (at3'.1 p q hpq).1
            · show (wR (wR h3 33 a b _) 34 a b v).2.2 34 p q = _
              rw [rR_nk hpq, rR_nk hpq]; exact (at3'.1 p q hpq).2
            · rw [rL_nk hp]; exact at3'.2 p hp
        have cb := cst_b g lw a b κ v
        exact ⟨fun c0 => stay (Or.inl c0), fun c0 => ⟨fun c1 => put c0 (Or.inl c1), fun c1 => ⟨fun c2 => stay (Or.inr ⟨c1, c2⟩), fun c2 => put c0 (Or.inr c2)⟩⟩⟩
  refine key (l + 2 - f).toNat f h1 (Int.le_refl _) (by omega) (by omega) n1 ?_ ?_ ⟨fun p q _ => ⟨f1.r 33 (by decide) (by decide) _ _, f1.r 34 (by decide) (by decide) _ _⟩, fun p _ => f1.l 35 (by decide) (by decide) _⟩ fbig
  · rw [f1.r 33, h33]
    exact Or.inl ⟨rfl, fun i x y => by omega⟩
  · rw [f1.r 33, h33, if_pos rfl, f1.l 35]; exact h35
theorem cRefresh (hd : 5 < d) (r : RepCW g h) (rl : RepCL lw h) (q : KUpTo g (gn g) h) (ha : inI (h.1 6 10 + 1)) (fresh : h.1 6 8 = h.1 2 9 → h.1 6 9 = h.1 3 7 → LaidC g lw h)
    (k0 : LaidC g lw h → h.1 6 8 = h.1 2 9 → h.1 6 9 = h.1 3 7 → K 0 h)
    (k1 : ¬ (h.1 6 8 = h.1 2 9 ∧ h.1 6 9 = h.1 3 7) → ∀ h', LaidC g lw h' → h'.1 6 8 = h.1 2 9 → h'.1 6 9 = h.1 3 7 → h'.1 6 10 = h.1 6 10 + 1 → Fr [23, 24, 33, 34, 35] [(3, 8), (3, 9), (6, 8), (6, 9), (6, 10)] h h' → K 0 h') : Call d M_Steps_refresh [vR 6 (-1)] h K := by
  have nb := r.ok.nb
  refine c_Steps_refresh 5 hd ?_
  have main : ¬ (h.1 6 8 = h.1 2 9 ∧ h.1 6 9 = h.1 3 7) → A_Steps_refresh_29 5 K h := by
    intro hst
    refine s_Steps_refresh_29 ⟨ha, ?_⟩
    have fb : Fr [23, 24, 33, 34, 35] [(3, 8), (3, 9), (6, 8), (6, 9), (6, 10)] h (wI (wI (wI h 6 8 (h.1 2 9)) 6 9 (h.1 3 7)) 6 10 (h.1 6 10 + 1)) := ((Fr.wI (Or.inr (by decide))).trans (Fr.wI (Or.inr (by decide)))).trans (Fr.wI (Or.inr (by decide)))
    have e8 : (wI (wI (wI h 6 8 (h.1 2 9)) 6 9 (h.1 3 7)) 6 10 (h.1 6 10 + 1)).1 6 8 = h.1 2 9 := by simp [wI]
    have e9 : (wI (wI (wI h 6 8 (h.1 2 9)) 6 9 (h.1 3 7)) 6 10 (h.1 6 10 + 1)).1 6 9 = h.1 3 7 := by simp [wI]
    have e10 : (wI (wI (wI h 6 8 (h.1 2 9)) 6 9 (h.1 3 7)) 6 10 (h.1 6 10 + 1)).1 6 10 = h.1 6 10 + 1 := rI_eq
    have key : ∀ m : Nat, ∀ (v1 v2 : Int) (hh : AH) (N : Nat), 0 ≤ v1 → v1 < gn g → 0 ≤ v2 → v2 ≤ gn g → (gn g - v1) * 41 - v2 < m →
        (∀ a, 0 ≤ a → a < v1 → (∃ N : Nat, NextS g lw a N ∧ hh.2.1 35 a = (N : Int)) ∧ ∀ b, 0 ≤ b → b < gn g → StC g lw hh a b) →
        hh.2.1 35 v1 = (N : Int) → N < 1099511627776 → (∀ w : Nat, w < 40 → (N.testBit w = true ↔ (w : Int) < v2 ∧ (sc g lw v1 w).1 ≠ 0)) → (∀ b, 0 ≤ b → b < v2 → StC g lw hh v1 b) →
        hh.1 6 8 = h.1 2 9 → hh.1 6 9 = h.1 3 7 → hh.1 6 10 = h.1 6 10 + 1 → Fr [23, 24, 33, 34, 35] [(3, 8), (3, 9), (6, 8), (6, 9), (6, 10)] h hh → A_Steps_refresh_83 5 K v1 v2 hh := by
      intro m
      induction m with
      | zero => intro v1 v2 hh N x1 x2 x3 x4 e; omega
      | succ m ih =>
        intro v1 v2 hh N x1 x2 x3 x4 e old n35 nlt nbits cur a8 a9 a10 f
        have rr := r.fr f
        have rrl := rl.fr f
        have qq := q.fr f
        refine s_Steps_refresh_83 ?_
        rw [rr.n]
        refine ⟨fun c => ⟨ii (by omega), s_Steps_refresh_63 ?_⟩, fun c => ⟨ib (by omega), ib (by omega), ?_⟩⟩
        · rw [rr.n]
          have olds : ∀ a, 0 ≤ a → a < v1 + 1 → (∃ N : Nat, NextS g lw a N ∧ hh.2.1 35 a = (N : Int)) ∧ ∀ b, 0 ≤ b → b < gn g → StC g lw hh a b := by
            intro a a0 a1
            by_cases ha2 : a = v1
            · subst ha2
              refine ⟨⟨N, ⟨nlt, fun w hw => ?_⟩, n35⟩, fun b b0 b1 => cur b b0 (by omega)⟩
              rw [nbits w hw]
              exact ⟨fun z => ⟨by omega, z.2⟩, fun z => ⟨by omega, z.2⟩⟩
            · exact old a a0 (by omega)
          refine ⟨fun c2 => k1 hst hh (fun a a0 a1 => olds a a0 (by omega)) a8 a9 a10 f, fun c2 => ⟨ib (by omega), ?_⟩⟩
          refine ih (v1 + 1) 0 _ 0 (by omega) c2 (by omega) (by omega) (by omega) (fun a a0 a1 => ?_) rL_eq (by decide) (fun w hw => by simp; omega) (fun b b0 b1 => by omega) a8 a9 a10 (f.trans (Fr.wL (Or.inl (by decide))))
          obtain ⟨⟨N2, p1, p2⟩, p3⟩ := olds a a0 a1
          exact ⟨⟨N2, p1, by rw [rL_nk (by omega)]; exact p2⟩, p3⟩
        · have fw : Fr [23, 24, 33, 34, 35] [(3, 8), (3, 9), (6, 8), (6, 9), (6, 10)] h (wR hh 33 v1 v2 0) := f.trans (Fr.wR (by decide))
          have keep : ∀ h', (∀ x y, ¬ (x = v1 ∧ y = v2) → h'.2.2 33 x y = hh.2.2 33 x y ∧ h'.2.2 34 x y = hh.2.2 34 x y) → (∀ x y, h'.2.2 30 x y = hh.2.2 30 x y) → ∀ a b, ¬ (a = v1 ∧ b = v2) → StC g lw hh a b → StC g lw h' a b := by
            intro h' hy h30 a b hab s
            unfold StC at *
            rw [(hy a b hab).1, (hy a b hab).2, h30]
            exact s
          have w33 : ∀ x y, ¬ (x = v1 ∧ y = v2) → (wR hh 33 v1 v2 0).2.2 33 x y = hh.2.2 33 x y ∧ (wR hh 33 v1 v2 0).2.2 34 x y = hh.2.2 34 x y := fun x y hxy => ⟨rR_nk hxy, rR_nk hxy⟩
          have skip : sc g lw v1 v2 = (0, 0, 0) → inI (v2 + 1) ∧ A_Steps_refresh_83 5 K v1 (v2 + 1) (wR hh 33 v1 v2 0) := by
            intro hz
            refine ⟨ii (by omega), ih v1 (v2 + 1) _ N x1 x2 (by omega) (by omega) (by omega) (fun a a0 a1 => ?_) n35 nlt (fun w hw => ?_) (fun b b0 b1 => ?_) a8 a9 a10 fw⟩
            · obtain ⟨p1, p3⟩ := old a a0 a1
              exact ⟨p1, fun b b0 b1 => keep _ w33 (fun x y => rR_ne (by decide)) a b (by omega) (p3 b b0 b1)⟩
            · rw [nbits w hw]
              refine ⟨fun z => ⟨by omega, z.2⟩, fun z => ⟨?_, z.2⟩⟩
              by_cases hw2 : (w : Int) = v2
              · rw [hw2, hz] at z
                exact absurd rfl z.2
              · omega
            · by_cases hb : b = v2
              · subst hb
                unfold StC
                rw [hz]
                exact ⟨by simp [wR], fun z => absurd rfl z⟩
              · exact keep _ w33 (fun x y => rR_ne (by decide)) v1 b (by omega) (cur b b0 (by omega))
          have rw' := r.fr fw
          refine ⟨fun c2 => skip (sc_none (Or.inr ?_)), fun c2 => ?_⟩
          · rcases qq v1 v2 x1 x2 x3 c with ⟨_, z⟩ | ⟨z, _⟩
            · exact z
            · omega
          refine wIsUsed (by decide) rw' (fun _ _ u1 => br1 ?_) (fun nu => br0 (skip (sc_none (Or.inl (fun z => nu ⟨x1, x2, z.1⟩)))))
          refine wIsUsed (by decide) rw' (fun _ _ u2 => br1 ?_) (fun nu => br0 (skip (sc_none (Or.inl (fun z => nu ⟨x3, c, z.2⟩)))))
          have q30 : KAt g (wR hh 33 v1 v2 0) v1 v2 := (qq v1 v2 x1 x2 x3 c).same ⟨rR_ne (by decide), rR_ne (by decide), rR_ne (by decide)⟩
          refine cFindCost (by decide) (N0 := N) rw'.1 (rl.fr fw) x1 x2 x3 c u1 u2 q30 (by rw [rR_ne (by decide)]; exact c2) (by simp [wR]) n35 nlt (fun h4 s4 n4 at4 f4 => ⟨ii (by omega), ?_⟩)
          have hv : v2 = ((v2.toNat : Nat) : Int) := by omega
          have hv40 : v2.toNat < 40 := by omega
          refine ih v1 (v2 + 1) h4 (if (sc g lw v1 v2).1 = 0 then N else N ||| 1 <<< v2.toNat) x1 x2 (by omega) (by omega) (by omega) (fun a a0 a1 => ?_) n4 ?_ (fun w hw => ?_) (fun b b0 b1 => ?_) (by rw [f4.f 6 8]; exact a8) (by rw [f4.f 6 9]; exact a9) (by rw [f4.f 6 10]; exact a10) (fw.trans (f4.mono (by decide) (by decide)))
          · obtain ⟨⟨N2, p1, p2⟩, p3⟩ := old a a0 a1
            refine ⟨⟨N2, p1, by rw [at4.2 a (by omega)]; exact p2⟩, fun b b0 b1 => keep _ (fun x y hxy => ?_) (fun x y => by rw [f4.r 30]; exact rR_ne (by decide)) a b (by omega) (p3 b b0 b1)⟩
            exact ⟨(at4.1 x y hxy).1.trans (w33 x y hxy).1, (at4.1 x y hxy).2.trans (w33 x y hxy).2⟩
          · split
            · exact nlt
            · exact (bit_or nlt hv40).2
          · by_cases hz : (sc g lw v1 v2).1 = 0
            · rw [if_pos hz, nbits w hw]
              refine ⟨fun z => ⟨by omega, z.2⟩, fun z => ⟨?_, z.2⟩⟩
              by_cases hw2 : (w : Int) = v2
              · rw [hw2] at z
                exact absurd hz z.2
              · omega
            · rw [if_neg hz, bit_or_test, nbits w hw]
              constructor
              · rintro (z | z)
                · exact ⟨by omega, z.2⟩
                · have : (w : Int) = v2 := by omega
                  rw [this]; exact ⟨by omega, hz⟩
              · intro z
                by_cases hw2 : (w : Int) < v2
                · exact Or.inl ⟨hw2, z.2⟩
                · exact Or.inr (by omega)
          · by_cases hb : b = v2
            · rw [hb]; exact s4
            · refine keep _ (fun x y hxy => ?_) (fun x y => by rw [f4.r 30]; exact rR_ne (by decide)) v1 b (by omega) (cur b b0 (by omega))
              exact ⟨(at4.1 x y hxy).1.trans (w33 x y hxy).1, (at4.1 x y hxy).2.trans (w33 x y hxy).2⟩
    refine s_Steps_refresh_63 ?_
    have rr := r.fr fb
    rw [rr.n]
    refine ⟨fun c => k1 hst _ (fun a a0 a1 => by omega) e8 e9 e10 fb, fun c => ⟨ib (by omega), ?_⟩⟩
    exact key ((gn g) * 41 + 1).toNat 0 0 _ 0 (by decide) c (by decide) (by omega) (by omega) (fun a a0 a1 => by omega) rL_eq (by decide) (fun w hw => by simp; omega) (fun b b0 b1 => by omega) e8 e9 e10 (fb.trans (Fr.wL (Or.inl (by decide))))
  exact ⟨fun c => main (fun z => c z.1), fun c => ⟨fun c2 => main (fun z => c2 z.2), fun c2 => k0 (fresh c c2) c c2⟩⟩
end CF

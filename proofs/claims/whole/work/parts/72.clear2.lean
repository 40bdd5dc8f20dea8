/-! the largest set of told words no two of which are nearer than x -/
def RN (g : G) (f : Int → Int) (x : Int) : Nat → Nat → Prop := fun i j => farW g (gt g (f i)) (gl g (f i)) (f j) < x
theorem farW_sym (g : G) (a b : Int) : farW g (gt g a) (gl g a) b = farW g (gt g b) (gl g b) a := ed_sym _ _ _ _
theorem RN.sym {g : G} {f : Int → Int} {x : Int} {i j : Nat} (h : RN g f x i j) : RN g f x j i := by
  unfold RN at h ⊢
  rw [farW_sym]; exact h
/-- of the clear sets below m the first of the largest -/
def BestS (R : Nat → Nat → Prop) (m N : Nat) : Prop := N < m ∧ ClearS R N ∧ ∀ M, M < m → ClearS R M → pop M 14 < pop N 14 ∨ (pop M 14 = pop N 14 ∧ N ≤ M)
theorem BestS.uniq {R : Nat → Nat → Prop} {m N N' : Nat} (h : BestS R m N) (k : BestS R m N') : N = N' := by
  have a1 := h.2.2 N' k.1 k.2.1
  have a2 := k.2.2 N h.1 h.2.1
  omega
theorem BestS.keep {R : Nat → Nat → Prop} {m N : Nat} (h : BestS R m N) (hk : ClearS R m → pop m 14 ≤ pop N 14) : BestS R (m + 1) N := ⟨by have := h.1; omega, h.2.1, fun M hM hc => by
  by_cases z : M = m
  · rw [z] at hc ⊢
    have := hk hc
    have := h.1
    omega
  · exact h.2.2 M (by omega) hc⟩
theorem BestS.take {R : Nat → Nat → Prop} {m N : Nat} (h : BestS R m N) (hc : ClearS R m) (hk : pop N 14 < pop m 14) : BestS R (m + 1) m := ⟨by omega, hc, fun M hM hcM => by
  by_cases z : M = m
  · rw [z]; exact Or.inr ⟨rfl, Nat.le_refl _⟩
  · have := h.2.2 M (by omega) hcM; omega⟩
theorem clear_zero (R : Nat → Nat → Prop) : ClearS R 0 := fun i j hi => by rw [Nat.zero_testBit] at hi; exact absurd hi (by decide)
theorem best_one (R : Nat → Nat → Prop) : BestS R 1 0 := ⟨by decide, clear_zero R, fun M hM _ => Or.inr ⟨by rw [show M = 0 by omega], by omega⟩⟩
/-- the set with one place more on top -/
theorem clear_top {R : Nat → Nat → Prop} (hs : ∀ i j, R i j → R j i) {N t : Nat} (hN : N < 2 ^ t) : ClearS R (N ||| 1 <<< t) ↔ ClearS R N ∧ ∀ i, N.testBit i = true → ¬ R i t := by
  have lt : ∀ i, N.testBit i = true → i < t := fun i hi => by
    rcases Nat.lt_or_ge i t with z | z
    · exact z
    · rw [Nat.testBit_lt_two_pow (Nat.lt_of_lt_of_le hN (Nat.pow_le_pow_right (by decide) z))] at hi
      exact absurd hi (by decide)
  constructor
  · intro h
    exact ⟨fun i j hi hj hij => h i j (bit_or_test.mpr (Or.inl hi)) (bit_or_test.mpr (Or.inl hj)) hij, fun i hi => h i t (bit_or_test.mpr (Or.inl hi)) (bit_or_test.mpr (Or.inr rfl)) (by have := lt i hi; omega)⟩
  · rintro ⟨h1, h2⟩ i j hi hj hij
    rcases bit_or_test.mp hi with a | a
    · rcases bit_or_test.mp hj with b | b
      · exact h1 i j a b hij
      · rw [← b]; exact h2 i a
    · rcases bit_or_test.mp hj with b | b
      · rw [← a]; exact fun z => h2 j b (hs _ _ z)
      · omega
section MCL
variable {d : Nat} {g : G} {h : AH} {K : Int → AH → Prop}
theorem mClear (hd : 3 < d) {p x q : Int} {t : Tp} (r : RepM g h) (rt : RepMT t h) (k0 : ¬ (1 ≤ p ∧ p ≤ 14 ∧ 1 ≤ x ∧ x ≤ 9 ∧ 0 ≤ q ∧ q ≤ 1 ∧ p ≤ t.1) → K (-1) h) (k3 : ∀ h', 1 ≤ p ∧ p ≤ 14 ∧ 1 ≤ x ∧ x ≤ 9 ∧ 0 ≤ q ∧ q ≤ 1 ∧ p ≤ t.1 → ¬ ToldOk g t.2 p → RepMT (0, t.2) h' → Fr [63, 88, 90, 91] [(12, 9), (12, 11)] h h' → K (-3) h') (k : ∀ h' (N : Nat), 1 ≤ p ∧ p ≤ 14 ∧ 1 ≤ x ∧ x ≤ 9 ∧ 0 ≤ q ∧ q ≤ 1 ∧ p ≤ t.1 → ToldOk g t.2 p → BestS (RN g t.2 x) (2 ^ p.toNat) N → RepMT (0, t.2) h' → Fr [63, 88, 90, 91] [(12, 9), (12, 11)] h h' → K (if q = 0 then pop N 14 else N) h') : Call d M_M_clear [vR 12 (-1), vI p, vI x, vI q] h K := by
  refine c_M_clear 3 hd (mIn (by decide) (fun p0 p1 => br1 (mIn (by decide) (fun x0 x1 => br1 (mIn (by decide) (fun q0 q1 => br1 ⟨fun c => ?_, fun c => k0 (by rw [rt.2.1] at c; omega)⟩) (fun c => br0 (k0 (by omega))))) (fun c => br0 (k0 (by omega))))) (fun c => br0 (k0 (by omega))))
  rw [rt.2.1] at c
  have G : 1 ≤ p ∧ p ≤ 14 ∧ 1 ≤ x ∧ x ≤ 9 ∧ 0 ≤ q ∧ q ≤ 1 ∧ p ≤ t.1 := ⟨p0, p1, x0, x1, q0, q1, c⟩
  refine mTakesWords (by decide) r rt (by omega) (by omega) c (fun h1 to tl rt1 f1 => br1' ?_) (fun h1 nt rt1 f1 => br0' (k3 h1 G nt rt1 (f1.mono (by decide) (by decide))))
  have r1 := r.fr f1
  have hA2 : 2 ^ p.toNat ≤ 16384 := pow_le_k 14 (by omega)
  have hA0 : 0 < 2 ^ p.toNat := Nat.two_pow_pos _
  have es : ishl 1 p = ((2 ^ p.toNat : Nat) : Int) := by rw [ish1 (by omega) (by omega), Nat.one_shiftLeft]
  have tlh : ∀ hh, Fr [63, 90, 91] [(12, 9)] h1 hh → ∀ i, 0 ≤ i → i < p → hh.1 88 i = t.2 i := fun hh ff i i0 i1 => by rw [ff.i 88]; exact tl i i0 i1
  have fin : ∀ hh, Fr [63, 90, 91] [(12, 9)] h1 hh → RepMT (0, t.2) hh ∧ Fr [63, 88, 90, 91] [(12, 9), (12, 11)] h hh := fun hh ff => ⟨rt1.fr ff, (f1.mono (by decide) (by decide)).trans (ff.mono (by decide) (by decide))⟩
  have search : ∀ m : Nat, ∀ (N M : Nat) (hh : AH), M ≤ 2 ^ p.toNat → 2 ^ p.toNat - M < m → Fr [63, 90, 91] [(12, 9)] h1 hh → NearT (RN g t.2 x) p hh → BestS (RN g t.2 x) M N → A_M_clear_142 3 K p q N M hh := by
    intro m
    induction m with
    | zero => intro N M hh x1 e; omega
    | succ m ih =>
      intro N M hh x1 e ff nt b
      refine s_M_clear_142 ?_
      rw [es]
      have fi := fin hh ff
      refine ⟨fun c2 => ?_, fun c2 => ?_⟩
      · have eM : M = 2 ^ p.toNat := by omega
        rw [eM] at b
        have kk := k hh N G to b fi.1 fi.2
        refine ⟨fun hq => ?_, fun hq => mBits (by decide) (by have := b.1; omega) ?_⟩
        · rw [if_neg hq] at kk; exact kk
        · rw [if_pos hq] at kk; exact kk
      · have hM : M < 2 ^ p.toNat := by omega
        refine mBits (by decide) (by omega) (mBits (by decide) (by have := b.1; omega) ⟨fun c3 => ⟨ii (by omega), ?_⟩, fun c3 => ?_⟩)
        · exact ih N (M + 1) hh (by omega) (by omega) ff nt (b.keep (fun _ => c3))
        · refine mIsClear (by decide) (by omega) p1 hM nt (fun cl => br1 ⟨ii (by omega), ?_⟩) (fun nc => br0 ⟨ii (by omega), ?_⟩)
          · exact ih M (M + 1) hh (by omega) (by omega) ff nt (b.take cl c3)
          · exact ih N (M + 1) hh (by omega) (by omega) ff nt (b.keep (fun z => absurd z nc))
  have inner : ∀ m : Nat, ∀ (v4 v5 : Int) (M : Nat) (hh : AH), 0 ≤ v4 → v4 < p → 0 ≤ v5 → v5 ≤ p → (p - v4) * 15 - v5 < m → Fr [63, 90, 91] [(12, 9)] h1 hh → (∀ i : Nat, (i : Int) < v4 → ∃ M : Nat, M < 16384 ∧ hh.1 91 i = (M : Int) ∧ ∀ j : Nat, M.testBit j = true ↔ (j : Int) < p ∧ j ≠ i ∧ RN g t.2 x i j) → M < 2 ^ p.toNat → hh.1 91 v4 = (M : Int) → MaskP (fun j => (j : Int) ≠ v4 ∧ RN g t.2 x v4.toNat j) v5 M → A_M_clear_70 3 K p x q v4 v5 hh := by
    intro m
    induction m with
    | zero => intro v4 v5 M hh y1 y2 y3 y4 e; omega
    | succ m ih =>
      intro v4 v5 M hh y1 y2 y3 y4 e ff s hM e91 mk
      refine s_M_clear_70 ⟨fun c2 => ⟨ii (by omega), s_M_clear_53 ?_⟩, fun c2 => ?_⟩
      · have s' : ∀ i : Nat, (i : Int) < v4 + 1 → ∃ M : Nat, M < 16384 ∧ hh.1 91 i = (M : Int) ∧ ∀ j : Nat, M.testBit j = true ↔ (j : Int) < p ∧ j ≠ i ∧ RN g t.2 x i j := fun i hi => by
          by_cases z : (i : Int) = v4
          · refine ⟨M, by omega, by rw [z]; exact e91, fun j => ?_⟩
            rw [mk.full (show v5 = p by omega) j, show v4.toNat = i by omega, ← z]
            constructor
            · rintro ⟨w1, w2, w3⟩
              exact ⟨w1, fun y => w2 (by omega), w3⟩
            · rintro ⟨w1, w2, w3⟩
              exact ⟨w1, fun y => w2 (by omega), w3⟩
          · exact s i (by omega)
        refine ⟨fun c3 => search (2 ^ p.toNat + 1) 0 1 hh (by omega) (by omega) ff (fun i hi => s' i (by omega)) (best_one _), fun c3 => ⟨ib (by omega), ih (v4 + 1) 0 0 _ (by omega) c3 (by decide) (by omega) (by omega) (ff.trans (Fr.wI (Or.inl (by decide)))) (fun i hi => ?_) hA0 rI_eq MaskP.start⟩⟩
        obtain ⟨M', w1, w2, w3⟩ := s' i hi
        exact ⟨M', w1, by rw [rI_nk (by omega)]; exact w2, w3⟩
      · have ev : v5 = ((v5.toNat : Nat) : Int) := by omega
        have ew : v4 = ((v4.toNat : Nat) : Int) := by omega
        refine ⟨fun c3 => ⟨ii (by omega), ih v4 (v5 + 1) M hh y1 y2 (by omega) (by omega) (by omega) ff s hM e91 (mk.skip y3 (fun z => z.1 (by omega)))⟩, fun c3 => ⟨ib (by omega), ib (by omega), ?_⟩⟩
        rw [tlh hh ff v4 y1 y2, tlh hh ff v5 y3 c2]
        have b1 := (to v4 y1 y2).1
        have b2 := (to v5 y3 c2).1
        refine mFarBetween (by decide) (r1.fr ff) b1.1 b1.2 b2.1 b2.2 (fun h3 f3 => ?_)
        have ff3 := ff.trans (f3.mono (L2 := [63, 90, 91]) (F2 := [(12, 9)]) (by decide) (by decide))
        have s3 : ∀ i : Nat, (i : Int) < v4 → ∃ M : Nat, M < 16384 ∧ h3.1 91 i = (M : Int) ∧ ∀ j : Nat, M.testBit j = true ↔ (j : Int) < p ∧ j ≠ i ∧ RN g t.2 x i j := fun i hi => by
          obtain ⟨M', w1, w2, w3⟩ := s i hi
          exact ⟨M', w1, by rw [f3.i 91]; exact w2, w3⟩
        have e91' : h3.1 91 v4 = (M : Int) := by rw [f3.i 91]; exact e91
        have hR : RN g t.2 x v4.toNat v5.toNat ↔ farW g (gt g (t.2 v4)) (gl g (t.2 v4)) (t.2 v5) < x := by
          unfold RN
          rw [← ev, ← ew]
        refine ⟨fun c4 => ⟨ii (by omega), ih v4 (v5 + 1) M h3 y1 y2 (by omega) (by omega) (by omega) ff3 s3 hM e91' (mk.skip y3 (fun z => by have := hR.mp z.2; omega))⟩, fun c4 => ⟨ii (by omega), ?_⟩⟩
        rw [e91', ior1 hM (by omega) y3 (by omega)]
        exact ih v4 (v5 + 1) _ _ y1 y2 (by omega) (by omega) (by omega) (ff3.trans (Fr.wI (Or.inl (by decide)))) (fun i hi => by
          obtain ⟨M', w1, w2, w3⟩ := s3 i hi
          exact ⟨M', w1, by rw [rI_nk (by omega)]; exact w2, w3⟩) (or_lt hM (by omega)) rI_eq (mk.put y3 ⟨by omega, hR.mpr c4⟩)
  refine s_M_clear_53 ⟨fun c2 => by omega, fun c2 => ⟨ib (by omega), inner ((p.toNat + 1) * 15) 0 0 0 _ (by decide) (by omega) (by decide) (by omega) (by omega) (Fr.wI (Or.inl (by decide))) (fun i hi => by omega) hA0 rI_eq MaskP.start⟩⟩
end MCL

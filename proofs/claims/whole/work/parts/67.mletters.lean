section EDM2
variable {d : Nat} {g : G} {h : AH} {K : Int → AH → Prop}
theorem mLaysRow (hd : 1 < d) {w : Int} (r : RepM g h) (w0 : 0 ≤ w) (w1 : w < gn g) (k : ∀ h', Row0 (gl g w) (gt g w) h' → Fr [63] [(12, 9)] h h' → K 0 h') : Call d M_M_laysRow [vR 12 (-1), vI w] h K := by
  have nb := r.ok.nb
  have lb := r.ok.lb w0 w1
  refine c_M_laysRow 1 hd ⟨ib (by omega), ?_⟩
  rw [r.l w0 w1]
  have key : ∀ m : Nat, ∀ (v2 : Int) (hh : AH), 0 ≤ v2 → v2 ≤ gl g w → gl g w - v2 < m → hh.1 12 9 = gl g w → Fr [63] [(12, 9)] h hh → (∀ i, 0 ≤ i → i < v2 → hh.1 63 i = gt g w i) → A_M_laysRow_12 1 K w v2 hh := by
    intro m
    induction m with
    | zero => intro v2 hh x1 x2 e; omega
    | succ m ih =>
      intro v2 hh x1 x2 e e9 ff t
      refine s_M_laysRow_12 ?_
      rw [e9]
      refine ⟨fun c => k hh ⟨e9, by omega, fun i i0 i1 => t i i0 (by omega)⟩ ff, fun c => mLetter (by decide) (r.fr ff) w0 w1 x1 c ⟨ib (by omega), ii (by omega), ih (v2 + 1) _ (by omega) (by omega) (by omega) (by rw [rI_ne (by decide)]; exact e9) (ff.trans (Fr.wI (Or.inl (by decide)))) (fun i i0 i1 => ?_)⟩⟩
      by_cases z : i = v2
      · rw [z, rI_eq]
      · rw [rI_nk z]; exact t i i0 (by omega)
  exact key 10 0 _ (by decide) (by omega) (by omega) rI_eq (Fr.wI (Or.inr (by decide))) (fun i i0 i1 => by omega)
theorem mFarBetween (hd : 2 < d) {a b : Int} (r : RepM g h) (a0 : 0 ≤ a) (a1 : a < gn g) (b0 : 0 ≤ b) (b1 : b < gn g) (k : ∀ h', Fr [63, 90] [(12, 9)] h h' → K (farW g (gt g a) (gl g a) b) h') : Call d M_M_farBetween [vR 12 (-1), vI a, vI b] h K :=
  c_M_farBetween 2 hd (mLaysRow (by decide) r a0 a1 (fun h1 q1 f1 => mFarRow (by decide) (r.fr f1) q1 b0 b1 (fun h2 f2 => k h2 ((f1.mono (by decide) (by decide)).trans (f2.mono (by decide) (by decide))))))
theorem mFarBy (hd : 3 < d) {a b : Int} (r : RepM g h) (k0 : ¬ ((0 ≤ a ∧ a < gn g) ∧ 0 ≤ b ∧ b < gn g) → K (-1) h) (k : ∀ h', 0 ≤ a → a < gn g → 0 ≤ b → b < gn g → Fr [63, 90] [(12, 9)] h h' → K (farW g (gt g a) (gl g a) b) h') : Call d M_M_farBy [vR 12 (-1), vI a, vI b] h K :=
  c_M_farBy 3 hd (mIsWord (by decide) r (fun a0 a1 => br1 (mIsWord (by decide) r (fun b0 b1 => br1 (mFarBetween (by decide) r a0 a1 b0 b1 (fun h' ff => k h' a0 a1 b0 b1 ff))) (fun c => br0 (k0 (fun z => c z.2))))) (fun c => br0 (k0 (fun z => c z.1))))
theorem mTakesLetters (hd : 1 < d) {p : Int} {t : Tp} (rt : RepMT t h) (p0 : 0 ≤ p) (p1 : p ≤ 12) (p2 : p ≤ t.1) (kT : ∀ h', (∀ i, 0 ≤ i → i < p → isLet (t.2 i)) → Row0 p (fun i => t.2 i - 97) h' → RepMT (0, t.2) h' → Fr [63] [(12, 9), (12, 11)] h h' → K 1 h') (kF : ∀ h', ¬ (∀ i, 0 ≤ i → i < p → isLet (t.2 i)) → RepMT (0, t.2) h' → Fr [63] [(12, 9), (12, 11)] h h' → K 0 h') : Call d M_M_takesLetters [vR 12 (-1), vI p] h K := by
  refine c_M_takesLetters 1 hd ?_
  have f0 : Fr [63] [(12, 9), (12, 11)] h (wI (wI h 12 11 0) 12 9 p) := (Fr.wI (Or.inr (by decide))).trans (Fr.wI (Or.inr (by decide)))
  have e11 : (wI (wI h 12 11 0) 12 9 p).1 12 11 = 0 := by rw [rI_nk (by decide)]; exact rI_eq
  have e64 : ∀ i, 0 ≤ i → i < p → (wI (wI h 12 11 0) 12 9 p).1 64 i = sgn (t.2 i) := fun i i0 i1 => by
    rw [rI_ne (by decide), rI_ne (by decide)]
    exact (rt.2.2 i i0 (by omega)).2
  have fin : ∀ hh, Fr [63] [] (wI (wI h 12 11 0) 12 9 p) hh → RepMT (0, t.2) hh ∧ Fr [63] [(12, 9), (12, 11)] h hh := fun hh ff => ⟨⟨⟨Int.le_refl 0, show (0 : Int) ≤ 200 by decide⟩, by rw [ff.i 12]; exact e11, fun k k0 k1 => by have k1 : k < 0 := k1; omega⟩, f0.trans (ff.mono (by decide) (by decide))⟩
  have key : ∀ m : Nat, ∀ (v2 : Int) (hh : AH), 0 ≤ v2 → v2 ≤ p → p - v2 < m → Fr [63] [] (wI (wI h 12 11 0) 12 9 p) hh → (∀ i, 0 ≤ i → i < v2 → isLet (t.2 i) ∧ hh.1 63 i = t.2 i - 97) → A_M_takesLetters_12 1 K p v2 hh := by
    intro m
    induction m with
    | zero => intro v2 hh x1 x2 e; omega
    | succ m ih =>
      intro v2 hh x1 x2 e ff s
      have fi := fin hh ff
      refine s_M_takesLetters_12 ⟨fun c => kT hh (fun i i0 i1 => (s i i0 (by omega)).1) ⟨by rw [ff.i 12]; exact rI_eq, by omega, fun i i0 i1 => (s i i0 (by omega)).2⟩ fi.1 fi.2, fun c => ⟨ib (by have := rt.1; omega), ?_⟩⟩
      rw [ff.i 64, e64 v2 x1 c]
      have bb := (rt.2.2 v2 x1 (by omega)).1
      have sg : sgn (t.2 v2) = t.2 v2 ∨ (sgn (t.2 v2) < 0 ∧ 128 ≤ t.2 v2) := by
        unfold sgn
        split
        · exact Or.inl rfl
        · right; omega
      refine mIn (by decide) (fun c1 c2 => br1' ⟨?_, ib (by omega), ii (by omega), ih (v2 + 1) _ (by omega) (by omega) (by omega) (ff.trans (Fr.wI (Or.inl (by decide)))) (fun i i0 i1 => ?_)⟩) (fun cn => br0' (kF hh (fun z => ?_) fi.1 fi.2))
      · rw [ff.i 64, e64 v2 x1 c]; exact ii (by omega)
      · by_cases z : i = v2
        · rw [z, rI_eq, ff.i 64, e64 v2 x1 c]
          exact ⟨⟨by omega, by omega⟩, by omega⟩
        · rw [rI_nk z]; exact s i i0 (by omega)
      · have := z v2 x1 c
        unfold isLet at this
        omega
  exact key (p.toNat + 1) 0 _ (by decide) p0 (by omega) Fr.refl (fun i i0 i1 => by omega)
end EDM2

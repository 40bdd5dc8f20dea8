section NRM
variable {d : Nat} {g : G} {h : AH} {K : Int → AH → Prop}
theorem mNear (hd : 3 < d) {p q : Int} {t : Tp} (r : RepM g h) (rt : RepMT t h) (k0 : ¬ (1 ≤ p ∧ p ≤ 12 ∧ 0 ≤ q ∧ q ≤ 2 ∧ p ≤ t.1) → K (-1) h) (k2 : ∀ h', 1 ≤ p ∧ p ≤ 12 ∧ 0 ≤ q ∧ q ≤ 2 ∧ p ≤ t.1 → ((¬ ∀ i, 0 ≤ i → i < p → isLet (t.2 i)) ∨ ∀ u, 0 ≤ u → u < gn g → ¬ us g u) → RepMT (0, t.2) h' → Fr [63, 90] [(12, 9), (12, 11)] h h' → K (-2) h') (k : ∀ h' x b c, 1 ≤ p ∧ p ≤ 12 ∧ 0 ≤ q ∧ q ≤ 2 ∧ p ≤ t.1 → (∀ i, 0 ≤ i → i < p → isLet (t.2 i)) → NearI g (fun i => t.2 i - 97) p (gn g) x b c → b ≠ -1 → RepMT (0, t.2) h' → Fr [63, 90] [(12, 9), (12, 11)] h h' → K (if q = 0 then x else if q = 1 then b else c) h') : Call d M_M_near [vR 12 (-1), vI p, vI q] h K := by
  refine c_M_near 3 hd (mIn (by decide) (fun p0 p1 => br1 (mIn (by decide) (fun q0 q1 => br1 ⟨fun c => ?_, fun c => k0 (by rw [rt.2.1] at c; omega)⟩) (fun c => br0 (k0 (by omega))))) (fun c => br0 (k0 (by omega))))
  rw [rt.2.1] at c
  have G : 1 ≤ p ∧ p ≤ 12 ∧ 0 ≤ q ∧ q ≤ 2 ∧ p ≤ t.1 := ⟨p0, p1, q0, q1, c⟩
  refine mTakesLetters (by decide) rt (by omega) p1 c (fun h1 al r0 rt1 f1 => br1' ?_) (fun h1 na rt1 f1 => br0' (k2 h1 G (Or.inl na) rt1 (f1.mono (by decide) (by decide))))
  have nb := r.ok.nb
  have r1 := r.fr f1
  have fin : ∀ hh, Fr [90] [] h1 hh → RepMT (0, t.2) hh ∧ Fr [63, 90] [(12, 9), (12, 11)] h hh := fun hh ff => ⟨rt1.fr ff, (f1.mono (by decide) (by decide)).trans (ff.mono (by decide) (by decide))⟩
  have key : ∀ m : Nat, ∀ (v3 v4 v5 v6 : Int) (hh : AH), 0 ≤ v6 → v6 ≤ gn g → gn g - v6 < m → Fr [90] [] h1 hh → NearI g (fun i => t.2 i - 97) p v6 v3 v4 v5 → (v4 = -1 → v3 = 1000000000 ∧ v5 = 0) → (v4 ≠ -1 → v3 ≤ 20 ∧ 0 ≤ v5 ∧ v5 ≤ v6) → A_M_near_52 3 K q v3 v4 v5 v6 hh := by
    intro m
    induction m with
    | zero => intro v3 v4 v5 v6 hh x1 x2 e; omega
    | succ m ih =>
      intro v3 v4 v5 v6 hh x1 x2 e ff ni b0 b1
      have rr := r1.fr ff
      refine s_M_near_52 ?_
      rw [rr.n]
      refine ⟨fun c2 => ?_, fun c2 => ?_⟩
      · have e6 : v6 = gn g := by omega
        rw [e6] at ni
        have fi := fin hh ff
        refine ⟨fun hne => ?_, fun heq => k2 hh G (Or.inr (fun u u0 u1 => by
          rcases ni with ⟨_, n2⟩ | ⟨n1, _⟩
          · exact n2 u u0 u1
          · omega)) fi.1 fi.2⟩
        have kk := k hh v3 v4 v5 G al ni hne fi.1 fi.2
        refine ⟨fun hq => ⟨fun hq1 => ?_, fun hq1 => ?_⟩, fun hq => ?_⟩
        · rw [if_neg hq, if_neg hq1] at kk; exact kk
        · rw [if_neg hq, if_pos hq1] at kk; exact kk
        · rw [if_pos hq] at kk; exact kk
      · have fb := farW_b r.ok (f := fun i => t.2 i - 97) p1 x1 c2
        refine mIsUsed (by decide) rr x1 c2 (fun hu => br1' (mFarRow (f := fun i => t.2 i - 97) (n := p) (by decide) rr ⟨by rw [ff.i 12]; exact r0.1, r0.2.1, fun i i0 i1 => by rw [ff.i 63]; exact r0.2.2 i i0 i1⟩ x1 c2 (fun h3 f3 => ?_))) (fun hn => br0' ⟨ii (by omega), ih v3 v4 v5 (v6 + 1) hh (by omega) (by omega) (by omega) ff (ni.skip x1 hn) b0 (fun z => by have := b1 z; omega)⟩)
        have go : ∀ x' b' c', (((v4 = -1 ∨ farW g (fun i => t.2 i - 97) p v6 < v3) ∧ x' = farW g (fun i => t.2 i - 97) p v6 ∧ b' = v6 ∧ c' = 1) ∨ (v4 ≠ -1 ∧ v3 < farW g (fun i => t.2 i - 97) p v6 ∧ x' = v3 ∧ b' = v4 ∧ c' = v5) ∨ (v4 ≠ -1 ∧ v3 = farW g (fun i => t.2 i - 97) p v6 ∧ x' = v3 ∧ b' = v4 ∧ c' = v5 + 1)) → inI (v6 + 1) ∧ A_M_near_52 3 K q x' b' c' (v6 + 1) h3 := fun x' b' c' hx => ⟨ii (by omega), ih x' b' c' (v6 + 1) h3 (by omega) (by omega) (by omega) (ff.trans f3) (ni.step x1 hu hx) (fun z => by omega) (fun z => by
          by_cases y : v4 = -1
          · omega
          · have := b1 y; omega)⟩
        have bnd : v4 = -1 ∨ v4 ≠ -1 := by omega
        refine ⟨fun c3 => ⟨fun c4 => ?_, fun c4 => ?_⟩, fun c3 => ?_⟩
        · have hne : v4 ≠ -1 := fun z => by have := b0 z; omega
          refine s_M_near_106 (mMin (by decide) ?_)
          rw [if_pos c3, show min v3 (farW g (fun i => t.2 i - 97) p v6) = v3 by omega]
          exact go _ _ _ (Or.inr (Or.inl ⟨hne, by omega, rfl, rfl, rfl⟩))
        · have hne : v4 ≠ -1 := fun z => by have := b0 z; omega
          have := b1 hne
          refine ⟨ii (by omega), s_M_near_106 (mMin (by decide) ?_)⟩
          rw [if_pos c3, show min v3 (farW g (fun i => t.2 i - 97) p v6) = v3 by omega]
          exact go _ _ _ (Or.inr (Or.inr ⟨hne, c4.symm, rfl, rfl, rfl⟩))
        · refine s_M_near_106 (mMin (by decide) ?_)
          rw [if_neg (by omega), show min v3 (farW g (fun i => t.2 i - 97) p v6) = farW g (fun i => t.2 i - 97) p v6 by omega]
          exact go _ _ _ (Or.inl ⟨Or.inr c3, rfl, rfl, rfl⟩)
  exact key 41 1000000000 (-1) 0 0 h1 (by decide) (by omega) (by omega) Fr.refl (Or.inl ⟨rfl, fun u u0 u1 => by omega⟩) (fun _ => ⟨rfl, rfl⟩) (fun z => absurd rfl z)
end NRM

/-! the reference's call law -/
section RM8
variable {d : Nat} {h : AH} {K : Int → AH → Prop} {lw : LW} {t : Tp}
abbrev FRw (h h' : AH) : Prop := Fr [65, 66, 67, 68, 69, 70, 71, 72, 73, 74, 75] [((12 : Nat), (11 : Int)), (12, 12), (12, 13), (12, 14), (12, 15), (12, 16), (12, 17), (12, 18), (12, 19), (12, 20)] h h'
theorem mCopy {f : Int → Int} {n p s : Int} (r : RdG f n p s h) (hs : s ≤ 160) (q : LawM lw s h) (e20 : h.1 12 20 = lw.length) (k : ∀ h', RepML lw h' → Fr [71, 72, 73, 74, 75] [] h h' → K lw.length h') : A_M_law_110 9 K 0 h := by
  have s0 := r.2.2.2
  have l12 := q.1.2
  have two : ∀ h1, Fr [71] [] h h1 → (∀ i, 0 ≤ i → i < s → h1.1 71 i = h.1 65 i) → A_M_law_138 9 K 0 h1 := fun h1 f1 c1 => by
    have key : ∀ (m : Nat) (v : Int) (hh : AH), (m : Int) = lw.length - v → 0 ≤ v → Fr [72, 73, 74, 75] [] h1 hh → (∀ i, 0 ≤ i → i < v → hh.1 72 i = h.1 67 i ∧ hh.1 73 i = h.1 68 i ∧ hh.1 74 i = h.1 69 i ∧ hh.1 75 i = h.1 70 i) → A_M_law_138 9 K v hh := by
      intro m
      induction m with
      | zero =>
        intro v hh e v0 ff c
        have e18 : hh.1 12 18 = lw.length := by rw [ff.f 12 18, f1.f 12 18]; exact q.1.1
        refine s_M_law_138 ⟨fun _ => ?_, fun z => by omega⟩
        rw [e18]
        refine k hh ⟨⟨by rw [ff.f 12 20, f1.f 12 20]; exact e20, l12⟩, fun j E C hj => ?_⟩ ((f1.mono (by decide) (by decide)).trans (ff.mono (by decide) (by decide)))
        have hj2 := (List.getElem?_eq_some_iff.mp hj).1
        obtain ⟨a1, a2, a3, a4⟩ := c j (by omega) (by omega)
        obtain ⟨⟨g1, g2, g3, g4, g5, g6⟩, g7⟩ := q.2 j E C hj
        have e71 : ∀ (off : Int) (l : List Int), 0 ≤ off → off + (l.length : Int) ≤ s → codeAt h 65 off l → codeAt hh 71 off l := fun off l h0 h1' cc i v hv => by
          have hi := (List.getElem?_eq_some_iff.mp hv).1
          rw [ff.i 71, c1 _ (by omega) (by omega)]
          exact cc i v hv
        rw [a1, a2, a3, a4]
        cases E with
        | none =>
          have g7 : h.1 69 j = h.1 68 j := g7
          exact ⟨g1, g2, g3, by omega, g5, e71 _ _ (by omega) (by omega) g6, g7⟩
        | some x =>
          obtain ⟨w, g8, g9⟩ := g7
          exact ⟨g1, g2, g3, by omega, g5, e71 _ _ (by omega) (by omega) g6, w, g8, e71 _ _ g3 (by omega) g9⟩
      | succ m ih =>
        intro v hh e v0 ff c
        have e18 : hh.1 12 18 = lw.length := by rw [ff.f 12 18, f1.f 12 18]; exact q.1.1
        have d67 : hh.1 67 v = h.1 67 v := by rw [ff.i 67, f1.i 67]
        have d68 : hh.1 68 v = h.1 68 v := by rw [ff.i 68, f1.i 68]
        have d69 : hh.1 69 v = h.1 69 v := by rw [ff.i 69, f1.i 69]
        have d70 : hh.1 70 v = h.1 70 v := by rw [ff.i 70, f1.i 70]
        refine s_M_law_138 ⟨fun z => by omega, fun _ => ⟨ib (by omega), ii (by omega), ?_⟩⟩
        rw [d67, d68, d69, d70]
        have f3 : Fr [72, 73, 74, 75] [] hh (wI (wI (wI (wI hh 72 v (h.1 67 v)) 73 v (h.1 68 v)) 74 v (h.1 69 v)) 75 v (h.1 70 v)) := (((Fr.wI (Or.inl (by decide))).trans (Fr.wI (Or.inl (by decide)))).trans (Fr.wI (Or.inl (by decide)))).trans (Fr.wI (Or.inl (by decide)))
        refine ih (v + 1) _ (by omega) (by omega) (ff.trans f3) (fun i i0 i1 => ?_)
        by_cases z : i = v
        · rw [z]
          refine ⟨?_, ?_, ?_, rI_eq⟩
          · rw [rI_ne (by decide), rI_ne (by decide), rI_ne (by decide)]; exact rI_eq
          · rw [rI_ne (by decide), rI_ne (by decide)]; exact rI_eq
          · rw [rI_ne (by decide)]; exact rI_eq
        · obtain ⟨a1, a2, a3, a4⟩ := c i i0 (by omega)
          refine ⟨?_, ?_, ?_, ?_⟩
          · rw [rI_ne (by decide), rI_ne (by decide), rI_ne (by decide), rI_nk z]; exact a1
          · rw [rI_ne (by decide), rI_ne (by decide), rI_nk z, rI_ne (by decide)]; exact a2
          · rw [rI_ne (by decide), rI_nk z, rI_ne (by decide), rI_ne (by decide)]; exact a3
          · rw [rI_nk z, rI_ne (by decide), rI_ne (by decide), rI_ne (by decide)]; exact a4
    exact key lw.length 0 h1 (by omega) (Int.le_refl 0) Fr.refl (fun i i0 i1 => by omega)
  have key : ∀ (m : Nat) (v : Int) (hh : AH), (m : Int) = s - v → 0 ≤ v → Fr [71] [] h hh → (∀ i, 0 ≤ i → i < v → hh.1 71 i = h.1 65 i) → A_M_law_110 9 K v hh := by
    intro m
    induction m with
    | zero =>
      intro v hh e v0 ff c
      have e16 : hh.1 12 16 = s := by rw [ff.f 12 16]; exact r.2.1.2.2
      exact s_M_law_110 ⟨fun _ => two hh ff (fun i i0 i1 => c i i0 (by omega)), fun z => by omega⟩
    | succ m ih =>
      intro v hh e v0 ff c
      have e16 : hh.1 12 16 = s := by rw [ff.f 12 16]; exact r.2.1.2.2
      have d65 : hh.1 65 v = h.1 65 v := ff.i 65 (by decide) (by decide) v
      refine s_M_law_110 ⟨fun z => by omega, fun _ => ⟨ib (by omega), ii (by omega), ?_⟩⟩
      rw [d65]
      have f3 : Fr [71] [] hh (wI hh 71 v (h.1 65 v)) := Fr.wI (Or.inl (by decide))
      refine ih (v + 1) _ (by omega) (by omega) (ff.trans f3) (fun i i0 i1 => ?_)
      by_cases z : i = v
      · rw [z]; exact rI_eq
      · rw [rI_nk z]; exact c i i0 (by omega)
  exact key s.toNat 0 h (by omega) (Int.le_refl 0) Fr.refl (fun i i0 i1 => by omega)
theorem mLaw (hd : 9 < d) {n : Int} (rt : RepMT t h) (rl : RepML lw h) (k0 : ¬ (1 ≤ n ∧ n ≤ 160 ∧ n ≤ t.1) → K (-1) h) (kF : ∀ h' a b, 1 ≤ n ∧ n ≤ 160 ∧ n ≤ t.1 → lawOf t.2 n = .inl (a, b) → RepML lw h' → RepMT (0, t.2) h' → Fr [65, 66, 67, 68, 69, 70] [(12, 11), (12, 12), (12, 13), (12, 14), (12, 15), (12, 16), (12, 17), (12, 18), (12, 19), (12, 20)] h h' → K (-1000 * a - b) h') (kT : ∀ h' lw', 1 ≤ n ∧ n ≤ 160 ∧ n ≤ t.1 → lawOf t.2 n = .inr lw' → RepML lw' h' → RepMT (0, t.2) h' → Fr [65, 66, 67, 68, 69, 70, 71, 72, 73, 74, 75] [(12, 11), (12, 12), (12, 13), (12, 14), (12, 15), (12, 16), (12, 17), (12, 18), (12, 19), (12, 20)] h h' → K (lw'.length : Int) h') : Call d M_M_law [vR 12 (-1), vI n] h K := by
  have e11 := rt.2.1
  have go : 1 ≤ n → n ≤ 160 → n ≤ t.1 → Call 9 M_M_readsClause [vR 12 (-1)] (wI (wI (wI (wI h 12 12 0) 12 13 n) 12 16 0) 12 18 0) (fun r4 h3 => A_M_law_46 9 K r4 h3) := fun n0 n1 n2 => by
    have hn : 1 ≤ n ∧ n ≤ 160 ∧ n ≤ t.1 := ⟨n0, n1, n2⟩
    have f0 : Fr [65, 66, 67, 68, 69, 70] [(12, 11), (12, 12), (12, 13), (12, 14), (12, 15), (12, 16), (12, 17), (12, 18), (12, 19), (12, 20)] h (wI (wI (wI (wI h 12 12 0) 12 13 n) 12 16 0) 12 18 0) := (((Fr.wI (Or.inr (by decide))).trans (Fr.wI (Or.inr (by decide)))).trans (Fr.wI (Or.inr (by decide)))).trans (Fr.wI (Or.inr (by decide)))
    have r0 : RdG t.2 n 0 0 (wI (wI (wI (wI h 12 12 0) 12 13 n) 12 16 0) 12 18 0) := by
      refine ⟨fun k a b => ?_, ⟨?_, ?_, ?_⟩, ⟨by omega, by omega, n1⟩, Int.le_refl 0⟩
      · rw [f0.i 64]; exact rt.2.2 k a (by omega)
      · rw [rI_nk (by decide), rI_nk (by decide), rI_nk (by decide)]; exact rI_eq
      · rw [rI_nk (by decide), rI_nk (by decide)]; exact rI_eq
      · rw [rI_nk (by decide)]; exact rI_eq
    have tp : ∀ {h' : AH}, h'.1 12 11 = 0 → RepMT (0, t.2) h' := fun e => ⟨⟨(by show (0 : Int) ≤ 0; decide), (by show (0 : Int) ≤ 200; decide)⟩, e, fun k a b => by
      have b : k < 0 := b
      omega⟩
    refine mTexts (K := K) 12 [] 0 0 _ _ rfl r0 (Int.le_refl 0) ⟨⟨rI_eq, by decide⟩, fun j E C hj => by cases hj⟩ (fun h' a => a) (fun h' a => a) (fun a b h' e fl ff => ?_) (fun lw' p' s' h' e r' hs' q' ff => ?_)
    · have f1 : Fr [65, 66, 67, 68, 69, 70] [(12, 11), (12, 12), (12, 13), (12, 14), (12, 15), (12, 16), (12, 17), (12, 18), (12, 19), (12, 20)] h' (wI h' 12 11 0) := Fr.wI (Or.inr (by decide))
      refine s_M_law_86 ⟨fun z => absurd rfl z, fun _ => ?_⟩
      rw [fl.1]
      have f3 : FRk (wI (wI (wI (wI h 12 12 0) 12 13 n) 12 16 0) 12 18 0) h' := ff
      have rl2 : RepML lw (wI h' 12 11 0) := by
        refine RepML.fr (L := [65, 66, 67, 68, 69, 70]) (F := [(12, 11), (12, 12), (12, 13), (12, 14), (12, 15), (12, 16), (12, 17), (12, 18), (12, 19)]) rl ?_
        exact (((((Fr.wI (Or.inr (by decide))).trans (Fr.wI (Or.inr (by decide)))).trans (Fr.wI (Or.inr (by decide)))).trans (Fr.wI (Or.inr (by decide)))).trans (f3.mono (by decide) (by decide))).trans (Fr.wI (Or.inr (by decide)))
      exact kF _ a b hn e rl2 (tp rI_eq) ((f0.trans (f3.mono (by decide) (by decide))).trans f1)
    · refine s_M_law_86 ⟨fun _ => ?_, fun z => absurd z (by decide)⟩
      rw [q'.1.1]
      have f1 : FRw h' (wI (wI h' 12 11 0) 12 20 lw'.length) := (Fr.wI (Or.inr (by decide))).trans (Fr.wI (Or.inr (by decide)))
      have r1 : RdG t.2 n p' s' (wI (wI h' 12 11 0) 12 20 lw'.length) := ⟨fun k a b => by rw [f1.i 64]; exact r'.1 k a b, ⟨by rw [rI_nk (by decide), rI_nk (by decide)]; exact r'.2.1.1, by rw [rI_nk (by decide), rI_nk (by decide)]; exact r'.2.1.2.1, by rw [rI_nk (by decide), rI_nk (by decide)]; exact r'.2.1.2.2⟩, r'.2.2⟩
      have b' := r'.2.2.1
      refine mCopy r1 (by omega) (q'.of (Int.le_refl _) (fun k _ => by rw [rI_ne (by decide), rI_ne (by decide)]) (by rw [rI_nk (by decide), rI_nk (by decide)]) (fun j _ _ => ⟨by rw [rI_ne (by decide), rI_ne (by decide)], by rw [rI_ne (by decide), rI_ne (by decide)], by rw [rI_ne (by decide), rI_ne (by decide)], by rw [rI_ne (by decide), rI_ne (by decide)]⟩)) rI_eq (fun h2 rp f2 => ?_)
      exact kT h2 lw' hn e rp (tp (by rw [f2.f 12 11, rI_nk (by decide)]; exact rI_eq)) ((((f0.mono (by decide) (by decide)).trans (ff.mono (by decide) (by decide))).trans f1).trans (f2.mono (by decide) (by decide)))
  refine c_M_law 9 hd (c_M_in 8 (by decide) ⟨fun z => br0 (k0 (by omega)), fun z => ⟨fun z2 => br0 (k0 (by omega)), fun z2 => br1 ?_⟩⟩)
  rw [e11]
  exact ⟨fun z3 => go z z2 z3, fun z3 => k0 (by omega)⟩
end RM8

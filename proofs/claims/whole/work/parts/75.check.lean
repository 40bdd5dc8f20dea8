/-! the class: the nearest; both: check -/
section NRC
variable {d : Nat} {g : G} {h : AH} {K : Int → AH → Prop}
theorem cFindNearest (hd : 2 < d) {p : Int} {t : Int → Int} (r : RepCW g h) (tk : TakC p t h) (p0 : 0 ≤ p) (p1 : p ≤ 12) (k : ∀ h', NearI g (fun i => t i - 97) p (gn g) (h'.1 9 4) (h'.1 9 5) (h'.1 9 6) → Fr [46, 47] [(9, 4), (9, 5), (9, 6)] h h' → K 0 h') : Call d M_Spelling_findNearest [vR 9 (-1), vI p] h K := by
  have nb := r.ok.nb
  refine c_Spelling_findNearest 2 hd ?_
  have main : ∀ m : Nat, ∀ (v2 : Int) (hh : AH), 0 ≤ v2 → v2 ≤ gn g → gn g - v2 < m → Fr [46, 47] [(9, 4), (9, 5), (9, 6)] h hh → (∀ i, 0 ≤ i → i < p → hh.1 46 i = t i - 97) → NearI g (fun i => t i - 97) p v2 (hh.1 9 4) (hh.1 9 5) (hh.1 9 6) → (hh.1 9 5 ≠ -1 → 0 ≤ hh.1 9 6 ∧ hh.1 9 6 ≤ v2) → A_Spelling_findNearest_50 2 K p v2 hh := by
    intro m
    induction m with
    | zero => intro v2 hh x1 x2 e; omega
    | succ m ih =>
      intro v2 hh x1 x2 e ff tx ni nb1
      have rr := r.fr ff
      refine s_Spelling_findNearest_50 ?_
      rw [rr.n]
      refine ⟨fun c => k hh (by rw [show gn g = v2 by omega]; exact ni) ff, fun c => ?_⟩
      refine wIsUsed (by decide) rr (fun _ _ hu => br1' (cApart_t (f := fun i => t i - 97) (by decide) rr p0 p1 tx x1 c (fun h3 f3 => ?_))) (fun hn => br0' ⟨ii (by omega), ih (v2 + 1) hh (by omega) (by omega) (by omega) ff tx (ni.skip x1 (fun z => hn ⟨x1, c, z⟩)) (fun z => by have := nb1 z; omega)⟩)
      have fb := farW_b r.ok (f := fun i => t i - 97) p1 x1 c
      generalize hD : farW g (fun i => t i - 97) p v2 = D at fb
      have e4 : h3.1 9 4 = hh.1 9 4 := by rw [f3.f 9 4]
      have e5 : h3.1 9 5 = hh.1 9 5 := by rw [f3.f 9 5]
      have e6 : h3.1 9 6 = hh.1 9 6 := by rw [f3.f 9 6]
      have ff3 : Fr [46, 47] [(9, 4), (9, 5), (9, 6)] h h3 := ff.trans (f3.mono (by decide) (by decide))
      have tx3 : ∀ i, 0 ≤ i → i < p → h3.1 46 i = t i - 97 := fun i i0 i1 => by rw [f3.i 46]; exact tx i i0 i1
      rw [e4, e5]
      have new : (hh.1 9 5 = -1 ∨ D < hh.1 9 4) → A_Spelling_findNearest_102 2 K p v2 D h3 := by
        intro hx
        refine s_Spelling_findNearest_102 (s_Spelling_findNearest_117 ⟨fun z => ?_, fun _ => ?_⟩)
        · exfalso
          apply z
          rw [rI_nk (by decide), rI_eq]
        · have w6 : (wI (wI (wI h3 9 5 v2) 9 4 D) 9 6 0).1 9 6 = 0 := rI_eq
          rw [w6]
          refine ⟨ii (by omega), ii (by omega), ih (v2 + 1) _ (by omega) (by omega) (by omega) ((((ff3.trans (Fr.wI (Or.inr (by decide)))).trans (Fr.wI (Or.inr (by decide)))).trans (Fr.wI (Or.inr (by decide)))).trans (Fr.wI (Or.inr (by decide)))) (fun i i0 i1 => by rw [rI_ne (by decide), rI_ne (by decide), rI_ne (by decide), rI_ne (by decide)]; exact tx3 i i0 i1) ?_ ?_⟩
          · have q4 : (wI (wI (wI (wI h3 9 5 v2) 9 4 D) 9 6 0) 9 6 (0 + 1)).1 9 4 = D := by rw [rI_nk (by decide), rI_nk (by decide)]; exact rI_eq
            have q5 : (wI (wI (wI (wI h3 9 5 v2) 9 4 D) 9 6 0) 9 6 (0 + 1)).1 9 5 = v2 := by rw [rI_nk (by decide), rI_nk (by decide), rI_nk (by decide)]; exact rI_eq
            have q6 : (wI (wI (wI (wI h3 9 5 v2) 9 4 D) 9 6 0) 9 6 (0 + 1)).1 9 6 = 1 := rI_eq
            rw [q4, q5, q6]
            refine ni.step x1 hu (Or.inl ?_)
            rw [hD]
            exact ⟨hx, rfl, rfl, rfl⟩
          · intro _
            have q6 : (wI (wI (wI (wI h3 9 5 v2) 9 4 D) 9 6 0) 9 6 (0 + 1)).1 9 6 = 1 := rI_eq
            rw [q6]; omega
      refine ⟨fun c1 => new (Or.inl c1), fun c1 => ⟨fun c2 => s_Spelling_findNearest_117 ?_, fun c2 => new (Or.inr c2)⟩⟩
      rw [e4, e6]
      have b6 := nb1 c1
      refine ⟨fun z => ⟨ii (by omega), ih (v2 + 1) h3 (by omega) (by omega) (by omega) ff3 tx3 ?_ ?_⟩, fun z => ⟨ii (by omega), ii (by omega), ih (v2 + 1) _ (by omega) (by omega) (by omega) (ff3.trans (Fr.wI (Or.inr (by decide)))) (fun i i0 i1 => by rw [rI_ne (by decide)]; exact tx3 i i0 i1) ?_ ?_⟩⟩
      · rw [e4, e5, e6]
        refine ni.step x1 hu (Or.inr (Or.inl ?_))
        rw [hD]
        exact ⟨c1, by omega, rfl, rfl, rfl⟩
      · rw [e6]; intro _; omega
      · have q4 : (wI h3 9 6 (hh.1 9 6 + 1)).1 9 4 = hh.1 9 4 := by rw [rI_nk (by decide)]; exact e4
        have q5 : (wI h3 9 6 (hh.1 9 6 + 1)).1 9 5 = hh.1 9 5 := by rw [rI_nk (by decide)]; exact e5
        have q6 : (wI h3 9 6 (hh.1 9 6 + 1)).1 9 6 = hh.1 9 6 + 1 := rI_eq
        rw [q4, q5, q6]
        refine ni.step x1 hu (Or.inr (Or.inr ?_))
        rw [hD]
        exact ⟨c1, by omega, rfl, rfl, rfl⟩
      · intro _
        have q6 : (wI h3 9 6 (hh.1 9 6 + 1)).1 9 6 = hh.1 9 6 + 1 := rI_eq
        rw [q6]; omega
  have start : ∀ hh, Fr [46, 47] [(9, 4), (9, 5), (9, 6)] h hh → (∀ i, 0 ≤ i → i < p → hh.1 46 i = t i - 97) → A_Spelling_findNearest_33 2 K p hh := fun hh ff tx => by
    refine s_Spelling_findNearest_33 (main 41 0 _ (by decide) nb.1 (by omega) (((ff.trans (Fr.wI (Or.inr (by decide)))).trans (Fr.wI (Or.inr (by decide)))).trans (Fr.wI (Or.inr (by decide)))) (fun i i0 i1 => by rw [rI_ne (by decide), rI_ne (by decide), rI_ne (by decide)]; exact tx i i0 i1) (Or.inl ⟨?_, fun u u0 u1 => by omega⟩) (fun z => ?_))
    · rw [rI_nk (by decide), rI_nk (by decide)]; exact rI_eq
    · exfalso; apply z
      rw [rI_nk (by decide), rI_nk (by decide)]; exact rI_eq
  have copy : ∀ m : Nat, ∀ (v2 : Int) (hh : AH), 0 ≤ v2 → v2 ≤ p → p - v2 < m → Fr [46, 47] [(9, 4), (9, 5), (9, 6)] h hh → (∀ i, 0 ≤ i → i < v2 → hh.1 46 i = t i - 97) → A_Spelling_findNearest_2 2 K p v2 hh := by
    intro m
    induction m with
    | zero => intro v2 hh x1 x2 e; omega
    | succ m ih =>
      intro v2 hh x1 x2 e ff tx
      refine s_Spelling_findNearest_2 ⟨fun c => start hh ff (fun i i0 i1 => tx i i0 (by omega)), fun c => ⟨fun c2 => by omega, fun c2 => tLetterAt (by decide) (tk.fr ff) x1 c ⟨ib (by omega), ii (by omega), ih (v2 + 1) _ (by omega) (by omega) (by omega) (ff.trans (Fr.wI (Or.inl (by decide)))) (fun i i0 i1 => ?_)⟩⟩⟩
      by_cases z : i = v2
      · rw [z, rI_eq]
      · rw [rI_nk z]; exact tx i i0 (by omega)
  exact copy (p.toNat + 1) 0 h (by decide) p0 (by omega) Fr.refl (fun i i0 i1 => by omega)
end NRC
/-- the number of four bytes from the place 4 k on, its first j -/
def nm4 (f : Int → Int) (k : Int) : Nat → Int
  | 0 => 0
  | j + 1 => ior (ishl (nm4 f k j) 8) (f (4 * k + j))
def CheckA (g : G) (f : Int → Int) (w n r : Int) : Prop := (∃ k, (0 ≤ k ∧ k < n ∧ k < gl g w) ∧ nm4 f k 4 ≠ gt g w k ∧ (∀ j, 0 ≤ j → j < k → nm4 f j 4 = gt g w j) ∧ r = k) ∨ ((∀ j, 0 ≤ j → j < n → j < gl g w → nm4 f j 4 = gt g w j) ∧ r = if n = gl g w then -1 else min n (gl g w))
theorem CheckA.uniq {g : G} {f : Int → Int} {w n r r' : Int} (h : CheckA g f w n r) (k : CheckA g f w n r') : r = r' := by
  rcases h with ⟨a, h1, h2, h3, h4⟩ | ⟨h1, h2⟩
  · rcases k with ⟨b, k1, k2, k3, k4⟩ | ⟨k1, k2⟩
    · rcases Int.lt_trichotomy a b with z | z | z
      · exact absurd (k3 a h1.1 z) h2
      · omega
      · exact absurd (h3 b k1.1 z) k2
    · exact absurd (k1 a h1.1 h1.2.1 h1.2.2) h2
  · rcases k with ⟨b, k1, k2, k3, k4⟩ | ⟨k1, k2⟩
    · exact absurd (h1 b k1.1 k1.2.1 k1.2.2) k2
    · rw [h2, k2]
section CHK
variable {d : Nat} {g : G} {h : AH} {K : Int → AH → Prop}
theorem mTapeNumber (hd : 0 < d) {a : Int} {f : Int → Int} (a0 : 0 ≤ a) (a1 : 4 * a + 4 ≤ 200) (tp : ∀ i, 0 ≤ i → i < 4 * a + 4 → (0 ≤ f i ∧ f i < 256) ∧ h.1 64 i = sgn (f i)) (k : K (nm4 f a 4) h) : Call d M_M_tapeNumber [vR 12 (-1), vI a] h K := by
  refine c_M_tapeNumber 0 hd ⟨ii (by omega), ?_⟩
  have key : ∀ j : Nat, j ≤ 4 → A_M_tapeNumber_6 0 K a (nm4 f a j) (4 * a + j) h := by
    intro j
    have : ∀ m j : Nat, 4 - j < m → j ≤ 4 → A_M_tapeNumber_6 0 K a (nm4 f a j) (4 * a + j) h := by
      intro m
      induction m with
      | zero => intro j e; omega
      | succ m ih =>
        intro j e hj
        refine s_M_tapeNumber_6 ⟨ii (by omega), ii (by omega), fun c => by rw [show j = 4 by omega]; exact k, fun c => ⟨ib (by omega), ii (by omega), ?_⟩⟩
        obtain ⟨bb, e64⟩ := tp (4 * a + j) (by omega) c
        rw [e64, iand_sgn bb.1 bb.2]
        have := ih (j + 1) (by omega) (by omega)
        rw [show 4 * a + ((j + 1 : Nat) : Int) = 4 * a + j + 1 by omega] at this
        exact this
    exact this 5 j (by omega)
  have := key 0 (by decide)
  rw [show 4 * a + ((0 : Nat) : Int) = 4 * a by omega] at this
  exact this
theorem mCheck (hd : 1 < d) {w n : Int} {t : Tp} (r : RepM g h) (rt : RepMT t h) (k0 : ¬ ((0 ≤ w ∧ w < gn g) ∧ (0 ≤ n ∧ n ≤ 8) ∧ 4 * n ≤ t.1) → K (-2) h) (k : ∀ h' x, (0 ≤ w ∧ w < gn g) ∧ (0 ≤ n ∧ n ≤ 8) ∧ 4 * n ≤ t.1 → CheckA g t.2 w n x → RepMT (0, t.2) h' → Fr [] [(12, 11)] h h' → K x h') : Call d M_M_check [vR 12 (-1), vI w, vI n] h K := by
  have nb := r.ok.nb
  have tb := rt.1
  have td : Int.tdiv t.1 4 = t.1 / 4 := Int.tdiv_eq_ediv_of_nonneg tb.1
  refine c_M_check 1 hd (mIsWord (by decide) r (fun w0 w1 => br1 (mIn (by decide) (fun n0 n1 => br1 ?_) (fun c => br0 (k0 (by omega))))) (fun c => br0 (k0 (by omega))))
  rw [rt.2.1, td]
  refine ⟨ii (by omega), fun c => ?_, fun c => k0 (by omega)⟩
  have G : (0 ≤ w ∧ w < gn g) ∧ (0 ≤ n ∧ n ≤ 8) ∧ 4 * n ≤ t.1 := ⟨⟨w0, w1⟩, ⟨n0, n1⟩, by omega⟩
  have lb := r.ok.lb w0 w1
  have f1 : Fr [] [(12, 11)] h (wI h 12 11 0) := Fr.wI (Or.inr (by decide))
  have t1 : RepMT (0, t.2) (wI h 12 11 0) := ⟨⟨Int.le_refl 0, show (0 : Int) ≤ 200 by decide⟩, rI_eq, fun k k0 k1 => by have k1 : k < 0 := k1; omega⟩
  have r1 := r.fr f1
  have tp : ∀ i, 0 ≤ i → i < t.1 → (0 ≤ t.2 i ∧ t.2 i < 256) ∧ (wI h 12 11 0).1 64 i = sgn (t.2 i) := fun i i0 i1 => by
    rw [rI_ne (by decide)]; exact rt.2.2 i i0 i1
  have key : ∀ m : Nat, ∀ v3 : Int, 0 ≤ v3 → v3 ≤ gl g w → v3 ≤ n → gl g w - v3 < m → (∀ j, 0 ≤ j → j < v3 → nm4 t.2 j 4 = gt g w j) → A_M_check_38 1 K w n v3 (wI h 12 11 0) := by
    intro m
    induction m with
    | zero => intro v3 x1 x2 x3 e; omega
    | succ m ih =>
      intro v3 x1 x2 x3 e s
      refine s_M_check_38 ⟨ib (by omega), ?_⟩
      rw [r1.l w0 w1]
      refine ⟨fun c2 => ⟨fun c3 => k _ _ G (Or.inr ⟨fun j j0 j1 j2 => s j j0 (by omega), ?_⟩) t1 f1, fun c3 => k _ _ G (Or.inr ⟨fun j j0 j1 j2 => s j j0 (by omega), ?_⟩) t1 f1⟩, fun c2 => ⟨fun c3 => k _ _ G (Or.inr ⟨fun j j0 j1 j2 => s j j0 (by omega), ?_⟩) t1 f1, fun c3 => ?_⟩⟩
      · rw [if_pos (by omega)]
      · rw [if_neg (by omega)]; omega
      · rw [if_neg (by omega)]; omega
      · refine mTapeNumber (by decide) x1 (by omega) (fun i i0 i1 => tp i i0 (by omega)) (mLetter (by decide) r1 w0 w1 x1 c2 ⟨fun z => ⟨ii (by omega), ih (v3 + 1) (by omega) (by omega) (by omega) (by omega) (fun j j0 j1 => ?_)⟩, fun z => k _ _ G (Or.inl ⟨v3, ⟨x1, by omega, c2⟩, z, s, rfl⟩) t1 f1⟩)
        by_cases y : j = v3
        · rw [y]; exact z
        · exact s j j0 (by omega)
  exact key 10 0 (by decide) (by omega) n0 (by omega) (fun j j0 j1 => by omega)
theorem tNumber (hd : 1 < d) {a n : Int} {f : Int → Int} (tk : TakC n f h) (a0 : 0 ≤ a) (a1 : 4 * a + 4 ≤ n) (k : K (nm4 f a 4) h) : Call d M_Tape_numberAt [vR 1 (-1), vI a] h K := by
  have tb := tk.2.1
  refine c_Tape_numberAt 1 hd ?_
  have key : ∀ m j : Nat, 4 - j < m → j ≤ 4 → A_Tape_numberAt_4 1 K a (nm4 f a j) j h := by
    intro m
    induction m with
    | zero => intro j e; omega
    | succ m ih =>
      intro j e hj
      refine s_Tape_numberAt_4 ⟨fun c => by rw [show j = 4 by omega]; exact k, fun c => ⟨ii (by omega), ii (by omega), tByte (by decide) tk (fun _ _ => ⟨ii (by omega), ?_⟩) (fun z => absurd ⟨by omega, by omega⟩ z)⟩⟩
      have := ih (j + 1) (by omega) (by omega)
      exact this
  exact key 5 0 (by decide) (by decide)
end CHK

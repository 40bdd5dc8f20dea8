/-! the reference's new word: triesNew -/
theorem bor_t {N : Nat} {v x : Int} (x0 : 0 ≤ x) (v0 : 0 ≤ v) : (N ||| 1 <<< x.toNat).testBit v.toNat = true ↔ N.testBit v.toNat = true ∨ x = v := by
  rw [bit_or_test]
  constructor
  · rintro (z | z)
    · exact Or.inl z
    · right; omega
  · rintro (z | z)
    · exact Or.inl z
    · right; omega
section MN3
variable {d : Nat} {g : G} {lw : LW} {h : AH} {K : Int → AH → Prop} {S : Int → (Int → Int) → Prop}
theorem mTriesNew (hd : 3 < d) {n : Int} {f : Int → Int} (r : RepM g h) (q : Row0 n f h) (hf : 1 ≤ n → n ≤ 8 → okF f n.toNat ∧ ((∃ w, (0 ≤ w ∧ w < gn g) ∧ us g w ∧ NearR g w n f) ∨ ∃ w, 0 ≤ w ∧ w < gn g ∧ same g w n f)) (hw : HW g lw h) (b : BestM g lw S h) (k : ∀ h', BestM g lw (andR S n f) h' → Fr [84] [(12, 41), (12, 42), (12, 43)] h h' → K 0 h') : Call d M_M_triesNew [vR 12 (-1)] h K := by
  have nb := r.ok.nb
  have q1 := q.1
  have skip : ¬ NewOk g n f → K 0 h := fun z => k h (b.skip z) Fr.refl
  refine c_M_triesNew 3 hd ?_
  rw [q1]
  refine ⟨fun z => skip (fun y => by have := y.1; omega), fun z1 => ⟨fun z => skip (fun y => by have := y.1; omega), fun z2 => mIsRowWord (by decide) r q (fun ⟨w, w0, w1, sm⟩ => br1 (skip (fun y => y.2.2.1 w w0 w1 sm))) (fun nw => br0 ?_)⟩⟩
  obtain ⟨okf, near⟩ := hf z1 z2
  have ok : NewOk g n f := ⟨⟨z1, z2⟩, okf, nw, by
    rcases near with z | ⟨w, w0, w1, sm⟩
    · exact z
    · exact absurd sm (nw w w0 w1)⟩
  -- it is tried against the best
  have put : (∀ m e, NewOk g m e → h.1 12 41 = jH g lw m e → h.1 12 42 = jW g m e → h.1 12 43 = m → (∀ k, 0 ≤ k → k < m → h.1 84 k = e k) → Bt g lw n f m e) → A_M_triesNew_159 3 K (jW g n f) (jH g lw n f) h := fun ht => by
    refine s_M_triesNew_159 ?_
    rw [q1]
    have f0 : Fr [84] [(12, 41), (12, 42), (12, 43)] h (wI (wI (wI h 12 41 (jH g lw n f)) 12 42 (jW g n f)) 12 43 n) := ((Fr.wI (Or.inr (by decide))).trans (Fr.wI (Or.inr (by decide)))).trans (Fr.wI (Or.inr (by decide)))
    have key : ∀ (m : Nat) (v : Int) (hh : AH), (m : Int) = n - v → 0 ≤ v → Fr [84] [] (wI (wI (wI h 12 41 (jH g lw n f)) 12 42 (jW g n f)) 12 43 n) hh → (∀ i, 0 ≤ i → i < v → hh.1 84 i = f i) → A_M_triesNew_181 3 K v hh := by
      intro m
      induction m with
      | zero =>
        intro v hh e v0 ff c
        refine s_M_triesNew_181 ⟨fun _ => k hh (b.take ok ht ?_ ?_ ?_ (fun i i0 i1 => c i i0 (by omega))) (f0.trans (ff.mono (by decide) (by decide))), fun z => ?_⟩
        · rw [ff.f 12 41, rI_nk (by decide), rI_nk (by decide)]; exact rI_eq
        · rw [ff.f 12 42, rI_nk (by decide)]; exact rI_eq
        · rw [ff.f 12 43]; exact rI_eq
        · rw [ff.f 12 9, f0.f 12 9, q1] at z
          omega
      | succ m ih =>
        intro v hh e v0 ff c
        have e63 : hh.1 63 v = f v := by rw [ff.i 63, f0.i 63]; exact q.2.2 v v0 (by omega)
        refine s_M_triesNew_181 ⟨fun z => ?_, fun _ => ⟨ib (by omega), ib (by omega), ii (by omega), ?_⟩⟩
        · rw [ff.f 12 9, f0.f 12 9, q1] at z
          omega
        · rw [e63]
          refine ih (v + 1) _ (by omega) (by omega) (ff.trans (Fr.wI (Or.inl (by decide)))) (fun i i0 i1 => ?_)
          by_cases hi : i = v
          · rw [hi]; exact rI_eq
          · rw [rI_nk hi]; exact c i i0 (by omega)
    exact key n.toNat 0 _ (by omega) (Int.le_refl 0) Fr.refl (fun i i0 i1 => by omega)
  have jp : 1 ≤ jH g lw n f := by
    obtain ⟨w, wb, u, nr⟩ := ok.2.2.2
    have hi := hw w wb.1 wb.2 u
    have vb := hi.1
    have := cnt_zero (P := fun v => ∃ w, (0 ≤ w ∧ w < gn g) ∧ us g w ∧ NearR g w n f ∧ HeapIs g lw w v) (gn g).toNat
    apply Classical.byContradiction
    intro z
    exact this (by show jH g lw n f ≤ 0; omega) _ vb.1 (by omega) ⟨w, wb, u, nr, hi⟩
  have ahead : (∀ m e, NewOk g m e → h.1 12 41 = jH g lw m e → h.1 12 42 = jW g m e → h.1 12 43 = m → (∀ k, 0 ≤ k → k < m → h.1 84 k = e k) → h.1 12 41 = jH g lw n f → h.1 12 42 = jW g n f → (∀ n' f', S n' f' → NewOk g n' f' → Bt g lw m e n' f') → Call 3 M_M_isAheadOfNew [vR 12 (-1)] h (fun r2 h1 => ((r2 ≠ 0 → A_M_triesNew_159 3 K (jW g n f) (jH g lw n f) h1) ∧ (r2 = 0 → K 0 h1)))) := fun m e b1 b2 b3 b4 b5 e1 e2 b6 => by
    have stay : keyN e m.toNat ≤ keyN f n.toNat → K 0 h := fun z => k h (BestM.keep (by omega) b1 b2 b3 b4 b5 b6 (Or.inr ⟨by omega, Or.inr ⟨by omega, z⟩⟩)) Fr.refl
    have go : keyN f n.toNat ≤ keyN e m.toNat → A_M_triesNew_159 3 K (jW g n f) (jH g lw n f) h := fun z => put (fun m' e' c1 c2 c3 c4 c5 => by
      have em : m' = m := by omega
      have k1 : keyN e' m'.toNat = keyN e m.toNat := by
        rw [em]
        exact key_ext (by have := b1.1; omega) (fun i i0 i1 => by rw [← b5 i i0 i1, c5 i i0 (by omega)])
      exact Or.inr ⟨by omega, Or.inr ⟨by omega, by omega⟩⟩)
    have mb := b1.1
    have l1 := (key_lt (f := f) (n := n.toNat) (by omega) okf).1
    have l2 := (key_lt (f := e) (n := m.toNat) (by omega) b1.2.1).1
    refine c_M_isAheadOfNew 2 (by decide) ?_
    rw [q1, b4]
    refine ⟨fun z => ?_, fun z => ⟨fun z3 => br0' (stay ?_), fun z3 => br1' (go ?_)⟩⟩
    · have key : ∀ (j : Nat) (v : Int), (j : Int) = n - v → 0 ≤ v → (∀ i, 0 ≤ i → i < v → f i = e i) → A_M_isAheadOfNew_30 2 (fun r2 h1 => ((r2 ≠ 0 → A_M_triesNew_159 3 K (jW g n f) (jH g lw n f) h1) ∧ (r2 = 0 → K 0 h1))) v h := by
        intro j
        induction j with
        | zero =>
          intro v ev v0 c
          refine s_M_isAheadOfNew_30 ⟨fun _ => br0' (stay ?_), fun y => by omega⟩
          rw [← z]
          exact Nat.le_of_eq (key_ext (by omega) (fun i i0 i1 => (c i i0 (by omega)).symm))
        | succ j ih =>
          intro v ev v0 c
          refine s_M_isAheadOfNew_30 ⟨fun y => by omega, fun _ => ⟨ib (by omega), ib (by omega), ?_⟩⟩
          rw [q.2.2 v v0 (by omega), b5 v v0 (by omega)]
          refine ⟨fun y => ⟨ii (by omega), ih (v + 1) (by omega) (by omega) (fun i i0 i1 => ?_)⟩, fun y => ⟨fun y2 => br0' (stay ?_), fun y2 => br1' (go ?_)⟩⟩
          · by_cases hi : i = v
            · rw [hi]; exact y
            · exact c i i0 (by omega)
          · have ok2 := b1.2.1
            rw [← z] at ok2
            have := lk_lex n.toNat v v0 (by omega) ok2 okf (fun i i0 i1 => (c i i0 i1).symm) (by omega)
            unfold keyN
            rw [← z]
            omega
          · have ok2 := b1.2.1
            rw [← z] at ok2
            have := lk_lex n.toNat v v0 (by omega) okf ok2 c (by omega)
            unfold keyN
            rw [← z]
            omega
      exact key n.toNat 0 (by omega) (Int.le_refl 0) (fun i i0 i1 => by omega)
    · unfold keyN
      omega
    · unfold keyN
      omega
  -- how many heaps, of the bits
  have two : ∀ N : Nat, N < 1099511627776 → (∀ v : Int, 0 ≤ v → v < gn g → (N.testBit v.toNat = true ↔ ∃ w, (0 ≤ w ∧ w < gn g) ∧ us g w ∧ NearR g w n f ∧ HeapIs g lw w v)) → A_M_triesNew_90 3 K (N : Int) (jW g n f) 0 0 h := fun N hN bits => by
    have key : ∀ (m : Nat) (v c : Int), (m : Int) = gn g - v → 0 ≤ v → c = cnt (fun v => ∃ w, (0 ≤ w ∧ w < gn g) ∧ us g w ∧ NearR g w n f ∧ HeapIs g lw w v) v.toNat → A_M_triesNew_90 3 K (N : Int) (jW g n f) c v h := by
      intro m
      induction m with
      | zero =>
        intro v c e v0 hc
        have ec : c = jH g lw n f := by
          rw [hc, show v = gn g by omega]; rfl
        rw [ec]
        refine s_M_triesNew_90 ⟨fun _ => ?_, fun z => by rw [r.n] at z; omega⟩
        rcases b with ⟨b1, b2, b3⟩ | ⟨m, e, b1, b2, b3, b4, b5, b6⟩
        · rw [b1]
          refine ⟨fun z => by omega, fun _ => ⟨fun _ => put (fun m e c1 c2 _ _ _ => ?_), fun z => by omega⟩⟩
          have : 0 ≤ jH g lw m e := (cnt_b _ _).1
          exact Or.inl (by omega)
        · have keep := fun (bt : Bt g lw m e n f) => k h (BestM.keep (by omega) b1 b2 b3 b4 b5 b6 bt) Fr.refl
          refine ⟨fun z => keep (Or.inl (by omega)), fun z => ⟨fun z2 => put (fun m' e' c1 c2 c3 _ _ => Or.inl (by omega)), fun z2 => ⟨fun z3 => keep (Or.inr ⟨by omega, Or.inl (by omega)⟩), fun z3 => ⟨fun z4 => put (fun m' e' c1 c2 c3 _ _ => Or.inr ⟨by omega, Or.inl (by omega)⟩), fun z4 => ahead m e b1 b2 b3 b4 b5 (by omega) (by omega) b6⟩⟩⟩⟩
      | succ m ih =>
        intro v c e v0 hc
        have cb := cnt_b (fun v => ∃ w, (0 ≤ w ∧ w < gn g) ∧ us g w ∧ NearR g w n f ∧ HeapIs g lw w v) v.toNat
        refine s_M_triesNew_90 ⟨fun z => by rw [r.n] at z; omega, fun _ => ?_⟩
        rw [bit_ands hN v0 (by omega)]
        by_cases hb : N.testBit v.toNat = true
        · rw [if_pos hb]
          refine ⟨ii (by omega), ii (by omega), ih (v + 1) (c + 1) (by omega) (by omega) ?_⟩
          rw [cnt_ti (P := fun v => ∃ w, (0 ≤ w ∧ w < gn g) ∧ us g w ∧ NearR g w n f ∧ HeapIs g lw w v) v0 ((bits v v0 (by omega)).mp hb), hc]
        · rw [if_neg hb]
          refine ⟨ii (by omega), ii (by omega), ih (v + 1) (c + 0) (by omega) (by omega) ?_⟩
          rw [cnt_fi (P := fun v => ∃ w, (0 ≤ w ∧ w < gn g) ∧ us g w ∧ NearR g w n f ∧ HeapIs g lw w v) v0 (fun y => hb ((bits v v0 (by omega)).mpr y)), hc, Int.add_zero]
    exact key (gn g).toNat 0 0 (by omega) (Int.le_refl 0) rfl
  have key : ∀ (m : Nat) (v : Int) (N : Nat) (c : Int), (m : Int) = gn g - v → 0 ≤ v → N < 1099511627776 → c = cnt (fun w => us g w ∧ NearR g w n f) v.toNat → (∀ x : Int, 0 ≤ x → x < gn g → (N.testBit x.toNat = true ↔ ∃ w, (0 ≤ w ∧ w < v) ∧ us g w ∧ NearR g w n f ∧ HeapIs g lw w x)) → A_M_triesNew_32 3 K (N : Int) c v h := by
    intro m
    induction m with
    | zero =>
      intro v N c e v0 hN hc bits
      have ev : v = gn g := by omega
      rw [ev] at bits
      have ec : c = jW g n f := by rw [hc, ev]; rfl
      refine s_M_triesNew_32 ⟨fun _ => ?_, fun z => by rw [r.n] at z; omega⟩
      rw [ec]
      exact two N hN bits
    | succ m ih =>
      intro v N c e v0 hN hc bits
      have cb := cnt_b (fun w => us g w ∧ NearR g w n f) v.toNat
      have v1 : v < gn g := by omega
      have no : ¬ (us g v ∧ NearR g v n f) → A_M_triesNew_32 3 K (N : Int) c (v + 1) h := fun z => by
        refine ih (v + 1) N c (by omega) (by omega) hN ?_ (fun x x0 x1 => ?_)
        · rw [cnt_fi (P := fun w => us g w ∧ NearR g w n f) v0 z, hc]
        · rw [bits x x0 x1]
          constructor
          · rintro ⟨w, a1, a2⟩
            exact ⟨w, ⟨a1.1, by omega⟩, a2⟩
          · rintro ⟨w, a1, a2, a3, a4⟩
            by_cases zw : w = v
            · rw [zw] at a2 a3
              exact absurd ⟨a2, a3⟩ z
            · exact ⟨w, ⟨a1.1, by omega⟩, a2, a3, a4⟩
      refine s_M_triesNew_32 ⟨fun z => by rw [r.n] at z; omega, fun _ => mIsUsed (by decide) r v0 v1 (fun u => br1 (mIsNear (by decide) r q v0 v1 (fun nr => br1' ⟨ii (by omega), ib (by omega), ii (by omega), ?_⟩) (fun nn => br0' ⟨ii (by omega), no (fun z => nn z.2)⟩))) (fun nu => br0 ⟨ii (by omega), no (fun z => nu z.1)⟩)⟩
      have hi := hw v v0 v1 u
      have hib := hi.1
      obtain ⟨e1, e2⟩ := lor1 hN hib.1 (by omega : h.1 85 v < 40)
      rw [e1]
      refine ih (v + 1) _ (c + 1) (by omega) (by omega) e2 ?_ (fun x x0 x1 => ?_)
      · rw [cnt_ti (P := fun w => us g w ∧ NearR g w n f) v0 ⟨u, nr⟩, hc]
      · rw [bor_t hib.1 x0, bits x x0 x1]
        constructor
        · rintro (⟨w, a1, a2⟩ | z)
          · exact ⟨w, ⟨a1.1, by omega⟩, a2⟩
          · exact ⟨v, ⟨v0, by omega⟩, u, nr, by rw [← z]; exact hi⟩
        · rintro ⟨w, a1, a2, a3, a4⟩
          by_cases zw : w = v
          · rw [zw] at a4
            exact Or.inr (hi.uniq a4)
          · exact Or.inl ⟨w, ⟨a1.1, by omega⟩, a2, a3, a4⟩
  exact key (gn g).toNat 0 0 0 (by omega) (Int.le_refl 0) (by decide) rfl (fun x x0 x1 => ⟨fun z => by simp at z, fun ⟨w, a, _⟩ => by omega⟩)
end MN3

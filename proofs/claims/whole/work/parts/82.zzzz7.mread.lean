/-! the reference reads a law: clauses -/
def RdG (f : Int → Int) (n p s : Int) (h : AH) : Prop := TakM f n h ∧ (h.1 12 12 = p ∧ h.1 12 13 = n ∧ h.1 12 16 = s) ∧ (0 ≤ p ∧ p ≤ n ∧ n ≤ 160) ∧ 0 ≤ s
def EIm (a s : Int) (E : Option Jvm.Term) (h : AH) : Prop := match E with | some x => WfE x ∧ s = a + (mE x).length ∧ codeAt h 65 a (mE x) | none => s = a
def kdM (E : Option Jvm.Term) : Int := match E with | some _ => 99 | none => 110
def MIn (k a b e s : Int) (E : Option Jvm.Term) (C : Jvm.Cond) (h : AH) : Prop := (WfC C ∧ k = kdM E ∧ 0 ≤ a ∧ e ≤ s ∧ e = b + (mC b C).length ∧ codeAt h 65 b (mC b C)) ∧ EIm a b E h
def LawM (lw : LW) (s : Int) (h : AH) : Prop := (h.1 12 18 = (lw.length : Int) ∧ lw.length ≤ 12) ∧ ∀ (j : Nat) (E : Option Jvm.Term) (C : Jvm.Cond), lw[j]? = some (E, C) → MIn (h.1 67 j) (h.1 68 j) (h.1 69 j) (h.1 70 j) s E C h
abbrev FRk (h h' : AH) : Prop := Fr [65, 66, 67, 68, 69, 70] [((12 : Nat), (12 : Int)), (12, 14), (12, 15), (12, 16), (12, 17), (12, 18), (12, 19)] h h'
theorem FRm.k {h h' : AH} (f : FRm h h') : FRk h h' := Fr.mono f (by decide) (by decide)
theorem MIn.of {k a b e s s' : Int} {E : Option Jvm.Term} {C : Jvm.Cond} {h h' : AH} (q : MIn k a b e s E C h) (ss : s ≤ s') (u : ∀ k, k < s → h'.1 65 k = h.1 65 k) : MIn k a b e s' E C h' := by
  obtain ⟨⟨q1, q2, q3, q4, q5, q6⟩, q7⟩ := q
  refine ⟨⟨q1, q2, q3, by omega, q5, codeAt_lt q6 (Int.le_refl _) (fun k _ hk => u k (by omega))⟩, ?_⟩
  cases E with
  | none => exact q7
  | some x =>
    obtain ⟨w, e1, c⟩ := q7
    exact ⟨w, e1, codeAt_lt c (Int.le_refl _) (fun k _ hk => u k (by omega))⟩
theorem LawM.of {lw : LW} {s s' : Int} {h h' : AH} (q : LawM lw s h) (ss : s ≤ s') (u : ∀ k, k < s → h'.1 65 k = h.1 65 k) (e18 : h'.1 12 18 = h.1 12 18) (uj : ∀ j, 0 ≤ j → j < (lw.length : Int) → h'.1 67 j = h.1 67 j ∧ h'.1 68 j = h.1 68 j ∧ h'.1 69 j = h.1 69 j ∧ h'.1 70 j = h.1 70 j) : LawM lw s' h' := by
  refine ⟨by rw [e18]; exact q.1, fun j E C hj => ?_⟩
  have := (List.getElem?_eq_some_iff.mp hj).1
  obtain ⟨a1, a2, a3, a4⟩ := uj j (by omega) (by omega)
  rw [a1, a2, a3, a4]
  exact (q.2 j E C hj).of ss u
theorem LawM.add {lw : LW} {s s' : Int} {E : Option Jvm.Term} {C : Jvm.Cond} {h h' : AH} (q : LawM lw s h) (hl : lw.length < 12) (ss : s ≤ s') (u : ∀ k, k < s → h'.1 65 k = h.1 65 k) (e18 : h'.1 12 18 = (lw.length : Int) + 1) (uj : ∀ j, 0 ≤ j → j < (lw.length : Int) → h'.1 67 j = h.1 67 j ∧ h'.1 68 j = h.1 68 j ∧ h'.1 69 j = h.1 69 j ∧ h'.1 70 j = h.1 70 j) (c : MIn (h'.1 67 lw.length) (h'.1 68 lw.length) (h'.1 69 lw.length) (h'.1 70 lw.length) s' E C h') : LawM (lw ++ [(E, C)]) s' h' := by
  refine ⟨⟨by rw [e18, List.length_append]; show _ = ((lw.length + 1 : Nat) : Int); omega, by rw [List.length_append]; show lw.length + 1 ≤ 12; omega⟩, fun j E' C' hj => ?_⟩
  by_cases z : j < lw.length
  · rw [List.getElem?_append_left z] at hj
    obtain ⟨a1, a2, a3, a4⟩ := uj j (by omega) (by omega)
    rw [a1, a2, a3, a4]
    exact (q.2 j E' C' hj).of ss u
  · rw [List.getElem?_append_right (by omega)] at hj
    have hj0 : j = lw.length := by
      have := (List.getElem?_eq_some_iff.mp hj).1
      have : j - lw.length < 1 := this
      omega
    rw [hj0, Nat.sub_self] at hj
    cases hj
    rw [hj0]
    exact c
section RM7
variable {d : Nat} {f : Int → Int} {n p s : Int} {ws : List Int} {o : Nat} {h : AH} {K : Int → AH → Prop}
theorem RdM.g (r : RdM f n p s ws o h) : RdG f n p s h := ⟨r.1, ⟨r.2.1.1, r.2.1.2.1, r.2.1.2.2.1⟩, r.2.2.2.1, r.2.2.2.2.1⟩
theorem gHere (hd : 0 < d) (r : RdG f n p s h) (k : K (nxt f n p) h) : Call d M_M_here [vR 12 (-1)] h K := by
  have b := r.2.2.1
  refine c_M_here 0 hd ?_
  rw [r.2.1.1, r.2.1.2.1]
  unfold nxt at k
  refine ⟨fun z => by rw [if_neg (by omega)] at k; exact k, fun z => ⟨ib (by omega), ?_⟩⟩
  obtain ⟨g1, g2⟩ := r.1 p b.1 z
  rw [if_pos z] at k
  rw [g2, iand_sgn g1.1 g1.2]
  exact k
theorem gWrong (hd : 0 < d) (r : RdG f n p s h) {a : Int} (a0 : 0 ≤ a ∧ a ≤ 9) (k : ∀ h', FltM n a p h' → FRk h h' → K 0 h') : Call d M_M_wrongAt [vR 12 (-1), vI a, vI (h.1 12 12)] h K := by
  have b := r.2.2.1
  rw [r.2.1.1]
  exact c_M_wrongAt 0 hd ⟨ii (by omega), ii (by omega), k _ ⟨rI_eq, a0, b.1, b.2.1⟩ (Fr.wI (Or.inr (by decide)))⟩
def CtKM (f : Int → Int) (n p : Int) (lw : LW) (h : AH) (K : Int → AH → Prop) (R : Rs Cl) : Prop := (∀ a b h', R = .inl (a, b) → FltM n a b h' → FRk h h' → K 0 h') ∧ (∀ cl p' s' h', R = .inr (cl, p') → p < p' → s' ≤ p' → RdG f n p' s' h' → LawM (lw ++ [cl]) s' h' → FRk h h' → K 1 h')
theorem mTail (hd : 7 < d) {a : Int} {E : Option Jvm.Term} {lw : LW} (r : RdM f n p s [] 6 h) (hs : s ≤ p) (q : LawM lw s h) (hl : lw.length < 12) (a0 : 0 ≤ a) (ek : h.1 67 lw.length = kdM E) (ea : h.1 68 lw.length = a) (he : EIm a s E h) (k : CtKM f n p lw h K (match pCond f n p with
    | .inl e => .inl e
    | .inr r => .inr ((E, r.1), r.2))) : A_M_readsClause_104 d K h := by
  have b := r.2.2.2
  obtain ⟨k1, k2⟩ := k
  refine s_M_readsClause_104 ?_
  rw [q.1.1, r.2.1.2.2.1]
  have f0 : FRk h (wI h 69 lw.length s) := Fr.wI (Or.inl (by decide))
  have r0 : RdM f n p s [] 6 (wI h 69 lw.length s) := ⟨fun k x y => by rw [rI_ne (by decide)]; exact r.1 k x y, ⟨by rw [rI_ne (by decide)]; exact r.2.1.1, by rw [rI_ne (by decide)]; exact r.2.1.2.1, by rw [rI_ne (by decide)]; exact r.2.1.2.2.1, by rw [rI_ne (by decide)]; exact r.2.1.2.2.2.1, by rw [rI_ne (by decide)]; exact r.2.1.2.2.2.2⟩, trivial, b⟩
  have tb : Tb p s [] := ⟨by show s + ((0 : Nat) : Int) ≤ p; omega, by show ((0 : Nat) : Int) ≤ p; omega⟩
  refine ⟨ib (by omega), mCondition hd r0 tb ⟨fun x y h' e fl f' => br0' (k1 x y h' (by rw [e]) fl (f0.trans f'.k)), fun C p' h1 e hp r1 c1 tb1 w u1 f1 => br1' ?_⟩⟩
  have e18 : h1.1 12 18 = lw.length := by rw [f1.f 12 18, rI_ne (by decide)]; exact q.1.1
  rw [e18, r1.2.1.2.2.1]
  have t1 := tb1.1
  have t1 : s + ((mC s C).length : Int) + ((0 : Nat) : Int) ≤ p' := t1
  have f2 : FRk h1 (wI (wI h1 70 lw.length (s + (mC s C).length)) 12 18 (lw.length + 1)) := (Fr.wI (Or.inl (by decide))).trans (Fr.wI (Or.inr (by decide)))
  have e67 : ∀ k, (wI (wI h1 70 lw.length (s + (mC s C).length)) 12 18 (lw.length + 1)).1 67 k = h.1 67 k := fun k => by rw [rI_ne (by decide), rI_ne (by decide), f1.i 67, rI_ne (by decide)]
  have e68 : ∀ k, (wI (wI h1 70 lw.length (s + (mC s C).length)) 12 18 (lw.length + 1)).1 68 k = h.1 68 k := fun k => by rw [rI_ne (by decide), rI_ne (by decide), f1.i 68, rI_ne (by decide)]
  have e69 : ∀ k, (wI (wI h1 70 lw.length (s + (mC s C).length)) 12 18 (lw.length + 1)).1 69 k = (wI h 69 lw.length s).1 69 k := fun k => by rw [rI_ne (by decide), rI_ne (by decide), f1.i 69]
  have e70 : ∀ k, k ≠ (lw.length : Int) → (wI (wI h1 70 lw.length (s + (mC s C).length)) 12 18 (lw.length + 1)).1 70 k = h.1 70 k := fun k hk => by rw [rI_ne (by decide), rI_nk hk, f1.i 70, rI_ne (by decide)]
  have e65 : ∀ k, (wI (wI h1 70 lw.length (s + (mC s C).length)) 12 18 (lw.length + 1)).1 65 k = h1.1 65 k := fun k => by rw [rI_ne (by decide), rI_ne (by decide)]
  refine ⟨ib (by omega), ii (by omega), k2 (E, C) p' (s + (mC s C).length) _ (by rw [e]) hp (by omega) ?_ (q.add hl (by omega) (fun k hk => by rw [e65, u1 k hk, rI_ne (by decide)]) rI_eq (fun j j0 j1 => ⟨e67 j, e68 j, by rw [e69, rI_nk (by omega)], e70 j (by omega)⟩) ?_) ((f0.trans f1.k).trans f2)⟩
  · have g := r1.g
    exact ⟨fun k x y => by rw [f2.i 64]; exact g.1 k x y, ⟨by rw [rI_nk (by decide), rI_ne (by decide)]; exact g.2.1.1, by rw [rI_nk (by decide), rI_ne (by decide)]; exact g.2.1.2.1, by rw [rI_nk (by decide), rI_ne (by decide)]; exact g.2.1.2.2⟩, g.2.2.1, g.2.2.2⟩
  · rw [e67, e68, e69, ek, ea, rI_eq, show (wI (wI h1 70 lw.length (s + (mC s C).length)) 12 18 (lw.length + 1)).1 70 lw.length = s + (mC s C).length from by rw [rI_ne (by decide)]; exact rI_eq]
    refine ⟨⟨w, rfl, a0, Int.le_refl _, rfl, codeAt_lt c1 (Int.le_refl _) (fun k _ _ => e65 k)⟩, ?_⟩
    cases E with
    | none => exact he
    | some x =>
      obtain ⟨w2, e2, c2⟩ := he
      exact ⟨w2, e2, codeAt_lt c2 (Int.le_refl _) (fun k _ hk => by rw [e65, u1 k (by omega), rI_ne (by decide)])⟩
theorem mClause (hd : 8 < d) {lw : LW} (r : RdG f n p s h) (hs : s ≤ p) (q : LawM lw s h) (kN : ¬ (nxt f n p = 110 ∨ nxt f n p = 99) → ∀ h', FltM n 1 p h' → FRk h h' → K 0 h') (k4 : (nxt f n p = 110 ∨ nxt f n p = 99) → lw.length = 12 → ∀ h', FltM n 4 p h' → FRk h h' → K 0 h') (k : (nxt f n p = 110 ∨ nxt f n p = 99) → lw.length < 12 → CtKM f n p lw h K (pClause f n p)) : Call d M_M_readsClause [vR 12 (-1)] h K := by
  have b := r.2.2
  have go : (nxt f n p = 110 ∨ nxt f n p = 99) → A_M_readsClause_27 8 K (nxt f n p) h := fun hm => by
    have hp : p < n := nxt_lt (f := f) (n := n) (p := p) rfl (by omega)
    have hl := q.1.2
    refine s_M_readsClause_27 ?_
    rw [q.1.1]
    refine ⟨fun z => ?_, fun z => gWrong (by decide) r (by decide) (fun h' fl f' => ⟨Or.inl rfl, k4 hm (by omega) h' fl f'⟩)⟩
    rw [r.2.1.1, r.2.1.2.2]
    obtain ⟨k1, k2⟩ := k hm (by omega)
    have f0 : FRk h (wI (wI (wI (wI (wI h 67 lw.length (nxt f n p)) 12 12 (p + 1)) 68 lw.length s) 12 15 0) 12 17 0) := ((((Fr.wI (Or.inl (by decide))).trans (Fr.wI (Or.inr (by decide)))).trans (Fr.wI (Or.inl (by decide)))).trans (Fr.wI (Or.inr (by decide)))).trans (Fr.wI (Or.inr (by decide)))
    have r0 : RdM f n (p + 1) s [] 6 (wI (wI (wI (wI (wI h 67 lw.length (nxt f n p)) 12 12 (p + 1)) 68 lw.length s) 12 15 0) 12 17 0) := by
      refine ⟨fun k x y => by rw [f0.i 64]; exact r.1 k x y, ⟨?_, ?_, ?_, rI_eq, ?_⟩, trivial, ⟨by omega, by omega, b.1.2.2⟩, b.2, by decide⟩
      · rw [rI_nk (by decide), rI_nk (by decide), rI_ne (by decide)]; exact rI_eq
      · rw [f0.f 12 13]; exact r.2.1.2.1
      · rw [rI_nk (by decide), rI_nk (by decide), rI_ne (by decide), rI_nk (by decide), rI_ne (by decide)]; exact r.2.1.2.2
      · rw [rI_nk (by decide)]; exact rI_eq
    have e67 : (wI (wI (wI (wI (wI h 67 lw.length (nxt f n p)) 12 12 (p + 1)) 68 lw.length s) 12 15 0) 12 17 0).1 67 lw.length = nxt f n p := by
      rw [rI_ne (by decide), rI_ne (by decide), rI_ne (by decide), rI_ne (by decide)]; exact rI_eq
    have e68 : (wI (wI (wI (wI (wI h 67 lw.length (nxt f n p)) 12 12 (p + 1)) 68 lw.length s) 12 15 0) 12 17 0).1 68 lw.length = s := by
      rw [rI_ne (by decide), rI_ne (by decide)]; exact rI_eq
    have q0 : LawM lw s (wI (wI (wI (wI (wI h 67 lw.length (nxt f n p)) 12 12 (p + 1)) 68 lw.length s) 12 15 0) 12 17 0) := by
      refine q.of (Int.le_refl s) (fun k _ => ?_) ?_ (fun j j0 j1 => ⟨?_, ?_, ?_, ?_⟩)
      · rw [rI_ne (by decide), rI_ne (by decide), rI_ne (by decide), rI_ne (by decide), rI_ne (by decide)]
      · rw [rI_nk (by decide), rI_nk (by decide), rI_ne (by decide), rI_nk (by decide), rI_ne (by decide)]
      · rw [rI_ne (by decide), rI_ne (by decide), rI_ne (by decide), rI_ne (by decide), rI_nk (by omega)]
      · rw [rI_ne (by decide), rI_ne (by decide), rI_nk (by omega), rI_ne (by decide), rI_ne (by decide)]
      · rw [rI_ne (by decide), rI_ne (by decide), rI_ne (by decide), rI_ne (by decide), rI_ne (by decide)]
      · rw [rI_ne (by decide), rI_ne (by decide), rI_ne (by decide), rI_ne (by decide), rI_ne (by decide)]
    refine ⟨ib (by omega), ii (by omega), fun z9 => ?_, fun z9 => ?_⟩
    · have ec : pClause f n p = (match pCond f n (p + 1) with
        | .inl e => .inl e
        | .inr r => .inr ((none, r.1), r.2)) := by unfold pClause; rw [if_neg z9]; rfl
      rw [ec] at k1 k2
      exact mTail (by decide) (E := none) r0 (by omega) q0 (by omega) b.2 (by rw [e67]; show nxt f n p = 110; omega) e68 rfl ⟨fun x y h' e fl f' => k1 x y h' e fl (f0.trans f'), fun cl p' s' h' e hp' hs' r' q' f' => k2 cl p' s' h' e (by omega) hs' r' q' (f0.trans f')⟩
    · have ec : pClause f n p = (match pSum f n 6 (p + 1) with
        | .inl e => .inl e
        | .inr q => (match pCond f n q.2 with
          | .inl e => .inl e
          | .inr r => .inr ((some q.1, r.1), r.2))) := by unfold pClause; rw [if_pos z9]; rfl
      rw [ec] at k1 k2
      refine mRdSum (by decide) r0 ⟨by show s + ((0 : Nat) : Int) ≤ p + 1; omega, by show ((0 : Nat) : Int) ≤ p + 1; omega⟩ (fun x w' e => by cases e) ⟨fun x y h' e fl f' => br0' (k1 x y h' (by rw [e]) fl (f0.trans f'.k)), fun E p' h1 e hp' r1 c1 tb1 w u1 f1 => br1' ?_⟩
      rw [e] at k1 k2
      have t1 : s + ((mE E).length : Int) + ((0 : Nat) : Int) ≤ p' := tb1.1
      exact mTail (by decide) (E := some E) r1 (by omega) (q0.of (by omega) u1 (f1.f 12 18) (fun j _ _ => ⟨f1.i 67 (by decide) (by decide) j, f1.i 68 (by decide) (by decide) j, f1.i 69 (by decide) (by decide) j, f1.i 70 (by decide) (by decide) j⟩)) (by omega) b.2 (by rw [f1.i 67, e67]; exact z9) (by rw [f1.i 68, e68]) ⟨w, rfl, c1⟩ ⟨fun x y h' e fl f' => k1 x y h' e fl ((f0.trans f1.k).trans f'), fun cl p2 s' h' e hp2 hs' r' q' f' => k2 cl p2 s' h' e (by omega) hs' r' q' ((f0.trans f1.k).trans f')⟩
  refine c_M_readsClause 8 hd (gHere (by decide) r ⟨fun z => go (Or.inl z), fun z => ⟨fun z2 => go (Or.inr z2), fun z2 => gWrong (by decide) r (by decide) (fun h' fl f' => ⟨Or.inl rfl, kN (by omega) h' fl f'⟩)⟩⟩)
theorem mTexts : ∀ (j : Nat) (lw : LW) (p s : Int) (h : AH) (K' : Int → AH → Prop), j + lw.length = 12 → RdG f n p s h → s ≤ p → LawM lw s h → (∀ h', A_M_law_46 9 K 0 h' → K' 0 h') → (∀ h', A_M_law_46 9 K 1 h' → K' 1 h') → (∀ a b h', pText f n j lw p = .inl (a, b) → FltM n a b h' → FRk h h' → A_M_law_86 9 K 0 h') → (∀ lw' p' s' h', pText f n j lw p = .inr lw' → RdG f n p' s' h' → s' ≤ p' → LawM lw' s' h' → FRk h h' → A_M_law_86 9 K 1 h') → Call 9 M_M_readsClause [vR 12 (-1)] h K' := by
  intro j
  induction j with
  | zero =>
    intro lw p s h K' hj r hs q kA kB k1 k2
    have g0 : ∀ h', A_M_law_86 9 K 0 h' → K' 0 h' := fun h' a => kA h' (s_M_law_46 ⟨fun _ => a, fun z => absurd rfl z⟩)
    exact mClause (by decide) r hs q (fun hn h' fl ff => g0 h' (k1 1 p h' (if_neg hn) fl ff)) (fun hm _ h' fl ff => g0 h' (k1 4 p h' (if_pos hm) fl ff)) (fun _ z => by omega)
  | succ j ih =>
    intro lw p s h K' hj r hs q kA kB k1 k2
    have g0 : ∀ h', A_M_law_86 9 K 0 h' → A_M_law_46 9 K 0 h' := fun h' a => s_M_law_46 ⟨fun _ => a, fun z => absurd rfl z⟩
    refine mClause (by decide) r hs q (fun hn h' fl ff => kA h' (g0 h' (k1 1 p h' (if_neg hn) fl ff))) (fun hm z => by omega) (fun hm hl => ?_)
    have e0 : pText f n (j + 1) lw p = (match pClause f n p with
      | .inl e => .inl e
      | .inr q => if n ≤ q.2 then .inr (lw ++ [q.1]) else if nxt f n q.2 = 59 then pText f n j (lw ++ [q.1]) (q.2 + 1) else .inl (1, q.2)) := by
      show (if nxt f n p = 110 ∨ nxt f n p = 99 then _ else _) = _
      rw [if_pos hm]
      rfl
    rw [e0] at k1 k2
    refine ⟨fun a b h' e fl ff => kA h' (g0 h' (k1 a b h' (by rw [e]) fl ff)), fun cl p' s' h1 e hp hs' r1 q1 f1 => kB h1 ?_⟩
    have b1 := r1.2.2
    rw [e] at k1 k2
    refine s_M_law_46 ⟨fun z => absurd z (by decide), fun _ => ?_⟩
    rw [r1.2.1.2.1, r1.2.1.1]
    refine ⟨fun z => k2 (lw ++ [cl]) p' s' h1 (if_pos z) r1 hs' q1 f1, fun z => c_M_takes 8 (by decide) (gHere (by decide) r1 ⟨fun z9 => ?_, fun z9 => gWrong (by decide) r1 (by decide) (fun h' fl f' => ⟨Or.inl rfl, br0 (g0 h' (k1 1 p' h' ?_ fl (f1.trans f')))⟩)⟩)⟩
    · rw [r1.2.1.1]
      have f2 : FRk h1 (wI h1 12 12 (p' + 1)) := Fr.wI (Or.inr (by decide))
      have r2 : RdG f n (p' + 1) s' (wI h1 12 12 (p' + 1)) := ⟨fun k x y => by rw [f2.i 64]; exact r1.1 k x y, ⟨rI_eq, by rw [f2.f 12 13]; exact r1.2.1.2.1, by rw [rI_nk (by decide)]; exact r1.2.1.2.2⟩, ⟨by omega, by omega, b1.1.2.2⟩, b1.2⟩
      refine ⟨ii (by omega), br1 (ih (lw ++ [cl]) (p' + 1) s' _ _ (by rw [List.length_append]; show j + (lw.length + 1) = 12; omega) r2 (by omega) (q1.of (Int.le_refl s') (fun k _ => rI_ne (by decide)) (rI_nk (by decide)) (fun j _ _ => ⟨rI_ne (by decide), rI_ne (by decide), rI_ne (by decide), rI_ne (by decide)⟩)) (fun h' a => br0 a) (fun h' a => br1 a) (fun a b h' e' fl f' => k1 a b h' ?_ fl ((f1.trans f2).trans f')) (fun lw' p3 s3 h' e' r3 hs3 q3 f' => k2 lw' p3 s3 h' ?_ r3 hs3 q3 ((f1.trans f2).trans f')))⟩
      · show (if n ≤ p' then _ else _) = _
        rw [if_neg (by omega), if_pos z9]; exact e'
      · show (if n ≤ p' then _ else _) = _
        rw [if_neg (by omega), if_pos z9]; exact e'
    · show (if n ≤ p' then _ else _) = _
      rw [if_neg (by omega), if_neg z9]
end RM7

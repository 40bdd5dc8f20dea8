/-! the reference reads a law: pieces -/
def cmO (x : Int) : Int := if x = 60 then 7 else if x = 62 then 8 else 9
theorem mC_cmp {x off : Int} {a b : Jvm.Term} (hx : x = 60 ∨ x = 62 ∨ x = 61) : mC off (cmpT x a b) = mE a ++ (mE b ++ [1048576 * cmO x]) := by
  unfold cmpT
  rcases hx with rfl | rfl | rfl <;> rfl
def EP (D : Nat) (Q : Int → AH → Prop) (h : AH) : Prop := ∀ (d1 : Nat) (K' : Int → AH → Prop), 2 < d1 → (∀ h', A_M_readsCondition_92 D Q h' → K' 0 h') → A_M_endsPiece_0 d1 K' h
def CtP (f : Int → Int) (n p s : Int) (ws : List Int) (o : Nat) (h : AH) (Z0 Z : AH → Prop) (R : Rs Jvm.Cond) : Prop := (∀ a b h', R = .inl (a, b) → FltM n a b h' → FRm h h' → Z0 h') ∧ (∀ C p' h', R = .inr (C, p') → p < p' → RdM f n p' (s + (mC s C).length) ws o h' → codeAt h' 65 s (mC s C) → Tb p' (s + (mC s C).length) ws → WfC C → (∀ k, k < s → h'.1 65 k = h.1 65 k) → FRm h h' → Z h')
section RM5
variable {d : Nat} {f : Int → Int} {n p s : Int} {ws : List Int} {o : Nat} {h : AH} {K : Int → AH → Prop} {D : Nat} {Q : Int → AH → Prop}
theorem mCompared (hd : 6 < d) (r : RdM f n p s ws o h) (tb : Tb p s ws) (no : NoOp ws) (k : CtP f n p s ws o h (K 0) (fun h' => A_M_endsPiece_0 5 (fun _ h5 => K 1 h5) h') (pCmp f n o p)) : Call d M_M_readsCompared [vR 12 (-1)] h K := by
  obtain ⟨k1, k2⟩ := k
  unfold pCmp at k1 k2
  refine c_M_readsCompared 6 hd (mRdSum (by decide) r tb no ⟨fun a b h' e fl ff => br0' (k1 a b h' (by rw [e]) fl ff), fun E q h1 e hq r1 c1 tb1 w1 u1 f1 => br1' ?_⟩)
  have b1 := r1.2.2.2
  have go : (nxt f n q = 60 ∨ nxt f n q = 62 ∨ nxt f n q = 61) → A_M_readsCompared_52 6 K (cmO (nxt f n q)) h1 := fun hm => by
    have hqn : q < n := nxt_lt (f := f) (n := n) (p := q) rfl (by omega)
    have cb : 7 ≤ cmO (nxt f n q) ∧ cmO (nxt f n q) ≤ 9 := by
      unfold cmO
      split
      · omega
      · split <;> omega
    rw [e] at k1 k2
    have er : ∀ {α : Type} (x y : α), (if nxt f n q = 60 ∨ nxt f n q = 62 ∨ nxt f n q = 61 then x else y) = x := fun x y => if_pos hm
    refine s_M_readsCompared_52 ⟨fun _ => ?_, fun z => by omega⟩
    rw [r1.2.1.1]
    obtain ⟨r2, f2⟩ := r1.on hqn
    obtain ⟨t1, t2⟩ := tb1
    refine ⟨ii (by omega), mRdSum (by decide) r2 ⟨by omega, by omega⟩ no ⟨fun a b h' e' fl f' => br0' (k1 a b h' (by show (if nxt f n q = 60 ∨ nxt f n q = 62 ∨ nxt f n q = 61 then _ else _) = _; rw [if_pos hm, e']) fl ((f1.trans f2).trans f')), fun E' q' h3 e' hq' r3 c3 tb3 w3 u3 f3 => br1' ?_⟩⟩
    have b3 := r3.2.2.2
    have lb := pSum_len o _ _ _ e'
    have ln : ((mC s (cmpT (nxt f n q) E E')).length : Int) = (mE E).length + (mE E').length + 1 := by
      rw [mC_cmp hm, List.length_append, List.length_append]
      show (((mE E).length + ((mE E').length + 1) : Nat) : Int) = _
      omega
    obtain ⟨t3, t4⟩ := tb3
    refine mNotes (by decide) r3 (by omega) (by omega) (by decide) (fun h4 r4 c4 u4 f4 => c_M_endsPiece 5 (by decide) (k2 (cmpT (nxt f n q) E E') q' h4 (by show (if nxt f n q = 60 ∨ nxt f n q = 62 ∨ nxt f n q = 61 then _ else _) = _; rw [if_pos hm, e']) (by omega) ?_ ?_ ⟨by omega, by omega⟩ ((cmpT_eq hm).2.2.2.mpr ⟨w1, w3⟩) (fun k hk => ?_) (((f1.trans f2).trans f3).trans f4)))
    · rw [ln, show s + (((mE E).length : Int) + (mE E').length + 1) = s + (mE E).length + (mE E').length + 1 by omega]
      exact r4
    · rw [mC_cmp hm]
      refine codeAt_join (codeAt_lt c1 (Int.le_refl _) (fun k _ hk => ?_)) (codeAt_join (codeAt_lt c3 (Int.le_refl _) (fun k _ hk => u4 k (by omega))) (codeAt_one (by rw [c4]; omega)))
      rw [u4 k (by omega), u3 k hk, rI_ne (by decide)]
    · rw [u4 k (by omega), u3 k (by omega), rI_ne (by decide), u1 k hk]
  have gn : ¬ (nxt f n q = 60 ∨ nxt f n q = 62 ∨ nxt f n q = 61) → A_M_readsCompared_52 6 K (-1) h1 := fun hm => s_M_readsCompared_52 ⟨fun z => absurd rfl z, fun _ => by
    rw [r1.2.1.1]
    exact mWrong (by decide) r1 (by decide) (fun h' fl ff => ⟨Or.inl rfl, k1 1 q h' (by rw [e]; exact if_neg hm) fl (f1.trans ff)⟩)⟩
  refine mHere (by decide) r1 ⟨fun z => mHere (by decide) r1 ⟨fun z2 => mHere (by decide) r1 ?_, fun z2 => ?_⟩, fun z => ?_⟩
  · by_cases z3 : nxt f n q = 61
    · rw [if_pos z3]
      have := go (Or.inr (Or.inr z3))
      rw [z3] at this
      exact this
    · rw [if_neg z3]
      exact gn (by omega)
  · have := go (Or.inr (Or.inl z2))
    rw [z2] at this
    exact this
  · have := go (Or.inl z)
    rw [z] at this
    exact this
theorem epStop (r : RdM f n p s ws o h) (hw : ws.length ≤ 160) (hn : ∀ x w', ws = x :: w' → x / 1048576 ≠ 10) (k : A_M_readsCondition_92 D Q h) : EP D Q h := fun d1 K' hd hK =>
  s_M_endsPiece_0 (mTop (by omega) r hw (fun _ => ⟨fun _ => hK h k, fun z => absurd z (by decide)⟩) (fun x w' e => ⟨fun _ => hK h k, fun z => absurd z (hn x w' e)⟩))
theorem epPop (r : RdM f n p s (10485760 :: ws) o h) (hs : s < 180) (hw : ws.length < 160) (ho : o + 1 ≤ 6) (k : ∀ h', RdM f n p (s + 1) ws (o + 1) h' → h'.1 65 s = 10485760 → (∀ k, k ≠ s → h'.1 65 k = h.1 65 k) → FRm h h' → EP D Q h') : EP D Q h := fun d1 K' hd hK => by
  have bd := r.2.2.2
  refine s_M_endsPiece_0 (mTop (by omega) r hw (fun e => by cases e) (fun x w' e => ⟨fun z => ?_, fun _ => ?_⟩))
  · cases e
    exact absurd rfl z
  · refine mNotes (by omega) r hs (by decide) (by decide) (fun h1 r1 c1 c2 f1 => ?_)
    have e17 : h1.1 12 17 - 1 = ws.length := by rw [r1.2.1.2.2.2.1]; show ((ws.length + 1 : Nat) : Int) - 1 = _; omega
    rw [e17, r1.2.1.2.2.2.2]
    have f2 : FRm h1 (wI (wI h1 12 17 ws.length) 12 15 (6 - (o : Int) - 1)) := (Fr.wI (Or.inr (by decide))).trans (Fr.wI (Or.inr (by decide)))
    refine ⟨ii (by omega), ii (by omega), k _ (r1.pop f2 (fun k _ _ => by rw [rI_ne (by decide), rI_ne (by decide)]) ?_ ?_ ?_ ?_ ⟨bd.1.1, bd.1.2.1⟩ (by omega) ho) ?_ (fun k hk => ?_) (f1.trans f2) d1 K' hd hK⟩
    · rw [rI_nk (by decide), rI_nk (by decide)]; exact r1.2.1.1
    · rw [rI_nk (by decide), rI_nk (by decide)]; exact r1.2.1.2.2.1
    · rw [rI_nk (by decide)]; exact rI_eq
    · rw [rI_eq]; omega
    · rw [rI_ne (by decide), rI_ne (by decide), c1]; rfl
    · rw [rI_ne (by decide), rI_ne (by decide)]; exact c2 k hk
def T1 (f : Int → Int) (n : Int) (pc : Int → Rs Jvm.Cond) (i j : Nat) (A B : Option Jvm.Cond) (C : Jvm.Cond) (p : Int) : Rs Jvm.Cond := match pMoreC f n 38 .and pc j (ocC .and B C) p with
  | .inl e => .inl e
  | .inr q => pMoreC f n 124 .or (pChainC f n 38 .and pc) i (ocC .or A q.1) q.2
def T0 (f : Int → Int) (n : Int) (pc : Int → Rs Jvm.Cond) (i j : Nat) (A B : Option Jvm.Cond) (p : Int) : Rs Jvm.Cond := match pc p with
  | .inl e => .inl e
  | .inr q => T1 f n pc i j A B q.1 q.2
theorem T1_and {pc : Int → Rs Jvm.Cond} {i j : Nat} {A B : Option Jvm.Cond} {C : Jvm.Cond} (hm : nxt f n p = 38) : T1 f n pc i (j + 1) A B C p = T0 f n pc i j A (some (ocC .and B C)) (p + 1) := by
  unfold T1 T0
  have e : pMoreC f n 38 .and pc (j + 1) (ocC .and B C) p = (match pc (p + 1) with
    | .inl e => .inl e
    | .inr q => pMoreC f n 38 .and pc j (.and (ocC .and B C) q.1) q.2) := by
    show (if _ then _ else _) = _
    rw [if_pos hm]; rfl
  rw [e]
  cases pc (p + 1) <;> rfl
theorem T1_or {pc : Int → Rs Jvm.Cond} {i j : Nat} {A B : Option Jvm.Cond} {C : Jvm.Cond} (ha : nxt f n p = 124) : T1 f n pc (i + 1) (j + 1) A B C p = T0 f n pc i 161 (some (ocC .or A (ocC .and B C))) none (p + 1) := by
  unfold T1 T0
  have e : pMoreC f n 38 .and pc (j + 1) (ocC .and B C) p = .inr (ocC .and B C, p) := by
    show (if _ then _ else _) = _
    rw [if_neg (by omega)]
  rw [e]
  have e : pMoreC f n 124 .or (pChainC f n 38 .and pc) (i + 1) (ocC .or A (ocC .and B C)) p = (match pChainC f n 38 .and pc (p + 1) with
    | .inl e => .inl e
    | .inr q => pMoreC f n 124 .or (pChainC f n 38 .and pc) i (.or (ocC .or A (ocC .and B C)) q.1) q.2) := by
    show (if _ then _ else _) = _
    rw [if_pos ha]; rfl
  show pMoreC f n 124 .or (pChainC f n 38 .and pc) (i + 1) (ocC .or A (ocC .and B C)) p = _
  rw [e]
  show (match (match pc (p + 1) with
    | .inl e => (.inl e : Rs Jvm.Cond)
    | .inr q => pMoreC f n 38 .and pc 161 q.1 q.2) with
    | .inl e => (.inl e : Rs Jvm.Cond)
    | .inr q => pMoreC f n 124 .or (pChainC f n 38 .and pc) i (.or (ocC .or A (ocC .and B C)) q.1) q.2) = _
  cases pc (p + 1) <;> rfl
theorem T1_end {pc : Int → Rs Jvm.Cond} {i j : Nat} {A B : Option Jvm.Cond} {C : Jvm.Cond} (hm : nxt f n p ≠ 38) (ha : nxt f n p ≠ 124) : T1 f n pc (i + 1) (j + 1) A B C p = .inr (ocC .or A (ocC .and B C), p) := by
  unfold T1
  have e : pMoreC f n 38 .and pc (j + 1) (ocC .and B C) p = .inr (ocC .and B C, p) := by
    show (if _ then _ else _) = _
    rw [if_neg hm]
  rw [e]
  show (if _ then _ else _) = _
  rw [if_neg ha]
theorem pParts_T0 {pc : Int → Rs Jvm.Cond} : pParts f n pc p = T0 f n pc 161 161 none none p := by
  unfold T0 T1
  show (match (match pc p with
    | .inl e => (.inl e : Rs Jvm.Cond)
    | .inr q => pMoreC f n 38 .and pc 161 q.1 q.2) with
    | .inl e => (.inl e : Rs Jvm.Cond)
    | .inr q => pMoreC f n 124 .or (pChainC f n 38 .and pc) 161 q.1 q.2) = _
  cases pc p <;> rfl
/-- before a piece -/
def SB (f : Int → Int) (n p s0 : Int) (A B : Option Jvm.Cond) (ws : List Int) (o : Nat) (h : AH) : Prop := RdM f n p (nxC (nxC s0 A) B) (wC 11 (nxC s0 A) B ++ (wC 12 s0 A ++ ws)) o h ∧ Tb p (nxC (nxC s0 A) B) (wC 11 (nxC s0 A) B ++ (wC 12 s0 A ++ ws)) ∧ cdC 12 s0 h A ∧ cdC 11 (nxC s0 A) h B
/-- the first of those that wait in a chain -/
theorem topC {s0 : Int} {A B : Option Jvm.Cond} (s00 : 0 ≤ s0) (hs : nxC (nxC s0 A) B < 1048576) (hw : ∀ x w', ws = x :: w' → x / 1048576 = 13) : ∀ x w', wC 11 (nxC s0 A) B ++ (wC 12 s0 A ++ ws) = x :: w' → x / 1048576 = 11 ∨ x / 1048576 = 12 ∨ x / 1048576 = 13 := by
  intro x w' e
  have l1 := nxC_le (s := s0) (A := A)
  cases B with
  | some Y =>
    have hs : nxC s0 A + (mC (nxC s0 A) Y).length + 1 < 1048576 := hs
    have e : (1048576 * 11 + (nxC s0 A + (mC (nxC s0 A) Y).length)) :: (wC 12 s0 A ++ ws) = x :: w' := e
    cases e
    omega
  | none =>
    cases A with
    | some X =>
      have hs : s0 + (mC s0 X).length + 1 < 1048576 := hs
      have e : (1048576 * 12 + (s0 + (mC s0 X).length)) :: ws = x :: w' := e
      cases e
      omega
    | none => exact Or.inr (Or.inr (hw x w' e))
theorem rPartsM {pc : Int → Rs Jvm.Cond} (hD : 6 < D) (rp : ∀ (p s : Int) (ws : List Int) (h : AH), RdM f n p s ws o h → Tb p s ws → NoOp ws → ws ≠ [] → CtP f n p s ws o h (Q 0) (EP D Q) (pc p) → A_M_readsCondition_40 D Q h) (hw : ∀ x w', ws = x :: w' → x / 1048576 = 13) (hne : ws ≠ []) (s00 : 0 ≤ s) : ∀ (m : Nat) (p : Int) (i j : Nat) (A B : Option Jvm.Cond) (h : AH), n - p < m → SB f n p s A B ws o h → n < (i : Int) + p → n < (j : Int) + p → (∀ a b h', T0 f n pc i j A B p = .inl (a, b) → FltM n a b h' → FRm h h' → Q 0 h') → (∀ A' B' C p' h', T0 f n pc i j A B p = .inr (ocC .or A' (ocC .and B' C), p') → p < p' → CP f n p' s A' B' C ws o h' → nxt f n p' ≠ 38 → nxt f n p' ≠ 124 → (∀ k, k < s → h'.1 65 k = h.1 65 k) → FRm h h' → A_M_readsCondition_92 D Q h') → A_M_readsCondition_40 D Q h := by
  intro m
  induction m with
  | zero =>
    intro p i j A B h hm q
    have := q.1.2.2.2.1
    omega
  | succ m ih =>
    intro p i j A B h hm q hi hj k1 k2
    obtain ⟨r, tb, cA, cB⟩ := q
    have b := r.2.2.2
    have l1 := nxC_le (s := s) (A := A)
    have l2 := nxC_le (s := nxC s A) (A := B)
    have noj : NoJ ws := fun x w' e => by have := hw x w' e; omega
    have tp := topC (ws := ws) (A := A) (B := B) s00 (by have := tb.1; omega) hw
    refine rp p _ _ h r tb (fun x w' e => by have := tp x w' e; omega) (fun e => ?_) ⟨fun a b h' e fl ff => k1 a b h' (by unfold T0; rw [e]) fl ff, fun C p' h1 e hp r1 c1 tb1 w u1 f1 => ?_⟩
    · have := congrArg List.length e
      rw [List.length_append, List.length_append] at this
      exact hne (List.eq_nil_of_length_eq_zero (by
        have : (wC 11 (nxC s A) B).length + ((wC 12 s A).length + ws.length) = 0 := this
        omega))
    have b1 := r1.2.2.2
    have q1 : CP f n p' s A B C ws o h1 := ⟨r1, tb1, cA.of l2 u1, cB.of (Int.le_refl _) u1, c1, w⟩
    have u1 : ∀ k, k < s → h1.1 65 k = h.1 65 k := fun k hk => u1 k (by omega)
    have e0 : T0 f n pc i j A B p = T1 f n pc i j A B C p' := by unfold T0; rw [e]
    rw [e0] at k1 k2
    obtain ⟨i, rfl⟩ : ∃ i', i = i' + 1 := ⟨i - 1, by omega⟩
    obtain ⟨j, rfl⟩ : ∃ j', j = j' + 1 := ⟨j - 1, by omega⟩
    refine epStop r1 (by have := tb1.2; omega) (fun x w' e => by have := tp x w' e; omega) ?_
    by_cases z1 : nxt f n p' = 38
    · refine s_M_readsCondition_92 (mHere (by omega) r1 ⟨fun _ => mHere (by omega) r1 ⟨fun _ => ?_, fun y => absurd z1 y⟩, fun y => by omega⟩)
      refine s_M_readsCondition_180 (mHere (by omega) r1 ?_)
      rw [if_neg (by omega)]
      refine mLand0 (by omega) q1 s00 noj (fun h2 q2 u2 f2 => mHere (by omega) q2.1 ?_)
      rw [if_pos z1]
      have q2a := q2.2.2.1
      have l3 := nxC_le (s := s) (A := A)
      refine mJumps (by omega) q2.1 q2.2.1 (nxt_lt z1 (by decide)) (Or.inl rfl) (fun h3 r3 t3 c3 u3 f3 => ih (p' + 1) (i + 1) j A (some (ocC .and B C)) h3 (by omega) ⟨r3, t3, q2a.of (Int.le_refl _) (fun k hk => u3 k ?_), ⟨⟨codeAt_lt q2.2.2.2.2.1 (Int.le_refl _) (fun k _ hk => u3 k ?_), c3⟩, q2.2.2.2.2.2⟩⟩ (by omega) (by omega) (fun a b h' e' fl f' => k1 a b h' ((T1_and z1).trans e') fl (((f1.trans f2).trans f3).trans f')) (fun A' B' C' p2 h' e' hp' q' n1 n2 u' f' => k2 A' B' C' p2 h' ((T1_and z1).trans e') (by omega) q' n1 n2 (fun k hk => by rw [u' k hk, u3 k (by show k ≠ nxC s A + ((mC (nxC s A) (ocC .and B C)).length : Int); omega), u2 k hk, u1 k hk]) (((f1.trans f2).trans f3).trans f')))
      · show k ≠ nxC s A + (mC (nxC s A) (ocC .and B C)).length
        omega
      · have hk : k < nxC s A + (mC (nxC s A) (ocC .and B C)).length := hk
        show k ≠ nxC s A + (mC (nxC s A) (ocC .and B C)).length
        omega
    · by_cases z2 : nxt f n p' = 124
      · refine s_M_readsCondition_92 (mHere (by omega) r1 ⟨fun _ => mHere (by omega) r1 ⟨fun y => absurd y z1, fun _ => mHere (by omega) r1 ⟨fun _ => ?_, fun y => absurd z2 y⟩⟩, fun y => by omega⟩)
        refine s_M_readsCondition_180 (mHere (by omega) r1 ?_)
        rw [if_pos z2]
        refine mLand1 (by omega) q1 s00 noj (fun h2 q2 u2 f2 => mHere (by omega) q2.1 ?_)
        rw [if_neg z1]
        refine mJumps (by omega) q2.1 q2.2.1 (nxt_lt z2 (by decide)) (Or.inr rfl) (fun h3 r3 t3 c3 u3 f3 => ih (p' + 1) i 161 (some (ocC .or A (ocC .and B C))) none h3 (by omega) ⟨r3, t3, ⟨⟨codeAt_lt q2.2.2.2.2.1 (Int.le_refl _) (fun k _ hk => u3 k ?_), c3⟩, q2.2.2.2.2.2⟩, trivial⟩ (by omega) (by omega) (fun a b h' e' fl f' => k1 a b h' ((T1_or z2).trans e') fl (((f1.trans f2).trans f3).trans f')) (fun A' B' C' p2 h' e' hp' q' n1 n2 u' f' => k2 A' B' C' p2 h' ((T1_or z2).trans e') (by omega) q' n1 n2 (fun k hk => by rw [u' k hk, u3 k (by show k ≠ s + ((mC s (ocC .or A (ocC .and B C))).length : Int); omega), u2 k hk, u1 k hk]) (((f1.trans f2).trans f3).trans f')))
        · have hk : k < s + (mC s (ocC .or A (ocC .and B C))).length := hk
          show k ≠ s + (mC s (ocC .or A (ocC .and B C))).length
          omega
      · exact k2 A B C p' h1 (T1_end z1 z2) hp q1 z1 z2 u1 f1
end RM5

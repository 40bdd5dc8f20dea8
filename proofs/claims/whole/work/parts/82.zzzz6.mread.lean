/-! the reference reads a law: a whole condition -/
section RM6
variable {d : Nat} {f : Int → Int} {n p s : Int} {ws : List Int} {o : Nat} {h : AH} {K : Int → AH → Prop} {D : Nat} {Q : Int → AH → Prop}
theorem rBraM {pc : Int → Rs Jvm.Cond} (hD : 6 < D) (rp : ∀ (p s : Int) (ws : List Int) (h : AH), RdM f n p s ws o h → Tb p s ws → NoOp ws → ws ≠ [] → CtP f n p s ws o h (Q 0) (EP D Q) (pc p) → A_M_readsCondition_40 D Q h) (r : RdM f n p s (13631488 :: ws) o h) (tb : Tb p s (13631488 :: ws)) (ho : o + 1 ≤ 6) (k1 : ∀ a b h', pBra f n pc p = .inl (a, b) → FltM n a b h' → FRm h h' → Q 0 h') (k2 : ∀ C p' h', pBra f n pc p = .inr (C, p') → p < p' → RdM f n p' (s + (mC s C).length) ws (o + 1) h' → codeAt h' 65 s (mC s C) → Tb p' (s + (mC s C).length) ws → WfC C → (∀ k, k < s → h'.1 65 k = h.1 65 k) → FRm h h' → (ws ≠ [] → EP D Q h') ∧ (ws = [] → Q 1 h')) : A_M_readsCondition_40 D Q h := by
  have b := r.2.2.2
  unfold pBra at k1 k2
  rw [pParts_T0] at k1 k2
  refine rPartsM (ws := 13631488 :: ws) hD rp (fun x w' e => by cases e; rfl) (List.cons_ne_nil _ _) b.2.1 (n - p + 1).toNat p 161 161 none none h (by omega) ⟨r, tb, trivial, trivial⟩ (by omega) (by omega) (fun a b h' e fl ff => k1 a b h' (by rw [e]) fl ff) (fun A B C p' h1 e hp q n1 n2 u1 f1 => ?_)
  rw [e] at k1 k2
  have bq := q.1.2.2.2
  refine s_M_readsCondition_92 (mHere (by omega) q.1 ⟨fun z => mHere (by omega) q.1 ⟨fun y => absurd y n1, fun _ => mHere (by omega) q.1 ⟨fun y => absurd y n2, fun _ => ?_⟩⟩, fun z => ?_⟩)
  · rw [q.1.2.1.1]
    exact mWrong (by omega) q.1 (by decide) (fun h' fl f' => ⟨Or.inl rfl, k1 1 p' h' (if_neg z) fl (f1.trans f')⟩)
  · refine mLand1 (by omega) q b.2.1 (fun x w' e => by cases e; decide) (fun h3 q3 u3 f3 => ?_)
    have r3 : RdM f n p' (s + (mC s (ocC .or A (ocC .and B C))).length) (13631488 :: ws) o h3 := q3.1
    have t3 : Tb p' (s + (mC s (ocC .or A (ocC .and B C))).length) (13631488 :: ws) := q3.2.1
    have c3 : codeAt h3 65 s (mC s (ocC .or A (ocC .and B C))) := q3.2.2.2.2.1
    have hq := nxt_lt z (by decide)
    rw [r3.2.1.2.2.2.1, r3.2.1.2.2.2.2, r3.2.1.1]
    have e17 : (((13631488 :: ws).length : Nat) : Int) - 1 = ws.length := by show ((ws.length + 1 : Nat) : Int) - 1 = _; omega
    rw [e17]
    have f4 : FRm h3 (wI (wI (wI h3 12 17 ws.length) 12 15 (6 - (o : Int) - 1)) 12 12 (p' + 1)) := ((Fr.wI (Or.inr (by decide))).trans (Fr.wI (Or.inr (by decide)))).trans (Fr.wI (Or.inr (by decide)))
    obtain ⟨t3a, t3b⟩ := t3
    have t3b : ((ws.length + 1 : Nat) : Int) ≤ p' := t3b
    rw [nOps_no (by decide)] at t3a
    have r4 := r3.pop (o' := o + 1) (p' := p' + 1) (s' := s + (mC s (ocC .or A (ocC .and B C))).length) f4 (fun k _ _ => by rw [rI_ne (by decide), rI_ne (by decide), rI_ne (by decide)]) rI_eq (by rw [rI_nk (by decide), rI_nk (by decide), rI_nk (by decide)]; exact r3.2.1.2.2.1) (by rw [rI_nk (by decide), rI_nk (by decide)]; exact rI_eq) (by rw [rI_nk (by decide), rI_eq]; omega) ⟨by omega, by omega⟩ (by omega) ho
    obtain ⟨ka, kb⟩ := k2 (.all (.int 0) (ocC .or A (ocC .and B C))) (p' + 1) _ (if_pos z) (by omega) r4 (codeAt_fr (L := []) (F := []) c3 (fun k => by rw [rI_ne (by decide), rI_ne (by decide), rI_ne (by decide)])) ⟨by show s + ((mC s (ocC .or A (ocC .and B C))).length : Int) + nOps ws ≤ p' + 1; omega, by omega⟩ q3.2.2.2.2.2 (fun k hk => by rw [rI_ne (by decide), rI_ne (by decide), rI_ne (by decide), u3 k hk, u1 k hk]) ((f1.trans f3).trans f4)
    exact ⟨ii (by omega), ii (by omega), ii (by omega), fun y => c_M_endsPiece 5 (by omega) (ka (fun e => y (by rw [e]; rfl)) 5 _ (by decide) (fun h' a => a)), fun y => kb (List.eq_nil_of_length_eq_zero (by omega))⟩
theorem rPieceT {pc : Int → Rs Jvm.Cond} (hD : 6 < D) (rp : ∀ o', o = o' + 1 → ∀ (p s : Int) (ws : List Int) (h : AH), RdM f n p s ws o' h → Tb p s ws → NoOp ws → ws ≠ [] → CtP f n p s ws o' h (Q 0) (EP D Q) (pc p) → A_M_readsCondition_40 D Q h) (r : RdM f n p s ws o h) (tb : Tb p s ws) (no : NoOp ws) (hne : ws ≠ []) (k : CtP f n p s ws o h (Q 0) (EP D Q) (if nxt f n p = 40 then (if o = 0 then .inl (5, p) else pBra f n pc (p + 1)) else if nxt f n p = 33 then (if o = 0 then .inl (5, p) else (match pc (p + 1) with
      | .inl e => .inl e
      | .inr q => .inr (.not q.1, q.2))) else pCmp f n o p)) : A_M_readsCondition_40 D Q h := by
  have b := r.2.2.2
  obtain ⟨t1, t2⟩ := tb
  obtain ⟨k1, k2⟩ := k
  by_cases z3 : nxt f n p = 33
  · rw [if_neg (by omega), if_pos z3] at k1 k2
    refine s_M_readsCondition_40 (mHere (by omega) r ⟨fun _ => ?_, fun y => absurd z3 y⟩)
    refine s_M_readsCondition_58 (mHere (by omega) r ?_)
    rw [if_pos z3]
    refine mOpens (by omega) r (nxt_lt z3 (by decide)) (by omega) (by decide) (by omega) (fun h1 o' eo r1 u1 f1 => br1' ?_) (fun h1 eo fl f1 => br0' (k1 5 p h1 (if_pos eo) fl f1))
    have r1 : RdM f n (p + 1) s (10485760 :: ws) o' h1 := r1
    rw [if_neg (by omega)] at k1 k2
    refine rp o' eo (p + 1) s (10485760 :: ws) h1 r1 ⟨by rw [nOps_op (by decide)]; omega, by show ((ws.length + 1 : Nat) : Int) ≤ p + 1; omega⟩ (NoOp.cons (by decide)) (List.cons_ne_nil _ _) ⟨fun a b h' e fl f' => k1 a b h' (by rw [e]) fl (f1.trans f'), fun C p' h2 e hp r2 c2 tb2 w u2 f2 => ?_⟩
    have b2 := r2.2.2.2
    obtain ⟨t3, t4⟩ := tb2
    rw [nOps_op (by decide)] at t3
    have t4 : ((ws.length + 1 : Nat) : Int) ≤ p' := t4
    have ln : ((mC s (.not C)).length : Int) = (mC s C).length + 1 := by
      show ((mC s C ++ [10485760]).length : Int) = _
      rw [List.length_append]; rfl
    refine epPop r2 (by omega) (by omega) (by omega) (fun h3 r3 c3 u3 f3 => k2 (.not C) p' h3 (by rw [e]) (by omega) ?_ (codeAt_join (codeAt_lt c2 (Int.le_refl _) (fun k _ hk => u3 k (by omega))) (codeAt_one c3)) ⟨by omega, by omega⟩ w (fun k hk => by rw [u3 k (by omega), u2 k hk, u1]) ((f1.trans f2).trans f3))
    rw [ln, show s + (((mC s C).length : Int) + 1) = s + (mC s C).length + 1 by omega, eo]
    exact r3
  · by_cases z4 : nxt f n p = 40
    · rw [if_pos z4] at k1 k2
      refine s_M_readsCondition_40 (mHere (by omega) r ⟨fun y => absurd y z3, fun _ => mHere (by omega) r ⟨fun y => absurd z4 y, fun _ => ?_⟩⟩)
      refine s_M_readsCondition_58 (mHere (by omega) r ?_)
      rw [if_neg z3]
      refine mOpens (by omega) r (nxt_lt z4 (by decide)) (by omega) (by decide) (by omega) (fun h1 o' eo r1 u1 f1 => br1' ?_) (fun h1 eo fl f1 => br0' (k1 5 p h1 (if_pos eo) fl f1))
      have r1 : RdM f n (p + 1) s (13631488 :: ws) o' h1 := r1
      rw [if_neg (by omega)] at k1 k2
      refine rBraM hD (rp o' eo) r1 ⟨by rw [nOps_no (by decide)]; omega, by show ((ws.length + 1 : Nat) : Int) ≤ p + 1; omega⟩ (by omega) (fun a b h' e fl f' => k1 a b h' e fl (f1.trans f')) (fun C p' h2 e hp r2 c2 tb2 w u2 f2 => ⟨fun _ => k2 C p' h2 e (by omega) (by rw [eo]; exact r2) c2 tb2 w (fun k hk => by rw [u2 k hk, u1]) (f1.trans f2), fun y => absurd y hne⟩)
    · rw [if_neg z4, if_neg z3] at k1 k2
      refine s_M_readsCondition_40 (mHere (by omega) r ⟨fun y => absurd y z3, fun _ => mHere (by omega) r ⟨fun _ => mCompared hD r ⟨t1, t2⟩ no ⟨fun a b h' e fl f' => br0' (k1 a b h' e fl f'), fun C p' h2 e hp r2 c2 tb2 w u2 f2 => k2 C p' h2 e hp r2 c2 tb2 w u2 f2 5 _ (by decide) (fun h' a => br1' a)⟩, fun y => absurd y z4⟩⟩)
theorem rPieceM (hD : 6 < D) : ∀ (o : Nat) (p s : Int) (ws : List Int) (h : AH), RdM f n p s ws o h → Tb p s ws → NoOp ws → ws ≠ [] → CtP f n p s ws o h (Q 0) (EP D Q) (pPiece f n o p) → A_M_readsCondition_40 D Q h := by
  intro o
  induction o with
  | zero =>
    intro p s ws h r tb no hne k
    refine rPieceT (o := 0) (pc := fun p => .inl (0, p)) hD (fun o' e => by omega) r tb no hne ?_
    unfold pPiece at k
    by_cases z : nxt f n p = 40
    · rw [if_pos (Or.inl z)] at k
      rw [if_pos z, if_pos rfl]
      exact k
    · by_cases z2 : nxt f n p = 33
      · rw [if_pos (Or.inr z2)] at k
        rw [if_neg z, if_pos z2, if_pos rfl]
        exact k
      · rw [if_neg (by omega)] at k
        rw [if_neg z, if_neg z2]
        exact k
  | succ o ih =>
    intro p s ws h r tb no hne k
    refine rPieceT (o := o + 1) (pc := pPiece f n o) hD (fun o' e => by
      have e : o = o' := by omega
      rw [← e]
      exact ih) r tb no hne ?_
    rw [if_neg (Nat.succ_ne_zero o), if_neg (Nat.succ_ne_zero o)]
    exact k
theorem mCondition (hd : 7 < d) (r : RdM f n p s [] 6 h) (tb : Tb p s []) (k : CtP f n p s [] 6 h (K 0) (K 1) (pCond f n p)) : Call d M_M_readsCondition [vR 12 (-1)] h K := by
  have b := r.2.2.2
  obtain ⟨k1, k2⟩ := k
  unfold pCond at k1 k2
  refine c_M_readsCondition 7 hd (mHere (by decide) r ⟨fun z => ?_, fun z => ?_⟩)
  · rw [if_pos z] at k1 k2
    have f0 : FRm h (wI (wI h 12 15 0) 12 17 0) := (Fr.wI (Or.inr (by decide))).trans (Fr.wI (Or.inr (by decide)))
    have r0 : RdM f n p s [] 6 (wI (wI h 12 15 0) 12 17 0) := r.fr f0 (fun k _ _ => by rw [rI_ne (by decide), rI_ne (by decide)]) (by rw [rI_nk (by decide), rI_nk (by decide)]; exact r.2.1.1) (by rw [rI_nk (by decide), rI_nk (by decide)]; exact r.2.1.2.2.1) rI_eq (by rw [rI_nk (by decide)]; exact rI_eq) ⟨b.1.1, b.1.2.1⟩ b.2.1 b.2.2
    refine mOpens (by decide) r0 (nxt_lt z (by decide)) (by decide) (by decide) (by decide) (fun h1 o' eo r1 u1 f1 => br1' ?_) (fun h1 eo fl f1 => absurd eo (by decide))
    have eo : o' = 5 := by omega
    rw [eo] at r1
    have r1 : RdM f n (p + 1) s [13631488] 5 h1 := r1
    obtain ⟨t1, t2⟩ := tb
    have t1 : s + ((0 : Nat) : Int) ≤ p := t1
    refine rBraM (by decide) (rPieceM (by decide) 5) r1 ⟨by rw [nOps_no (by decide)]; show s + ((0 : Nat) : Int) ≤ p + 1; omega, by show ((1 : Nat) : Int) ≤ p + 1; omega⟩ (by decide) (fun a b h' e fl f' => k1 a b h' e fl ((f0.trans f1).trans f')) (fun C p' h2 e hp r2 c2 tb2 w u2 f2 => ⟨fun y => absurd rfl y, fun _ => k2 C p' h2 e (by omega) r2 c2 tb2 w (fun k hk => by rw [u2 k hk, u1, rI_ne (by decide), rI_ne (by decide)]) ((f0.trans f1).trans f2)⟩)
  · rw [if_neg z] at k1 k2
    rw [r.2.1.1]
    exact mWrong (by decide) r (by decide) (fun h' fl f' => ⟨Or.inl rfl, k1 1 p h' rfl fl f'⟩)
end RM6

/-! a sum has no more orders than places -/
theorem rdN_ge {f : Int → Int} {n : Int} : ∀ (k : Nat) (p a : Int), p ≤ (rdN f n k p a).2
  | 0, p, _ => Int.le_refl p
  | k + 1, p, a => by
    unfold rdN
    by_cases z : 48 ≤ nxt f n p ∧ nxt f n p ≤ 57
    · rw [if_pos z]
      have := rdN_ge (f := f) (n := n) k (p + 1) (10 * a + nxt f n p - 48)
      omega
    · rw [if_neg z]
      exact Int.le_refl p
def LenB (one : Int → Rs Jvm.Term) : Prop := ∀ p E p', one p = .inr (E, p') → ((mE E).length : Int) ≤ p' - p
theorem pMore_len {f : Int → Int} {n : Int} {S : List Int} {one : Int → Rs Jvm.Term} (hS : ∀ x ∈ S, x ∈ [43, 45, 42, 47, 37]) (ho : LenB one) : ∀ (k : Nat) (a : Jvm.Term) (p : Int) (E : Jvm.Term) (p' : Int), pMore f n S one k a p = .inr (E, p') → ((mE E).length : Int) ≤ (mE a).length + (p' - p)
  | 0, a, p, E, p', e => by cases e
  | k + 1, a, p, E, p', e => by
    unfold pMore at e
    by_cases z : nxt f n p ∈ S
    · rw [if_pos z] at e
      cases e1 : one (p + 1) with
      | inl x => rw [e1] at e; cases e
      | inr q =>
        rw [e1] at e
        have i := pMore_len hS ho k _ _ E p' e
        have i2 := ho (p + 1) q.1 q.2 e1
        rw [(mE_opT (hS _ z)).1, List.length_append, List.length_append] at i
        have i : ((mE E).length : Int) ≤ (((mE a).length + ((mE q.1).length + 1) : Nat) : Int) + (p' - q.2) := i
        omega
    · rw [if_neg z] at e
      cases e
      omega
theorem pChain_len {f : Int → Int} {n : Int} {S : List Int} {one : Int → Rs Jvm.Term} (hS : ∀ x ∈ S, x ∈ [43, 45, 42, 47, 37]) (ho : LenB one) : LenB (pChain f n S one) := fun p E p' e => by
  unfold pChain at e
  cases e1 : one p with
  | inl x => rw [e1] at e; cases e
  | inr q =>
    rw [e1] at e
    have i := pMore_len hS ho 161 _ _ E p' e
    have i2 := ho p q.1 q.2 e1
    omega
theorem pFac_len {f : Int → Int} {n : Int} {o : Nat} {sum : Int → Rs Jvm.Term} (ho : LenB sum) : LenB (pFac f n o sum) := fun p E p' e => by
  unfold pFac at e
  by_cases z : nxt f n p = 91
  · rw [if_pos z] at e
    by_cases z2 : o = 0
    · rw [if_pos z2] at e; cases e
    · rw [if_neg z2] at e
      cases e1 : sum (p + 1) with
      | inl x => rw [e1] at e; cases e
      | inr q =>
        rw [e1] at e
        have e : (if nxt f n q.2 = 93 then (.inr (q.1, q.2 + 1) : Rs Jvm.Term) else .inl (1, q.2)) = .inr (E, p') := e
        by_cases z3 : nxt f n q.2 = 93
        · rw [if_pos z3] at e
          cases e
          have := ho (p + 1) q.1 q.2 e1
          omega
        · rw [if_neg z3] at e; cases e
  · rw [if_neg z] at e
    by_cases z2 : 48 ≤ nxt f n p ∧ nxt f n p ≤ 57
    · rw [if_pos z2] at e
      unfold pNum at e
      have g : rdN f n 5 p 0 = rdN f n 4 (p + 1) (10 * 0 + nxt f n p - 48) := by
        show (if 48 ≤ nxt f n p ∧ nxt f n p ≤ 57 then _ else _) = _
        rw [if_pos z2]
      have g2 := rdN_ge (f := f) (n := n) 4 (p + 1) (10 * 0 + nxt f n p - 48)
      rw [← g] at g2
      by_cases z3 : 48 ≤ nxt f n (rdN f n 5 p 0).2 ∧ nxt f n (rdN f n 5 p 0).2 ≤ 57
      · rw [if_pos z3] at e; cases e
      · rw [if_neg z3] at e
        cases e
        show ((1 : Nat) : Int) ≤ _
        omega
    · rw [if_neg z2] at e
      by_cases z3 : pName (nxt f n p) < 0
      · rw [if_pos z3] at e; cases e
      · rw [if_neg z3] at e
        cases e
        show ((1 : Nat) : Int) ≤ _
        omega
theorem pSum_len {f : Int → Int} {n : Int} : ∀ o, LenB (pSum f n o)
  | 0 => pChain_len (by decide) (pChain_len (by decide) (pFac_len (fun p E p' e => by cases e)))
  | o + 1 => pChain_len (by decide) (pChain_len (by decide) (pFac_len (pSum_len o)))
/-! the reference reads a law: conditions -/
def nxC (s : Int) : Option Jvm.Cond → Int
  | none => s
  | some X => s + (mC s X).length + 1
def wC (op s : Int) : Option Jvm.Cond → List Int
  | none => []
  | some X => [1048576 * op + (s + (mC s X).length)]
def cdC (op s : Int) (h : AH) : Option Jvm.Cond → Prop
  | none => True
  | some X => (codeAt h 65 s (mC s X) ∧ h.1 65 (s + (mC s X).length) = 1048576 * op) ∧ WfC X
def ocC (j : Jvm.Cond → Jvm.Cond → Jvm.Cond) : Option Jvm.Cond → Jvm.Cond → Jvm.Cond
  | none, C => C
  | some X, C => j X C
/-- a piece C stands behind what waits -/
def CP (f : Int → Int) (n p s0 : Int) (A B : Option Jvm.Cond) (C : Jvm.Cond) (ws : List Int) (o : Nat) (h : AH) : Prop := RdM f n p (nxC (nxC s0 A) B + (mC (nxC (nxC s0 A) B) C).length) (wC 11 (nxC s0 A) B ++ (wC 12 s0 A ++ ws)) o h ∧ Tb p (nxC (nxC s0 A) B + (mC (nxC (nxC s0 A) B) C).length) (wC 11 (nxC s0 A) B ++ (wC 12 s0 A ++ ws)) ∧ cdC 12 s0 h A ∧ cdC 11 (nxC s0 A) h B ∧ codeAt h 65 (nxC (nxC s0 A) B) (mC (nxC (nxC s0 A) B) C) ∧ WfC C
theorem cdC.of {op s e : Int} {h h' : AH} {A : Option Jvm.Cond} (q : cdC op s h A) (he : nxC s A ≤ e) (u : ∀ k, k < e → h'.1 65 k = h.1 65 k) : cdC op s h' A := by
  cases A with
  | none => trivial
  | some X =>
    have he : s + (mC s X).length + 1 ≤ e := he
    exact ⟨⟨codeAt_lt q.1.1 (Int.le_refl _) (fun k _ hk => u k (by omega)), by rw [u _ (by omega)]; exact q.1.2⟩, q.2⟩
theorem nxC_le {s : Int} {A : Option Jvm.Cond} : s ≤ nxC s A := by
  cases A with
  | none => exact Int.le_refl s
  | some X => show s ≤ s + (mC s X).length + 1; omega
section RM4
variable {d : Nat} {f : Int → Int} {n p s : Int} {ws : List Int} {o : Nat} {h : AH} {K : Int → AH → Prop} {D : Nat} {Q : Int → AH → Prop}
theorem lPop {op ix p1 : Int} (hd : 1 < d) (r : RdM f n p s ((1048576 * op + ix) :: ws) o h) (hop : op = 11 ∨ (op = 12 ∧ p1 ≠ 0)) (hx : 0 ≤ ix ∧ ix < 180) (hs : s < 1000) (hw : ws.length < 160) (hc : h.1 65 ix = 1048576 * op) (k : ∀ h', RdM f n p s ws o h' → h'.1 65 ix = 1048576 * op + s → (∀ k, k ≠ ix → h'.1 65 k = h.1 65 k) → FRm h h' → A_M_lands_0 d K p1 h') : A_M_lands_0 d K p1 h := by
  have bd := r.2.2.2
  have lw : ((1048576 * op + ix) :: ws).length ≤ 160 := hw
  have e17 : h.1 12 17 - 1 = ws.length := by rw [r.2.1.2.2.2.1]; show ((ws.length + 1 : Nat) : Int) - 1 = _; omega
  have tq : ∀ {D : Nat} {K : Int → AH → Prop}, 0 < D → K op h → Call D M_M_top [vR 12 (-1)] h K := fun hD k => mTop hD r lw (fun e => by cases e) (fun x w' e => by
    cases e
    rw [show (1048576 * op + ix) / 1048576 = op by omega]
    exact k)
  have go : A_M_lands_22 d K p1 h := by
    refine s_M_lands_22 ?_
    have cx := r.2.2.1.1.1
    rw [e17, cx]
    obtain ⟨g1, g2⟩ := code_parts (op := op) (v := ix) (by omega) hx.1 (by omega)
    rw [g2, hc]
    have g3 := (code_parts (op := op) (v := 0) (by omega) (Int.le_refl 0) (by decide)).1
    rw [Int.add_zero] at g3
    rw [g3, r.2.1.2.2.1]
    have f2 : FRm h (wI (wI h 65 ix (1048576 * op + s)) 12 17 ws.length) := (Fr.wI (Or.inl (by decide))).trans (Fr.wI (Or.inr (by decide)))
    refine ⟨ii (by omega), ib (by omega), ib (by omega), ii (by omega), ii (by omega), ii (by omega), k _ (r.pop f2 (fun k _ _ => by rw [rI_ne (by decide), rI_ne (by decide)]) ?_ ?_ rI_eq ?_ ⟨bd.1.1, bd.1.2.1⟩ (by omega) bd.2.2) ?_ (fun k hk => ?_) f2⟩
    · rw [rI_nk (by decide), rI_ne (by decide)]; exact r.2.1.1
    · rw [rI_nk (by decide), rI_ne (by decide)]; exact r.2.1.2.2.1
    · rw [rI_nk (by decide), rI_ne (by decide)]; exact r.2.1.2.2.2.2
    · rw [rI_ne (by decide)]; exact rI_eq
    · rw [rI_ne (by decide), rI_nk hk]
  exact s_M_lands_0 (tq (by omega) ⟨fun _ => go, fun z => ⟨fun z2 => by omega, fun _ => tq (by omega) ⟨fun z3 => by omega, fun _ => go⟩⟩⟩)
theorem lStop {p1 : Int} (hd : 1 < d) (r : RdM f n p s ws o h) (hw : ws.length ≤ 160) (hn : ∀ x w', ws = x :: w' → x / 1048576 ≠ 11 ∧ (p1 ≠ 0 → x / 1048576 ≠ 12)) (k : K 0 h) : A_M_lands_0 d K p1 h :=
  s_M_lands_0 (mTop (by omega) r hw (fun e => ⟨fun z => absurd z (by decide), fun _ => ⟨fun _ => k, fun z => mTop (by omega) r hw (fun e => ⟨fun _ => k, fun z => absurd z (by decide)⟩) (fun x w' e2 => by rw [e] at e2; cases e2)⟩⟩) (fun x w' e => ⟨fun z => absurd z (hn x w' e).1, fun _ => ⟨fun _ => k, fun z => mTop (by omega) r hw (fun e2 => by rw [e] at e2; cases e2) (fun x2 w2 e2 => ⟨fun _ => k, fun z2 => absurd z2 ((hn x2 w2 e2).2 z)⟩)⟩⟩))
/-- not a leap -/
def NoJ (ws : List Int) : Prop := ∀ x w', ws = x :: w' → x / 1048576 ≠ 11 ∧ x / 1048576 ≠ 12
theorem landB {p1 s0 : Int} {A B : Option Jvm.Cond} {C : Jvm.Cond} (hd : 1 < d) (q : CP f n p s0 A B C ws o h) (s00 : 0 ≤ s0) (k : ∀ h', CP f n p s0 A none (ocC .and B C) ws o h' → (∀ k, k < s0 → h'.1 65 k = h.1 65 k) → FRm h h' → A_M_lands_0 d K p1 h') : A_M_lands_0 d K p1 h := by
  obtain ⟨r, tb, cA, cB, cC, w⟩ := q
  cases B with
  | none => exact k h ⟨r, tb, cA, cB, cC, w⟩ (fun _ _ => rfl) Fr.refl
  | some Y =>
    have l0 : s0 ≤ nxC s0 A := nxC_le
    have tb1 := tb.1
    have tb2 : (((wC 12 s0 A ++ ws).length + 1 : Nat) : Int) ≤ p := tb.2
    have bp := r.2.2.2
    have lB : nxC (nxC s0 A) (some Y) = nxC s0 A + (mC (nxC s0 A) Y).length + 1 := rfl
    rw [lB] at r tb tb1 cC
    have ln : ((mC (nxC s0 A) (.and Y C)).length : Int) = (mC (nxC s0 A) Y).length + 1 + (mC (nxC s0 A + (mC (nxC s0 A) Y).length + 1) C).length := by
      show ((mC (nxC s0 A) Y ++ _ :: mC (nxC s0 A + (mC (nxC s0 A) Y).length + 1) C).length : Int) = _
      rw [List.length_append, List.length_cons]
      omega
    have le : nxC s0 A + (mC (nxC s0 A) Y).length + 1 + ((mC (nxC s0 A + (mC (nxC s0 A) Y).length + 1) C).length : Int) = nxC s0 A + ((mC (nxC s0 A) (.and Y C)).length : Int) := by omega
    rw [le] at r tb tb1
    have r : RdM f n p (nxC s0 A + ((mC (nxC s0 A) (.and Y C)).length : Int)) ((1048576 * 11 + (nxC s0 A + (mC (nxC s0 A) Y).length)) :: (wC 12 s0 A ++ ws)) o h := r
    refine lPop hd r (Or.inl rfl) (by omega) (by omega) (by omega) cB.1.2 (fun h' r' c1 c2 ff => k h' ⟨r', ⟨?_, by show ((wC 12 s0 A ++ ws).length : Int) ≤ p; omega⟩, cA.of (Int.le_refl _) (fun k hk => c2 k (by omega)), trivial, ?_, cB.2, w⟩ (fun k hk => c2 k (by omega)) ff)
    · have : nOps (wC 11 (nxC s0 A) (some Y) ++ (wC 12 s0 A ++ ws)) = nOps (wC 12 s0 A ++ ws) := nOps_no (by omega)
      rw [this] at tb1
      exact tb1
    · show codeAt h' 65 (nxC s0 A) (mC (nxC s0 A) Y ++ (11534336 + (nxC s0 A + (mC (nxC s0 A) Y).length + 1 + (mC (nxC s0 A + (mC (nxC s0 A) Y).length + 1) C).length)) :: mC (nxC s0 A + (mC (nxC s0 A) Y).length + 1) C)
      refine codeAt_join (codeAt_lt cB.1.1 (Int.le_refl _) (fun k _ hk => c2 k (by omega))) (codeAt_join (l := [_]) (codeAt_one ?_) (codeAt_lt cC (Int.le_refl _) (fun k hk _ => c2 k ?_)))
      · rw [c1, le]; rfl
      · have hk : nxC s0 A + (mC (nxC s0 A) Y).length + 1 ≤ k := hk
        omega
theorem landA {p1 s0 : Int} {A : Option Jvm.Cond} {C : Jvm.Cond} (hd : 1 < d) (hp : p1 ≠ 0) (q : CP f n p s0 A none C ws o h) (s00 : 0 ≤ s0) (k : ∀ h', CP f n p s0 none none (ocC .or A C) ws o h' → (∀ k, k < s0 → h'.1 65 k = h.1 65 k) → FRm h h' → A_M_lands_0 d K p1 h') : A_M_lands_0 d K p1 h := by
  obtain ⟨r, tb, cA, cB, cC, w⟩ := q
  cases A with
  | none => exact k h ⟨r, tb, cA, cB, cC, w⟩ (fun _ _ => rfl) Fr.refl
  | some Y =>
    have tb1 := tb.1
    have tb2 : ((ws.length + 1 : Nat) : Int) ≤ p := tb.2
    have bp := r.2.2.2
    have lB : nxC (nxC s0 (some Y)) none = s0 + (mC s0 Y).length + 1 := rfl
    rw [lB] at r tb tb1 cC
    have ln : ((mC s0 (.or Y C)).length : Int) = (mC s0 Y).length + 1 + (mC (s0 + (mC s0 Y).length + 1) C).length := by
      show ((mC s0 Y ++ _ :: mC (s0 + (mC s0 Y).length + 1) C).length : Int) = _
      rw [List.length_append, List.length_cons]
      omega
    have le : s0 + (mC s0 Y).length + 1 + ((mC (s0 + (mC s0 Y).length + 1) C).length : Int) = s0 + ((mC s0 (.or Y C)).length : Int) := by omega
    rw [le] at r tb tb1
    have r : RdM f n p (s0 + ((mC s0 (.or Y C)).length : Int)) ((1048576 * 12 + (s0 + (mC s0 Y).length)) :: ws) o h := r
    refine lPop hd r (Or.inr ⟨rfl, hp⟩) (by omega) (by omega) (by omega) cA.1.2 (fun h' r' c1 c2 ff => k h' ⟨r', ⟨?_, by show (ws.length : Int) ≤ p; omega⟩, trivial, trivial, ?_, cA.2, w⟩ (fun k hk => c2 k (by omega)) ff)
    · have : nOps (wC 11 (nxC s0 (some Y)) none ++ (wC 12 s0 (some Y) ++ ws)) = nOps ws := nOps_no (by omega)
      rw [this] at tb1
      exact tb1
    · show codeAt h' 65 s0 (mC s0 Y ++ (12582912 + (s0 + (mC s0 Y).length + 1 + (mC (s0 + (mC s0 Y).length + 1) C).length)) :: mC (s0 + (mC s0 Y).length + 1) C)
      refine codeAt_join (codeAt_lt cA.1.1 (Int.le_refl _) (fun k _ hk => c2 k (by omega))) (codeAt_join (l := [_]) (codeAt_one ?_) (codeAt_lt cC (Int.le_refl _) (fun k hk _ => c2 k ?_)))
      · rw [c1, le]; rfl
      · have hk : s0 + (mC s0 Y).length + 1 ≤ k := hk
        omega
theorem mLand0 {s0 : Int} {A B : Option Jvm.Cond} {C : Jvm.Cond} (hd : 2 < d) (q : CP f n p s0 A B C ws o h) (s00 : 0 ≤ s0) (no : NoJ ws) (k : ∀ h', CP f n p s0 A none (ocC .and B C) ws o h' → (∀ k, k < s0 → h'.1 65 k = h.1 65 k) → FRm h h' → K 0 h') : Call d M_M_lands [vR 12 (-1), vI 0] h K := by
  refine c_M_lands 2 hd (landB (by decide) q s00 (fun h' q' u ff => lStop (by decide) q'.1 ?_ (fun x w' e => ⟨?_, fun z => absurd rfl z⟩) (k h' q' u ff)))
  · have t := q'.2.1.2
    have := q'.1.2.2.2.1
    omega
  · cases A with
    | none => exact (no x w' e).1
    | some a =>
      have e : (1048576 * 12 + (s0 + (mC s0 a).length)) :: ws = x :: w' := e
      cases e
      have t := q'.2.1.1
      have b := q'.1.2.2.2
      have : nxC (nxC s0 (some a)) none = s0 + (mC s0 a).length + 1 := rfl
      omega
theorem mLand1 {s0 : Int} {A B : Option Jvm.Cond} {C : Jvm.Cond} (hd : 2 < d) (q : CP f n p s0 A B C ws o h) (s00 : 0 ≤ s0) (no : NoJ ws) (k : ∀ h', CP f n p s0 none none (ocC .or A (ocC .and B C)) ws o h' → (∀ k, k < s0 → h'.1 65 k = h.1 65 k) → FRm h h' → K 0 h') : Call d M_M_lands [vR 12 (-1), vI 1] h K := by
  refine c_M_lands 2 hd (landB (by decide) q s00 (fun h1 q1 u1 f1 => landA (by decide) (by decide) q1 s00 (fun h' q' u ff => lStop (by decide) q'.1 ?_ (fun x w' e => ⟨(no x w' e).1, fun _ => (no x w' e).2⟩) (k h' q' (fun k hk => (u k hk).trans (u1 k hk)) (f1.trans ff)))))
  have t := q'.2.1.2
  have := q'.1.2.2.2.1
  omega
theorem mJumps {op : Int} (hd : 1 < d) (r : RdM f n p s ws o h) (tb : Tb p s ws) (hp : p < n) (hop : op = 11 ∨ op = 12) (k : ∀ h', RdM f n (p + 1) (s + 1) ((1048576 * op + s) :: ws) o h' → Tb (p + 1) (s + 1) ((1048576 * op + s) :: ws) → h'.1 65 s = 1048576 * op → (∀ k, k ≠ s → h'.1 65 k = h.1 65 k) → FRm h h' → K 0 h') : Call d M_M_jumps [vR 12 (-1), vI op] h K := by
  have b := r.2.2.2
  obtain ⟨t1, t2⟩ := tb
  refine c_M_jumps 1 hd ?_
  rw [r.2.1.2.2.1, r.2.1.2.2.2.1]
  have f1 : FRm h (wI (wI h 66 ws.length (1048576 * op + s)) 12 17 (ws.length + 1)) := (Fr.wI (Or.inl (by decide))).trans (Fr.wI (Or.inr (by decide)))
  have r1 := r.push (x := 1048576 * op + s) (p' := p) (s' := s) (o' := o) (by omega) f1 (fun k k0 k1 => by rw [rI_ne (by decide), rI_nk (by omega)]) (by rw [rI_ne (by decide)]; exact rI_eq) (by rw [rI_nk (by decide), rI_ne (by decide)]; exact r.2.1.1) (by rw [rI_nk (by decide), rI_ne (by decide)]; exact r.2.1.2.2.1) rI_eq (by rw [rI_nk (by decide), rI_ne (by decide)]; exact r.2.1.2.2.2.2) ⟨b.1.1, b.1.2.1⟩ b.2.1 b.2.2
  refine ⟨ii (by omega), ii (by omega), ib (by omega), ii (by omega), mNotes (by decide) r1 (by omega) (by omega) (by decide) (fun h2 r2 c1 c2 f2 => ?_)⟩
  rw [r2.2.1.1]
  obtain ⟨r3, f3⟩ := r2.on hp
  refine ⟨ii (by omega), k _ r3 ⟨by rw [nOps_no (by omega)]; omega, by show ((ws.length + 1 : Nat) : Int) ≤ p + 1; omega⟩ (by rw [rI_ne (by decide), c1]; omega) (fun k hk => by rw [rI_ne (by decide), c2 k hk, rI_ne (by decide), rI_ne (by decide)]) ((f1.trans f2).trans f3)⟩
end RM4

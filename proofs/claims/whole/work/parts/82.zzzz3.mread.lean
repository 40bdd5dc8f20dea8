/-! the reference reads a law: sums, their end -/
def GF (D : Nat) (v1 : Int) (Q : Int → AH → Prop) (h : AH) : Prop := ∀ (d' : Nat) (K' : Int → AH → Prop), 2 < d' → (∀ h', A_M_readsSum_14 D Q v1 h' → K' 1 h') → (∀ h', Q 0 h' → K' 0 h') → A_M_readsFactor_0 d' K' h
def CtF (f : Int → Int) (n p s : Int) (ws : List Int) (o : Nat) (h : AH) (D : Nat) (v1 : Int) (Q : Int → AH → Prop) (R : Rs Jvm.Term) : Prop := (∀ a b h', R = .inl (a, b) → FltM n a b h' → FRm h h' → Q 0 h') ∧ (∀ E p' h', R = .inr (E, p') → p < p' → RdM f n p' (s + (mE E).length) ws o h' → codeAt h' 65 s (mE E) → Tb p' (s + (mE E).length) ws → WfE E → (∀ k, k < s → h'.1 65 k = h.1 65 k) → FRm h h' → A_M_readsSum_14 D Q v1 h')
def CtS (f : Int → Int) (n p s : Int) (ws : List Int) (o : Nat) (h : AH) (D : Nat) (v1 : Int) (Q : Int → AH → Prop) (R : Rs Jvm.Term) : Prop := (∀ a b h', R = .inl (a, b) → FltM n a b h' → FRm h h' → Q 0 h') ∧ (∀ A B E p' h', R = .inr (ov A (ov B E), p') → p < p' → SS f n p' s A B (mE E) ws o h' → WfE E → nxt f n p' ∉ [43, 45, 42, 47, 37] → (∀ k, k < s → h'.1 65 k = h.1 65 k) → FRm h h' → A_M_readsSum_14 D Q v1 h')
theorem ov_wf {S : List Int} {A : Pn} {E : Jvm.Term} (hS : ∀ x ∈ S, x ∈ [43, 45, 42, 47, 37]) (o : OkP S A) (w : WfE E) : WfE (ov A E) := by
  cases A with
  | none => exact w
  | some y => exact (mE_opT (hS _ (o y rfl).2)).2.mpr ⟨(o y rfl).1, w⟩
theorem SS.wf {f : Int → Int} {n p s0 : Int} {A B : Pn} {l ws : List Int} {o : Nat} {h : AH} {E : Jvm.Term} (q : SS f n p s0 A B l ws o h) (w : WfE E) : WfE (ov A (ov B E)) := ov_wf (by decide) q.2.2.2.1 (ov_wf (by decide) q.2.2.2.2 w)
theorem NoOp.cons {x : Int} {ws : List Int} (hx : ¬ (2 ≤ x / 1048576 ∧ x / 1048576 ≤ 6)) : NoOp (x :: ws) := fun y w' e => by
  cases e
  exact hx
section RM3
variable {d : Nat} {f : Int → Int} {n p s : Int} {ws : List Int} {o : Nat} {h : AH} {K : Int → AH → Prop} {D : Nat} {v1 : Int} {Q : Int → AH → Prop}
theorem wAB {A B : Pn} {x : Int} (hx : x ∈ wPn B ++ wPn A) : 2 ≤ x / 1048576 ∧ x / 1048576 ≤ 6 := by
  have g : ∀ (A : Pn), x ∈ wPn A → 2 ≤ x / 1048576 ∧ x / 1048576 ≤ 6 := fun A hA => by
    cases A with
    | none => cases hA
    | some y =>
      have e : x = 1048576 * sgO y.2 := List.mem_singleton.mp hA
      have := sg_b (x := y.2)
      omega
  rcases List.mem_append.mp hx with z | z
  · exact g B z
  · exact g A z
theorem rFacM {sum : Int → Rs Jvm.Term} (hD : 4 < D) (r : RdM f n p s ws o h) (tb : Tb p s ws) (v0 : 0 ≤ v1) (hv : v1 ≤ ws.length) (rs : ∀ o', o = o' + 1 → ∀ (p s : Int) (ws : List Int) (h : AH), RdM f n p s ws o' h → Tb p s ws → NoOp ws → v1 ≤ ws.length → CtS f n p s ws o' h D v1 Q (sum p) → GF D v1 Q h) (k : CtF f n p s ws o h D v1 Q (pFac f n o sum p)) : GF D v1 Q h := by
  intro d' K' hd kT kF
  have b := r.2.2.2
  obtain ⟨t1, t2⟩ := tb
  obtain ⟨k1, k2⟩ := k
  unfold pFac at k1 k2
  refine s_M_readsFactor_0 (mHere (by omega) r ⟨fun z => ?_, fun z => ?_⟩)
  · rw [if_neg z] at k1 k2
    refine mIsDigit (by omega) r (fun hdg => br1 ?_) (fun hnd => br0 ?_)
    · rw [if_pos hdg] at k1 k2
      refine mNumber (by omega) r hdg (fun a b h' e fl ff => br0' (kF h' (k1 a b h' e fl ff))) (fun v p' h1 e vb hp r1 e19 u1 f1 => br1' ?_)
      rw [e19]
      refine mNotes (by omega) r1 (by omega) (by decide) (by omega) (fun h2 r2 c1 c2 f2 => kT h2 (k2 (.int (Int32.ofInt v)) p' h2 e hp r2 (codeAt_one ?_) ⟨?_, by omega⟩ ?_ (fun k hk => by rw [c2 k (by omega), u1]) (f1.trans f2)))
      · rw [c1, okI ⟨by omega, by omega⟩]; omega
      · show s + 1 + (nOps ws : Int) ≤ p'
        omega
      · show 0 ≤ (Int32.ofInt v).toInt ∧ (Int32.ofInt v).toInt ≤ 99999
        rw [okI ⟨by omega, by omega⟩]; omega
    · rw [if_neg hnd] at k1 k2
      refine mHere (by omega) r (mFactOf (by omega) ⟨fun y => ?_, fun y => ?_⟩)
      · have nb : -1 ≤ pName (nxt f n p) ∧ pName (nxt f n p) < 9 := by
          unfold pName
          split
          · exact nameAt_b
          · decide
        have hp : p < n := by
          apply Classical.byContradiction
          intro hn
          have e : nxt f n p = -1 := if_neg hn
          rw [e] at y
          exact y rfl
        rw [if_neg (by omega)] at k1 k2
        refine mNotes (by omega) r (by omega) (by decide) (by omega) (fun h1 r1 c1 c2 f1 => ?_)
        rw [r1.2.1.1]
        obtain ⟨r2, f2⟩ := r1.on hp
        refine ⟨ii (by omega), kT _ (k2 _ _ _ rfl (by omega) r2 (codeAt_one ?_) ⟨?_, by omega⟩ ?_ (fun k hk => by rw [rI_ne (by decide), c2 k (by omega)]) (f1.trans f2))⟩
        · rw [rI_ne (by decide), c1]
          show _ = 1048576 + (((pName (nxt f n p)).toNat : Nat) : Int)
          omega
        · show s + 1 + (nOps ws : Int) ≤ p + 1
          omega
        · show (pName (nxt f n p)).toNat < 9
          omega
      · exact (by rw [r.2.1.1]; exact mWrong (by omega) r (by decide) (fun h' fl ff => ⟨Or.inl rfl, kF h' (k1 1 p h' (if_pos (by omega)) fl ff)⟩))
  · rw [if_pos z] at k1 k2
    have hp := nxt_lt z (by decide)
    refine mOpens (by omega) r hp (by omega) (by decide) (by omega) (fun h1 o' eo r1 u1 f1 => br1' ?_) (fun h1 eo fl f1 => br0' (kF h1 (k1 5 p h1 (if_pos eo) fl f1)))
    have r1 : RdM f n (p + 1) s (14680064 :: ws) o' h1 := r1
    rw [if_neg (by omega)] at k1 k2
    refine rs o' eo (p + 1) s (14680064 :: ws) h1 r1 ⟨by rw [nOps_no (by decide)]; omega, by show ((ws.length + 1 : Nat) : Int) ≤ p + 1; omega⟩ (NoOp.cons (by decide)) (by show v1 ≤ ((ws.length + 1 : Nat) : Int); omega) ⟨fun a b h' e fl f' => k1 a b h' (by rw [e]) fl (f1.trans f'), fun A B E p' h2 e hp' q w hns u2 f2 => ?_⟩ d' K' hd kT kF
    have q1 : RdM f n p' (s + (ePn A ++ (ePn B ++ mE E)).length) ((wPn B ++ wPn A) ++ 14680064 :: ws) o' h2 := by rw [List.append_assoc]; exact q.1
    have tq := q.2.2.1.2
    have bq := q.1.2.2.2
    have hw : ((wPn B ++ wPn A) ++ 14680064 :: ws).length ≤ 160 := by rw [List.append_assoc]; omega
    rw [e] at k1 k2
    have a138 : nxt f n p' ≠ 93 → A_M_readsSum_138 D Q v1 h2 := fun z9 => s_M_readsSum_138 (mOpenT (by omega) q1 hw v0 hv (br1 (by rw [q.1.2.1.1]; exact mWrong (by omega) q.1 (by decide) (fun h' fl f' => ⟨Or.inl rfl, k1 1 p' h' (if_neg z9) fl ((f1.trans f2).trans f')⟩))))
    refine s_M_readsSum_14 (mHere (by omega) q.1 (mSign (by omega) (fun z9 => absurd z9 hns) (fun _ => ⟨fun _ => mHere (by omega) q.1 ⟨a138, fun z9 => mOpenT (by omega) q1 hw v0 hv (br1 (mClose1 (by omega) q b.2.1 (NoOp.cons (by decide)) (fun h3 q3 u3 f3 => ?_)))⟩, fun y => absurd rfl y⟩)))
    have r3 : RdM f n p' (s + (mE (ov A (ov B E))).length) (14680064 :: ws) o' h3 := q3.1
    have t3 : Tb p' (s + (mE (ov A (ov B E))).length) (14680064 :: ws) := q3.2.2.1
    have c3 : codeAt h3 65 s (mE (ov A (ov B E))) := q3.2.1
    have hq := nxt_lt z9 (by decide)
    rw [r3.2.1.2.2.2.1, r3.2.1.2.2.2.2, r3.2.1.1]
    have e17 : (((14680064 :: ws).length : Nat) : Int) - 1 = ws.length := by show ((ws.length + 1 : Nat) : Int) - 1 = _; omega
    rw [e17]
    have f4 : FRm h3 (wI (wI (wI h3 12 17 ws.length) 12 15 (6 - (o' : Int) - 1)) 12 12 (p' + 1)) := ((Fr.wI (Or.inr (by decide))).trans (Fr.wI (Or.inr (by decide)))).trans (Fr.wI (Or.inr (by decide)))
    obtain ⟨t3a, t3b⟩ := t3
    have t3b : ((ws.length + 1 : Nat) : Int) ≤ p' := t3b
    rw [nOps_no (by decide)] at t3a
    have r4 := r3.pop (o' := o) (p' := p' + 1) (s' := s + (mE (ov A (ov B E))).length) f4 (fun k _ _ => by rw [rI_ne (by decide), rI_ne (by decide), rI_ne (by decide)]) rI_eq (by rw [rI_nk (by decide), rI_nk (by decide), rI_nk (by decide)]; exact r3.2.1.2.2.1) (by rw [rI_nk (by decide), rI_nk (by decide)]; exact rI_eq) (by rw [rI_nk (by decide), rI_eq]; omega) ⟨by omega, by omega⟩ (by omega) b.2.2
    refine ⟨ii (by omega), ii (by omega), ii (by omega), k2 (ov A (ov B E)) (p' + 1) _ (if_pos z9) (by omega) r4 (codeAt_fr (L := []) (F := []) c3 (fun k => by rw [rI_ne (by decide), rI_ne (by decide), rI_ne (by decide)])) ⟨by omega, by omega⟩ (q.wf w) (fun k hk => ?_) (((f1.trans f2).trans f3).trans f4)⟩
    rw [rI_ne (by decide), rI_ne (by decide), rI_ne (by decide), u3 k hk, u2 k hk, u1]
def R1 (f : Int → Int) (n : Int) (fac : Int → Rs Jvm.Term) (i j : Nat) (A B : Pn) (E : Jvm.Term) (p : Int) : Rs Jvm.Term := match pMore f n [42, 47, 37] fac j (ov B E) p with
  | .inl e => .inl e
  | .inr q => pMore f n [43, 45] (pChain f n [42, 47, 37] fac) i (ov A q.1) q.2
def R0 (f : Int → Int) (n : Int) (fac : Int → Rs Jvm.Term) (i j : Nat) (A B : Pn) (p : Int) : Rs Jvm.Term := match fac p with
  | .inl e => .inl e
  | .inr q => R1 f n fac i j A B q.1 q.2
theorem R1_mul {fac : Int → Rs Jvm.Term} {i j : Nat} {A B : Pn} {E : Jvm.Term} (hm : nxt f n p ∈ [42, 47, 37]) : R1 f n fac i (j + 1) A B E p = R0 f n fac i j A (some (ov B E, nxt f n p)) (p + 1) := by
  unfold R1 R0
  have e : pMore f n [42, 47, 37] fac (j + 1) (ov B E) p = (match fac (p + 1) with
    | .inl e => .inl e
    | .inr q => pMore f n [42, 47, 37] fac j (opT (nxt f n p) (ov B E) q.1) q.2) := by
    show (if _ then _ else _) = _
    rw [if_pos hm]; rfl
  rw [e]
  cases fac (p + 1) <;> rfl
theorem R1_add {fac : Int → Rs Jvm.Term} {i j : Nat} {A B : Pn} {E : Jvm.Term} (hm : nxt f n p ∉ [42, 47, 37]) (ha : nxt f n p ∈ [43, 45]) : R1 f n fac (i + 1) (j + 1) A B E p = R0 f n fac i 161 (some (ov A (ov B E), nxt f n p)) none (p + 1) := by
  unfold R1 R0
  have e : pMore f n [42, 47, 37] fac (j + 1) (ov B E) p = .inr (ov B E, p) := by
    show (if _ then _ else _) = _
    rw [if_neg hm]
  rw [e]
  have e : pMore f n [43, 45] (pChain f n [42, 47, 37] fac) (i + 1) (ov A (ov B E)) p = (match pChain f n [42, 47, 37] fac (p + 1) with
    | .inl e => .inl e
    | .inr q => pMore f n [43, 45] (pChain f n [42, 47, 37] fac) i (opT (nxt f n p) (ov A (ov B E)) q.1) q.2) := by
    show (if _ then _ else _) = _
    rw [if_pos ha]; rfl
  show pMore f n [43, 45] (pChain f n [42, 47, 37] fac) (i + 1) (ov A (ov B E)) p = _
  rw [e]
  show (match (match fac (p + 1) with
    | .inl e => (.inl e : Rs Jvm.Term)
    | .inr q => pMore f n [42, 47, 37] fac 161 q.1 q.2) with
    | .inl e => (.inl e : Rs Jvm.Term)
    | .inr q => pMore f n [43, 45] (pChain f n [42, 47, 37] fac) i (opT (nxt f n p) (ov A (ov B E)) q.1) q.2) = _
  cases fac (p + 1) <;> rfl
theorem R1_end {fac : Int → Rs Jvm.Term} {i j : Nat} {A B : Pn} {E : Jvm.Term} (hm : nxt f n p ∉ [42, 47, 37]) (ha : nxt f n p ∉ [43, 45]) : R1 f n fac (i + 1) (j + 1) A B E p = .inr (ov A (ov B E), p) := by
  unfold R1
  have e : pMore f n [42, 47, 37] fac (j + 1) (ov B E) p = .inr (ov B E, p) := by
    show (if _ then _ else _) = _
    rw [if_neg hm]
  rw [e]
  show (if _ then _ else _) = _
  rw [if_neg ha]
theorem mPush {x : Int} (r : RdM f n p s ws o h) (tb : Tb p s ws) (hp : p < n) (x0 : 0 ≤ x ∧ x < 16777216) (hx : x < 11534336 → s + nOps ws + 1 ≤ p + 1) : RdM f n (p + 1) s (x :: ws) o (wI (wI (wI h 66 ws.length x) 12 17 (ws.length + 1)) 12 12 (p + 1)) ∧ Tb (p + 1) s (x :: ws) ∧ (∀ k, (wI (wI (wI h 66 ws.length x) 12 17 (ws.length + 1)) 12 12 (p + 1)).1 65 k = h.1 65 k) ∧ FRm h (wI (wI (wI h 66 ws.length x) 12 17 (ws.length + 1)) 12 12 (p + 1)) := by
  have b := r.2.2.2
  have ff : FRm h (wI (wI (wI h 66 ws.length x) 12 17 (ws.length + 1)) 12 12 (p + 1)) := ((Fr.wI (Or.inl (by decide))).trans (Fr.wI (Or.inr (by decide)))).trans (Fr.wI (Or.inr (by decide)))
  refine ⟨r.push x0 ff (fun k k0 k1 => by rw [rI_ne (by decide), rI_ne (by decide), rI_nk (by omega)]) (by rw [rI_ne (by decide), rI_ne (by decide)]; exact rI_eq) rI_eq (by rw [rI_nk (by decide), rI_nk (by decide), rI_ne (by decide)]; exact r.2.1.2.2.1) (by rw [rI_nk (by decide)]; exact rI_eq) (by rw [rI_nk (by decide), rI_nk (by decide), rI_ne (by decide)]; exact r.2.1.2.2.2.2) ⟨by omega, by omega⟩ b.2.1 b.2.2, ⟨?_, ?_⟩, fun k => by rw [rI_ne (by decide), rI_ne (by decide), rI_ne (by decide)], ff⟩
  · obtain ⟨t1, t2⟩ := tb
    by_cases z : x < 11534336
    · rw [nOps_op z]
      have := hx z
      omega
    · rw [nOps_no z]; omega
  · have := tb.2
    show ((ws.length + 1 : Nat) : Int) ≤ p + 1
    omega
theorem rLoopM {fac : Int → Rs Jvm.Term} (hD : 4 < D) (rf : ∀ (p s : Int) (ws : List Int) (h : AH), RdM f n p s ws o h → Tb p s ws → v1 ≤ ws.length → CtF f n p s ws o h D v1 Q (fac p) → GF D v1 Q h) (no : NoOp ws) (hv : v1 ≤ ws.length) (s00 : 0 ≤ s) : ∀ (m : Nat) (p : Int) (i j : Nat) (A B : Pn) (h : AH), n - p < m → SS f n p s A B [] ws o h → n < (i : Int) + p → n < (j : Int) + p → CtS f n p s ws o h D v1 Q (R0 f n fac i j A B p) → GF D v1 Q h := by
  intro m
  induction m with
  | zero =>
    intro p i j A B h hm q
    have := q.1.2.2.2.1
    omega
  | succ m ih =>
    intro p i j A B h hm q hi hj k
    obtain ⟨k1, k2⟩ := k
    obtain ⟨r, c, tb, oA, oB⟩ := q
    have lw : ∀ (A B : Pn), ws.length ≤ (wPn B ++ (wPn A ++ ws)).length := fun A B => by rw [List.length_append, List.length_append]; omega
    refine rf p _ _ h r tb (by have := lw A B; omega) ⟨fun a b h' e fl ff => k1 a b h' (by unfold R0; rw [e]) fl ff, fun E p' h1 e hp r1 c1 tb1 w u1 f1 => ?_⟩
    have el : ePn A ++ (ePn B ++ mE E) = (ePn A ++ (ePn B ++ [])) ++ mE E := by simp only [List.append_assoc, List.append_nil, List.nil_append]
    have ln : s + (((ePn A ++ (ePn B ++ mE E)).length : Nat) : Int) = s + ((ePn A ++ (ePn B ++ [])).length : Int) + ((mE E).length : Int) := by rw [el, List.length_append]; omega
    have q1 : SS f n p' s A B (mE E) ws o h1 := by
      refine ⟨?_, ?_, ?_, oA, oB⟩
      · rw [ln]; exact r1
      · rw [el]; exact codeAt_join (codeAt_lt c (Int.le_refl _) (fun k _ hk => u1 k hk)) c1
      · rw [ln]; exact tb1
    have u1 : ∀ k, k < s → h1.1 65 k = h.1 65 k := fun k hk => u1 k (by omega)
    have e0 : R0 f n fac i j A B p = R1 f n fac i j A B E p' := by unfold R0; rw [e]
    rw [e0] at k1 k2
    have bp := r1.2.2.2.1
    obtain ⟨i, rfl⟩ : ∃ i', i = i' + 1 := ⟨i - 1, by omega⟩
    obtain ⟨j, rfl⟩ : ∃ j', j = j' + 1 := ⟨j - 1, by omega⟩
    have next : ∀ (A3 B3 : Pn) (P : Jvm.Term) (A2 : Pn) (h2 : AH) (i3 j3 : Nat), nxt f n p' ∈ [43, 45, 42, 47, 37] → SS f n p' s A2 none (mE P) ws o h2 → ePn A3 ++ (ePn B3 ++ []) = ePn A2 ++ mE P → wPn B3 ++ (wPn A3 ++ ws) = 1048576 * sgO (nxt f n p') :: (wPn A2 ++ ws) → OkP [43, 45] A3 → OkP [42, 47, 37] B3 → n < (i3 : Int) + (p' + 1) → n < (j3 : Int) + (p' + 1) → R1 f n fac (i + 1) (j + 1) A B E p' = R0 f n fac i3 j3 A3 B3 (p' + 1) → (∀ k, k < s → h2.1 65 k = h.1 65 k) → FRm h h2 → inI (1048576 * sgO (nxt f n p')) ∧ (inb (h2.1 12 17) 180 ∧ (inI ((h2.1 12 17) + 1) ∧ (inI ((h2.1 12 12) + 1) ∧ (Call D M_M_readsFactor [vR 12 (-1)] (wI (wI (wI h2 66 (h2.1 12 17) (1048576 * sgO (nxt f n p'))) 12 17 ((h2.1 12 17) + 1)) 12 12 ((h2.1 12 12) + 1)) (fun r19 h18 => ((r19 ≠ 0 → A_M_readsSum_14 D Q v1 h18) ∧ (r19 = 0 → Q 0 h18))))))) := by
      intro A3 B3 P A2 h2 i3 j3 hsg q2 e3 e4 oA3 oB3 hi3 hj3 er u2 f2
      have sb := sg_b (x := nxt f n p')
      obtain ⟨r2, c2, t2, _, _⟩ := q2
      have hpn : p' < n := nxt_lt (f := f) (n := n) (p := p') rfl (by
        simp only [List.mem_cons, List.not_mem_nil, or_false] at hsg
        omega)
      have e5 : ePn A2 ++ (ePn none ++ mE P) = ePn A3 ++ (ePn B3 ++ []) := e3.symm
      have r2' : RdM f n p' (s + (ePn A3 ++ (ePn B3 ++ [])).length) (wPn A2 ++ ws) o h2 := by rw [← e5]; exact r2
      have t2' : Tb p' (s + (ePn A3 ++ (ePn B3 ++ [])).length) (wPn A2 ++ ws) := by rw [← e5]; exact t2
      have c2' : codeAt h2 65 s (ePn A3 ++ (ePn B3 ++ [])) := by rw [← e5]; exact c2
      obtain ⟨r3, t3, u3, f3⟩ := mPush (x := 1048576 * sgO (nxt f n p')) r2' t2' hpn (by omega) (fun _ => by have := t2'.1; omega)
      have tl := t2'.2
      rw [r2'.2.1.2.2.2.1, r2'.2.1.1]
      refine ⟨ii (by omega), ib (by omega), ii (by omega), ii (by omega), c_M_readsFactor 4 hD (ih (p' + 1) i3 j3 A3 B3 _ (by omega) ⟨by rw [e4]; exact r3, codeAt_fr (L := []) (F := []) c2' u3, by rw [e4]; exact t3, oA3, oB3⟩ hi3 hj3 ⟨fun a b h' e' fl f' => k1 a b h' (er.trans e') fl ((f2.trans f3).trans f'), fun A' B' E' p2 h' e' hp' q' w' hn' u' f' => k2 A' B' E' p2 h' (er.trans e') (by omega) q' w' hn' (fun k hk => by rw [u' k hk, u3, u2 k hk]) ((f2.trans f3).trans f')⟩ 4 _ (by decide) (fun h' a => br1' a) (fun h' a => br0' a))⟩
    by_cases hm : nxt f n p' ∈ [42, 47, 37]
    · have hs : nxt f n p' ∈ [43, 45, 42, 47, 37] := by
        revert hm
        simp only [List.mem_cons, List.not_mem_nil, or_false]
        omega
      have s4 := sg_mul hm
      refine s_M_readsSum_14 (mHere (by omega) q1.1 (mSign (by omega) (fun _ => ⟨fun y => by omega, fun _ => ?_⟩) (fun y => absurd hs y)))
      rw [if_pos s4]
      refine mClose0 (by omega) q1 s00 no (fun h2 q2 u2 f2 => next A (some (ov B E, nxt f n p')) (ov B E) A h2 (i + 1) j hs q2 ?_ rfl oA ?_ (by omega) (by omega) (R1_mul hm) (fun k hk => by rw [u2 k hk, u1 k hk]) (f1.trans f2))
      · show ePn A ++ (mE (ov B E) ++ []) = _
        rw [List.append_nil]
      · intro x hx
        cases hx
        exact ⟨ov_wf (by decide) oB w, hm⟩
    · by_cases ha : nxt f n p' ∈ [43, 45]
      · have hs : nxt f n p' ∈ [43, 45, 42, 47, 37] := by
          revert ha
          simp only [List.mem_cons, List.not_mem_nil, or_false]
          omega
        have s4 := sg_add ha
        have sb := sg_b (x := nxt f n p')
        refine s_M_readsSum_14 (mHere (by omega) q1.1 (mSign (by omega) (fun _ => ⟨fun y => by omega, fun _ => ?_⟩) (fun y => absurd hs y)))
        rw [if_neg (by omega)]
        refine mClose1 (by omega) q1 s00 no (fun h2 q2 u2 f2 => next (some (ov A (ov B E), nxt f n p')) none (ov A (ov B E)) none h2 i 161 hs q2 ?_ rfl ?_ (fun x hx => by cases hx) (by omega) (by omega) (R1_add hm ha) (fun k hk => by rw [u2 k hk, u1 k hk]) (f1.trans f2))
        · show mE (ov A (ov B E)) ++ ([] ++ []) = [] ++ mE (ov A (ov B E))
          rw [List.append_nil, List.append_nil, List.nil_append]
        · intro x hx
          cases hx
          exact ⟨q1.wf w, ha⟩
      · refine k2 A B E p' h1 (R1_end hm ha) hp q1 w ?_ u1 f1
        revert hm ha
        simp only [List.mem_cons, List.not_mem_nil, or_false]
        omega
theorem pSumW_R0 {fac : Int → Rs Jvm.Term} : pSumW f n fac p = R0 f n fac 161 161 none none p := by
  unfold R0 R1
  show (match (match fac p with
    | .inl e => (.inl e : Rs Jvm.Term)
    | .inr q => pMore f n [42, 47, 37] fac 161 q.1 q.2) with
    | .inl e => (.inl e : Rs Jvm.Term)
    | .inr q => pMore f n [43, 45] (pChain f n [42, 47, 37] fac) 161 q.1 q.2) = _
  cases fac p <;> rfl
theorem rSumS {sum : Int → Rs Jvm.Term} (hD : 4 < D) (v0 : 0 ≤ v1) (rs : ∀ o', o = o' + 1 → ∀ (p s : Int) (ws : List Int) (h : AH), RdM f n p s ws o' h → Tb p s ws → NoOp ws → v1 ≤ ws.length → CtS f n p s ws o' h D v1 Q (sum p) → GF D v1 Q h) (r : RdM f n p s ws o h) (tb : Tb p s ws) (no : NoOp ws) (hv : v1 ≤ ws.length) (k : CtS f n p s ws o h D v1 Q (pSumW f n (pFac f n o sum) p)) : GF D v1 Q h := by
  have b := r.2.2.2
  rw [pSumW_R0] at k
  have e0 : s + ((([] : List Int).length : Nat) : Int) = s := by show s + ((0 : Nat) : Int) = s; omega
  refine rLoopM (fac := pFac f n o sum) hD (fun p s ws h r tb hv k => rFacM hD r tb v0 hv rs k) no hv b.2.1 (n - p + 1).toNat p 161 161 none none h (by omega) ⟨?_, fun i v hv => (by cases hv), ?_, fun x hx => (by cases hx), fun x hx => (by cases hx)⟩ (by omega) (by omega) k
  · show RdM f n p (s + ((([] : List Int).length : Nat) : Int)) ws o h
    rw [e0]; exact r
  · show Tb p (s + ((([] : List Int).length : Nat) : Int)) ws
    rw [e0]; exact tb
theorem rSumM (hD : 4 < D) (v0 : 0 ≤ v1) : ∀ (o : Nat) (p s : Int) (ws : List Int) (h : AH), RdM f n p s ws o h → Tb p s ws → NoOp ws → v1 ≤ ws.length → CtS f n p s ws o h D v1 Q (pSum f n o p) → GF D v1 Q h := by
  intro o
  induction o with
  | zero =>
    intro p s ws h r tb no hv k
    exact rSumS (o := 0) hD v0 (fun o' e => by omega) r tb no hv k
  | succ o ih =>
    intro p s ws h r tb no hv k
    exact rSumS (o := o + 1) (sum := pSum f n o) hD v0 (fun o' e => by
      have e : o = o' := by omega
      rw [← e]
      exact ih) r tb no hv k
/-- what a sum comes to -/
def CsM (f : Int → Int) (n p s : Int) (ws : List Int) (o : Nat) (h : AH) (K : Int → AH → Prop) (R : Rs Jvm.Term) : Prop := (∀ a b h', R = .inl (a, b) → FltM n a b h' → FRm h h' → K 0 h') ∧ (∀ E p' h', R = .inr (E, p') → p < p' → RdM f n p' (s + (mE E).length) ws o h' → codeAt h' 65 s (mE E) → Tb p' (s + (mE E).length) ws → WfE E → (∀ k, k < s → h'.1 65 k = h.1 65 k) → FRm h h' → K 1 h')
theorem mRdSum (hd : 5 < d) (r : RdM f n p s ws o h) (tb : Tb p s ws) (no : NoOp ws) (k : CsM f n p s ws o h K (pSum f n o p)) : Call d M_M_readsSum [vR 12 (-1)] h K := by
  obtain ⟨k1, k2⟩ := k
  have b := r.2.2.2
  refine c_M_readsSum 5 hd ?_
  rw [r.2.1.2.2.2.1]
  refine c_M_readsFactor 4 (by decide) (rSumM (D := 5) (v1 := ws.length) (Q := K) (by decide) (by omega) o p s ws h r tb no (Int.le_refl _) ⟨k1, fun A B E p' h1 e hp q w hns u1 f1 => ?_⟩ 4 _ (by decide) (fun h' a => br1' a) (fun h' a => br0' a))
  have q1 : RdM f n p' (s + (ePn A ++ (ePn B ++ mE E)).length) ((wPn B ++ wPn A) ++ ws) o h1 := by rw [List.append_assoc]; exact q.1
  have tq := q.2.2.1.2
  have bq := q.1.2.2.2
  have hw : ((wPn B ++ wPn A) ++ ws).length ≤ 160 := by rw [List.append_assoc]; omega
  have hn : ∀ x ∈ wPn B ++ wPn A, x / 1048576 ≠ 14 := fun x hx => by
    have := wAB hx
    omega
  have a138 : A_M_readsSum_138 5 K ws.length h1 := s_M_readsSum_138 (mOpenF (by decide) q1 hw hn (br0 (mClose1 (by decide) q b.2.1 no (fun h3 q3 u3 f3 => k2 _ p' h3 e hp q3.1 q3.2.1 q3.2.2.1 (q.wf w) (fun k hk => by rw [u3 k hk, u1 k hk]) (f1.trans f3)))))
  exact s_M_readsSum_14 (mHere (by decide) q.1 (mSign (by decide) (fun z9 => absurd z9 hns) (fun _ => ⟨fun _ => mHere (by decide) q.1 ⟨fun _ => a138, fun z9 => mOpenF (by decide) q1 hw hn (br0 a138)⟩, fun y => absurd rfl y⟩)))
end RM3

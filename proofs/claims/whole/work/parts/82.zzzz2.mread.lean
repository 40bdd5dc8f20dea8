/-! the reference reads a law: sums, on -/
def sgO (x : Int) : Int := if x = 43 then 2 else if x = 45 then 3 else if x = 42 then 4 else if x = 47 then 5 else 6
theorem mE_opT {x : Int} {a b : Jvm.Term} (hx : x ∈ [43, 45, 42, 47, 37]) : mE (opT x a b) = mE a ++ (mE b ++ [1048576 * sgO x]) ∧ (WfE (opT x a b) ↔ WfE a ∧ WfE b) := by
  simp only [List.mem_cons, List.not_mem_nil, or_false] at hx
  unfold opT
  rcases hx with rfl | rfl | rfl | rfl | rfl
  · exact ⟨rfl, Iff.rfl⟩
  · exact ⟨rfl, Iff.rfl⟩
  · exact ⟨rfl, Iff.rfl⟩
  · exact ⟨rfl, Iff.rfl⟩
  · exact ⟨rfl, Iff.rfl⟩
theorem codeAt_join {h : AH} {o : Nat} {off : Int} {l l' : List Int} (q : codeAt h o off l) (q' : codeAt h o (off + l.length) l') : codeAt h o off (l ++ l') := fun i v hv => by
  by_cases hi : i < l.length
  · rw [List.getElem?_append_left hi] at hv
    exact q i v hv
  · rw [List.getElem?_append_right (by omega)] at hv
    have := q' (i - l.length) v hv
    rw [show off + (l.length : Int) + ((i - l.length : Nat) : Int) = off + i by omega] at this
    exact this
theorem codeAt_one {h : AH} {o : Nat} {off v : Int} (q : h.1 o off = v) : codeAt h o off [v] := fun i w hw => by
  match i, hw with
  | 0, hw =>
    cases hw
    rw [show off + ((0 : Nat) : Int) = off by omega]
    exact q
theorem codeAt_lt {h h' : AH} {o : Nat} {off e : Int} {l : List Int} (q : codeAt h o off l) (hl : off + (l.length : Int) ≤ e) (u : ∀ k, off ≤ k → k < e → h'.1 o k = h.1 o k) : codeAt h' o off l := fun i v hv => by
  have hi := (List.getElem?_eq_some_iff.mp hv).1
  rw [u _ (by omega) (by omega)]
  exact q i v hv
abbrev Pn : Type := Option (Jvm.Term × Int)
def ov : Pn → Jvm.Term → Jvm.Term
  | some x, E => opT x.2 x.1 E
  | none, E => E
def wPn : Pn → List Int
  | some x => [1048576 * sgO x.2]
  | none => []
def ePn : Pn → List Int
  | some x => mE x.1
  | none => []
def OkP (S : List Int) (A : Pn) : Prop := ∀ x, A = some x → WfE x.1 ∧ x.2 ∈ S
def SS (f : Int → Int) (n p s0 : Int) (A B : Pn) (l : List Int) (ws : List Int) (o : Nat) (h : AH) : Prop := RdM f n p (s0 + (ePn A ++ (ePn B ++ l)).length) (wPn B ++ (wPn A ++ ws)) o h ∧ codeAt h 65 s0 (ePn A ++ (ePn B ++ l)) ∧ Tb p (s0 + (ePn A ++ (ePn B ++ l)).length) (wPn B ++ (wPn A ++ ws)) ∧ OkP [43, 45] A ∧ OkP [42, 47, 37] B
def NoOp (ws : List Int) : Prop := ∀ x w', ws = x :: w' → ¬ (2 ≤ x / 1048576 ∧ x / 1048576 ≤ 6)
section RM2
variable {d : Nat} {f : Int → Int} {n p s : Int} {ws : List Int} {o : Nat} {h : AH} {K : Int → AH → Prop}
theorem cPop {t p1 : Int} (hd : 1 < d) (r : RdM f n p s (1048576 * t :: ws) o h) (t0 : 2 ≤ t ∧ t ≤ 6) (hp : p1 ≠ 0 ∨ 4 ≤ t) (hs : s < 180) (hw : ws.length < 160) (k : ∀ h', RdM f n p (s + 1) ws o h' → h'.1 65 s = 1048576 * t → (∀ k, k ≠ s → h'.1 65 k = h.1 65 k) → FRm h h' → A_M_closesSums_0 d K p1 h') : A_M_closesSums_0 d K p1 h := by
  have bd := r.2.2.2
  have lw : (1048576 * t :: ws).length ≤ 160 := hw
  have tq : ∀ {C : Int → Prop} {D : Nat} {K : Int → AH → Prop}, 0 < D → K t h → Call D M_M_top [vR 12 (-1)] h K := fun hD k => mTop hD r lw (fun e => by cases e) (fun x w' e => by
    cases e
    rw [show 1048576 * t / 1048576 = t by omega]
    exact k)
  have go : A_M_closesSums_37 d K p1 h := by
    refine s_M_closesSums_37 (tq (C := fun _ => True) (by omega) (mNotes (by omega) r hs (by omega) (by decide) (fun h1 r1 c1 c2 f1 => ?_)))
    have e17 : h1.1 12 17 - 1 = ws.length := by rw [r1.2.1.2.2.2.1]; show ((ws.length + 1 : Nat) : Int) - 1 = _; omega
    rw [e17]
    have f2 : FRm h1 (wI h1 12 17 ws.length) := Fr.wI (Or.inr (by decide))
    refine ⟨ii (by omega), k _ (r1.pop f2 (fun k _ _ => rI_ne (by decide)) ?_ ?_ rI_eq ?_ ⟨bd.1.1, bd.1.2.1⟩ (by omega) bd.2.2) ?_ (fun k hk => ?_) (f1.trans f2)⟩
    · rw [rI_nk (by decide)]; exact r1.2.1.1
    · rw [rI_nk (by decide)]; exact r1.2.1.2.2.1
    · rw [rI_nk (by decide)]; exact r1.2.1.2.2.2.2
    · rw [rI_ne (by decide), c1]; omega
    · rw [rI_ne (by decide)]; exact c2 k hk
  refine s_M_closesSums_0 (tq (C := fun _ => True) (by omega) ⟨fun z => s_M_closesSums_17 ⟨fun z2 => absurd hp (by omega), fun _ => tq (C := fun _ => True) (by omega) ⟨fun _ => go, fun z3 => tq (C := fun _ => True) (by omega) ⟨fun z4 => by omega, fun _ => go⟩⟩⟩, fun z => tq (C := fun _ => True) (by omega) ⟨fun _ => go, fun z2 => by omega⟩⟩)
theorem cStop {p1 : Int} (hd : 1 < d) (r : RdM f n p s ws o h) (hw : ws.length ≤ 160) (hn : ∀ x w', ws = x :: w' → ¬ (4 ≤ x / 1048576 ∧ x / 1048576 ≤ 6) ∧ (p1 ≠ 0 → x / 1048576 ≠ 2 ∧ x / 1048576 ≠ 3)) (k : K 0 h) : A_M_closesSums_0 d K p1 h := by
  have g17 : A_M_closesSums_17 d K p1 h := s_M_closesSums_17 ⟨fun _ => k, fun z => mTop (by omega) r hw (fun e => ⟨fun z => absurd z (by decide), fun _ => mTop (by omega) r hw (fun e => ⟨fun _ => k, fun z => absurd z (by decide)⟩) (fun x w' e2 => by rw [e] at e2; cases e2)⟩) (fun x w' e => ⟨fun z2 => absurd z2 ((hn x w' e).2 z).1, fun _ => mTop (by omega) r hw (fun e2 => by rw [e] at e2; cases e2) (fun x2 w2 e2 => ⟨fun _ => k, fun z2 => absurd z2 ((hn x2 w2 e2).2 z).2⟩)⟩)⟩
  refine s_M_closesSums_0 (mTop (by omega) r hw (fun e => ⟨fun _ => g17, fun z => absurd z (by decide)⟩) (fun x w' e => ⟨fun _ => g17, fun z => mTop (by omega) r hw (fun e2 => by rw [e] at e2; cases e2) (fun x2 w2 e2 => ⟨fun z2 => ?_, fun _ => g17⟩)⟩))
  rw [e] at e2
  cases e2
  exact absurd ⟨z, z2⟩ (hn x w' e).1
theorem sg_b {x : Int} : 2 ≤ sgO x ∧ sgO x ≤ 6 := by
  unfold sgO
  repeat (split; omega)
  omega
theorem sg_mul {x : Int} (h : x ∈ [42, 47, 37]) : 4 ≤ sgO x := by
  simp only [List.mem_cons, List.not_mem_nil, or_false] at h
  rcases h with rfl | rfl | rfl <;> decide
theorem sg_add {x : Int} (h : x ∈ [43, 45]) : sgO x < 4 := by
  simp only [List.mem_cons, List.not_mem_nil, or_false] at h
  rcases h with rfl | rfl <;> decide
theorem nOps_le : ∀ {ws : List Int}, nOps ws ≤ ws.length
  | [] => Nat.le_refl 0
  | x :: ws => by
    have := nOps_le (ws := ws)
    show nOps ws + (if x < 11534336 then 1 else 0) ≤ ws.length + 1
    split <;> omega
theorem nOps_op {x : Int} {ws : List Int} (hx : x < 11534336) : nOps (x :: ws) = nOps ws + 1 := by
  show nOps ws + (if x < 11534336 then 1 else 0) = _
  rw [if_pos hx]
theorem nOps_no {x : Int} {ws : List Int} (hx : ¬ x < 11534336) : nOps (x :: ws) = nOps ws := by
  show nOps ws + (if x < 11534336 then 1 else 0) = _
  rw [if_neg hx]; rfl
/-- one that waits becomes an order; l: what stands before it -/
theorem closeOne {p1 x s0 : Int} {l1 : List Int} (hd : 1 < d) (r : RdM f n p (s0 + (l1.length : Int)) (1048576 * sgO x :: ws) o h) (c : codeAt h 65 s0 l1) (tb : Tb p (s0 + (l1.length : Int)) (1048576 * sgO x :: ws)) (hp : p1 ≠ 0 ∨ 4 ≤ sgO x) (s00 : 0 ≤ s0) (k : ∀ h', RdM f n p (s0 + ((l1 ++ [1048576 * sgO x]).length : Int)) ws o h' → codeAt h' 65 s0 (l1 ++ [1048576 * sgO x]) → Tb p (s0 + ((l1 ++ [1048576 * sgO x]).length : Int)) ws → (∀ k, k < s0 → h'.1 65 k = h.1 65 k) → FRm h h' → A_M_closesSums_0 d K p1 h') : A_M_closesSums_0 d K p1 h := by
  have bd := r.2.2.2
  have sb := sg_b (x := x)
  obtain ⟨t1, t2⟩ := tb
  rw [nOps_op (by omega)] at t1
  have t2 : ((ws.length + 1 : Nat) : Int) ≤ p := t2
  refine cPop hd r sb hp (by omega) (by omega) (fun h' r' c1 c2 ff => k h' ?_ (codeAt_join (codeAt_lt c (Int.le_refl _) (fun k a b => c2 k (by omega))) (codeAt_one c1)) ⟨?_, by omega⟩ (fun k hk => c2 k (by omega)) ff)
  · rw [List.length_append, show s0 + ((l1.length + [1048576 * sgO x].length : Nat) : Int) = s0 + (l1.length : Int) + 1 by show s0 + ((l1.length + 1 : Nat) : Int) = _; omega]
    exact r'
  · rw [List.length_append]
    show s0 + ((l1.length + 1 : Nat) : Int) + nOps ws ≤ p
    omega
theorem closeB {p1 s0 : Int} {A B : Pn} {E : Jvm.Term} (hd : 1 < d) (q : SS f n p s0 A B (mE E) ws o h) (s00 : 0 ≤ s0) (k : ∀ h', SS f n p s0 A none (mE (ov B E)) ws o h' → (∀ k, k < s0 → h'.1 65 k = h.1 65 k) → FRm h h' → A_M_closesSums_0 d K p1 h') : A_M_closesSums_0 d K p1 h := by
  obtain ⟨r, c, tb, oA, oB⟩ := q
  cases B with
  | none => exact k h ⟨r, c, tb, oA, oB⟩ (fun _ _ => rfl) Fr.refl
  | some y =>
    have hy := (oB y rfl).2
    have ee := (mE_opT (x := y.2) (a := y.1) (b := E) (by revert hy; simp only [List.mem_cons, List.not_mem_nil, or_false]; omega)).1
    have el : ePn A ++ (ePn none ++ mE (ov (some y) E)) = (ePn A ++ (ePn (some y) ++ mE E)) ++ [1048576 * sgO y.2] := by
      show ePn A ++ mE (opT y.2 y.1 E) = (ePn A ++ (mE y.1 ++ mE E)) ++ [1048576 * sgO y.2]
      rw [ee]
      simp only [List.append_assoc]
    refine closeOne hd r c tb (Or.inr (sg_mul hy)) s00 (fun h' r' c' tb' u ff => k h' ⟨?_, ?_, ?_, oA, fun _ z => by cases z⟩ u ff)
    · rw [el]; exact r'
    · rw [el]; exact c'
    · rw [el]; exact tb'
theorem closeA {s0 : Int} {A : Pn} {E : Jvm.Term} (hd : 1 < d) (q : SS f n p s0 A none (mE E) ws o h) (s00 : 0 ≤ s0) (k : ∀ h', SS f n p s0 none none (mE (ov A E)) ws o h' → (∀ k, k < s0 → h'.1 65 k = h.1 65 k) → FRm h h' → A_M_closesSums_0 d K 1 h') : A_M_closesSums_0 d K 1 h := by
  obtain ⟨r, c, tb, oA, oB⟩ := q
  cases A with
  | none => exact k h ⟨r, c, tb, oA, oB⟩ (fun _ _ => rfl) Fr.refl
  | some y =>
    have hy := (oA y rfl).2
    have ee := (mE_opT (x := y.2) (a := y.1) (b := E) (by revert hy; simp only [List.mem_cons, List.not_mem_nil, or_false]; omega)).1
    have el : ePn none ++ (ePn none ++ mE (ov (some y) E)) = (ePn (some y) ++ (ePn none ++ mE E)) ++ [1048576 * sgO y.2] := by
      show mE (opT y.2 y.1 E) = (mE y.1 ++ mE E) ++ [1048576 * sgO y.2]
      rw [ee]
      simp only [List.append_assoc]
    refine closeOne hd r c tb (Or.inl (by decide)) s00 (fun h' r' c' tb' u ff => k h' ⟨?_, ?_, ?_, fun _ z => (by cases z), oB⟩ u ff)
    · rw [el]; exact r'
    · rw [el]; exact c'
    · rw [el]; exact tb'
theorem mClose0 {s0 : Int} {A B : Pn} {E : Jvm.Term} (hd : 2 < d) (q : SS f n p s0 A B (mE E) ws o h) (s00 : 0 ≤ s0) (no : NoOp ws) (k : ∀ h', SS f n p s0 A none (mE (ov B E)) ws o h' → (∀ k, k < s0 → h'.1 65 k = h.1 65 k) → FRm h h' → K 0 h') : Call d M_M_closesSums [vR 12 (-1), vI 0] h K := by
  refine c_M_closesSums 2 hd (closeB (by decide) q s00 (fun h' q' u ff => cStop (by decide) q'.1 ?_ (fun x w' e => ⟨?_, fun z => absurd rfl z⟩) (k h' q' u ff)))
  · have t := q'.2.2.1.2
    have := q'.1.2.2.2.1
    omega
  · cases A with
    | none => exact fun y => no x w' e ⟨by omega, y.2⟩
    | some a =>
      have e : 1048576 * sgO a.2 :: ws = x :: w' := e
      cases e
      have := sg_add ((q'.2.2.2.1 a rfl).2)
      omega
theorem mClose1 {s0 : Int} {A B : Pn} {E : Jvm.Term} (hd : 2 < d) (q : SS f n p s0 A B (mE E) ws o h) (s00 : 0 ≤ s0) (no : NoOp ws) (k : ∀ h', SS f n p s0 none none (mE (ov A (ov B E))) ws o h' → (∀ k, k < s0 → h'.1 65 k = h.1 65 k) → FRm h h' → K 0 h') : Call d M_M_closesSums [vR 12 (-1), vI 1] h K := by
  refine c_M_closesSums 2 hd (closeB (by decide) q s00 (fun h1 q1 u1 f1 => closeA (by decide) q1 s00 (fun h' q' u ff => cStop (by decide) q'.1 ?_ (fun x w' e => ⟨fun y => no x w' e ⟨by omega, y.2⟩, fun _ => ⟨fun y => no x w' e ⟨by omega, by omega⟩, fun y => no x w' e ⟨by omega, by omega⟩⟩⟩) (k h' q' (fun k hk => (u k hk).trans (u1 k hk)) (f1.trans ff)))))
  have t := q'.2.2.1.2
  have := q'.1.2.2.2.1
  omega
theorem mOpenT {v1 : Int} {l r0 : List Int} (hd : 0 < d) (r : RdM f n p s (l ++ 14680064 :: r0) o h) (hw : (l ++ 14680064 :: r0).length ≤ 160) (v0 : 0 ≤ v1) (hv : v1 ≤ r0.length) (k : K 1 h) : Call d M_M_hasOpenSum [vR 12 (-1), vI v1] h K := by
  have hl : (l ++ 14680064 :: r0).length = l.length + (r0.length + 1) := List.length_append
  have e17 := r.2.1.2.2.2.1
  refine c_M_hasOpenSum 0 hd ?_
  have key : ∀ (m : Nat) (v : Int), (m : Int) = r0.length - v → 0 ≤ v → A_M_hasOpenSum_2 0 K v h := by
    intro m
    induction m with
    | zero =>
      intro v e v0
      refine s_M_hasOpenSum_2 ⟨fun z => by omega, fun _ => ?_⟩
      rw [show v = (r0.length : Int) by omega, r.2.2.1.get]
      exact ⟨ib (by omega), ii (by decide), fun z => absurd rfl z, fun _ => k⟩
    | succ m ih =>
      intro v e v0
      have g := r.2.2.1.rng v v0 (by omega)
      refine s_M_hasOpenSum_2 ⟨fun z => by omega, fun _ => ⟨ib (by omega), ?_, fun _ => ⟨ii (by omega), ih (v + 1) (by omega) (by omega)⟩, fun _ => k⟩⟩
      rw [td14 (k := 0) g.1]
      exact ii (by omega)
  exact key (r0.length - v1).toNat v1 (by omega) v0
theorem mOpenF {l r0 : List Int} (hd : 0 < d) (r : RdM f n p s (l ++ r0) o h) (hw : (l ++ r0).length ≤ 160) (hn : ∀ x ∈ l, x / 1048576 ≠ 14) (k : K 0 h) : Call d M_M_hasOpenSum [vR 12 (-1), vI (r0.length : Int)] h K := by
  have e17 := r.2.1.2.2.2.1
  have hl : (l ++ r0).length = l.length + r0.length := List.length_append
  refine c_M_hasOpenSum 0 hd ?_
  have key : ∀ (m : Nat) (v : Int), (m : Int) = (l ++ r0).length - v → (r0.length : Int) ≤ v → A_M_hasOpenSum_2 0 K v h := by
    intro m
    induction m with
    | zero =>
      intro v e v0
      exact s_M_hasOpenSum_2 ⟨fun z => k, fun _ => by omega⟩
    | succ m ih =>
      intro v e v0
      have g := r.2.2.1.rng v (by omega) (by omega)
      have g2 := hn _ (r.2.2.1.mem v v0 (by omega))
      refine s_M_hasOpenSum_2 ⟨fun z => by omega, fun _ => ⟨ib (by omega), ?_, fun _ => ⟨ii (by omega), ih (v + 1) (by omega) (by omega)⟩, fun z => ?_⟩⟩
      · rw [td14 (k := 0) g.1]
        exact ii (by omega)
      · rw [td14 (k := 0) g.1] at z
        exact absurd z g2
  exact key l.length r0.length (by omega) (Int.le_refl _)
theorem mSign (hd : 0 < d) {x : Int} (kT : x ∈ [43, 45, 42, 47, 37] → K (sgO x) h) (kF : x ∉ [43, 45, 42, 47, 37] → K (-1) h) : Call d M_M_sumSign [vI x] h K := by
  simp only [List.mem_cons, List.not_mem_nil, or_false] at kT kF
  refine c_M_sumSign 0 hd ⟨fun z1 => ⟨fun z2 => ⟨fun z3 => ⟨fun z4 => ⟨fun z5 => kF (by omega), fun z => ?_⟩, fun z => ?_⟩, fun z => ?_⟩, fun z => ?_⟩, fun z => ?_⟩
  · have := kT (by omega); rw [z] at this; exact this
  · have := kT (by omega); rw [z] at this; exact this
  · have := kT (by omega); rw [z] at this; exact this
  · have := kT (by omega); rw [z] at this; exact this
  · have := kT (by omega); rw [z] at this; exact this
theorem mNumber (hd : 2 < d) (r : RdM f n p s ws o h) (h0 : 48 ≤ nxt f n p ∧ nxt f n p ≤ 57) (kF : ∀ a b h', pNum f n p = .inl (a, b) → FltM n a b h' → FRm h h' → K 0 h') (kT : ∀ v p' h', pNum f n p = .inr (.int (Int32.ofInt v), p') → 0 ≤ v ∧ v ≤ 99999 → p < p' → RdM f n p' s ws o h' → h'.1 12 19 = v → (∀ k, h'.1 65 k = h.1 65 k) → FRm h h' → K 1 h') : Call d M_M_readsNumber [vR 12 (-1)] h K := by
  have b := r.2.2.2.1
  refine c_M_readsNumber 2 hd ?_
  rw [r.2.1.1]
  unfold pNum at kF kT
  have key : ∀ (j : Nat) (q a : Int) (hh : AH), j ≤ 5 → q = p + (5 - (j : Int)) → 0 ≤ a → a < 10 ^ (5 - j) → RdM f n q s ws o hh → hh.1 12 19 = a → (∀ k, hh.1 65 k = h.1 65 k) → FRm h hh → rdN f n 5 p 0 = rdN f n j q a → A_M_readsNumber_10 2 K p hh := by
    intro j
    induction j with
    | zero =>
      intro q a hh _ eq a0 a1 rr ea e65 ff hr
      have hr : rdN f n 5 p 0 = (a, q) := hr
      have a1 : a < 100000 := a1
      rw [hr] at kF kT
      refine s_M_readsNumber_10 (mIsDigit (by decide) rr (fun z => br1 ⟨ii (by omega), fun y => ?_, fun _ => ?_⟩) (fun z => br0 (kT a q hh (if_neg z) ⟨a0, by omega⟩ (by omega) rr ea e65 ff)))
      · rw [rr.2.1.1] at y
        exact absurd eq (by omega)
      · rw [rr.2.1.1]
        exact mWrong (by decide) rr (by decide) (fun h' fl f' => ⟨Or.inl rfl, kF 2 q h' (if_pos z) fl (ff.trans f')⟩)
    | succ j ih =>
      intro q a hh hj eq a0 a1 rr ea e65 ff hr
      have hb : (10 : Int) ^ (5 - (j + 1)) ≤ 10 ^ 4 ∧ (10 : Int) ^ (5 - j) = 10 * 10 ^ (5 - (j + 1)) := by
        have : j = 0 ∨ j = 1 ∨ j = 2 ∨ j = 3 ∨ j = 4 := by omega
        rcases this with rfl | rfl | rfl | rfl | rfl <;> decide
      have h4 : (10 : Int) ^ 4 = 10000 := rfl
      have hr : rdN f n 5 p 0 = (if 48 ≤ nxt f n q ∧ nxt f n q ≤ 57 then rdN f n j (q + 1) (10 * a + nxt f n q - 48) else (a, q)) := hr
      refine s_M_readsNumber_10 (mIsDigit (by decide) rr (fun z => br1 ⟨ii (by omega), fun y => ?_, fun y => ?_⟩) (fun z => br0 ?_))
      · have hq := nxt_lt (f := f) (n := n) (p := q) rfl (by omega)
        rw [ea]
        refine ⟨ii (by omega), mHere (by decide) rr ⟨ii (by omega), ii (by omega), ?_⟩⟩
        rw [rr.2.1.1]
        rw [if_pos z] at hr
        have f1 : FRm hh (wI hh 12 19 (10 * a + nxt f n q - 48)) := Fr.wI (Or.inr (by decide))
        have r1 : RdM f n q s ws o (wI hh 12 19 (10 * a + nxt f n q - 48)) := rr.fr f1 (fun k _ _ => rI_ne (by decide)) (by rw [rI_nk (by decide)]; exact rr.2.1.1) (by rw [rI_nk (by decide)]; exact rr.2.1.2.2.1) (by rw [rI_nk (by decide)]; exact rr.2.1.2.2.2.1) (by rw [rI_nk (by decide)]; exact rr.2.1.2.2.2.2) ⟨rr.2.2.2.1.1, rr.2.2.2.1.2.1⟩ rr.2.2.2.2.1 rr.2.2.2.2.2
        obtain ⟨r2, f2⟩ := r1.on hq
        exact ⟨ii (by omega), ih (q + 1) (10 * a + nxt f n q - 48) _ (by omega) (by omega) (by omega) (by omega) r2 (by rw [rI_nk (by decide)]; exact rI_eq) (fun k => by rw [rI_ne (by decide), rI_ne (by decide)]; exact e65 k) ((ff.trans f1).trans f2) hr⟩
      · rw [rr.2.1.1] at y
        omega
      · rw [if_neg z] at hr
        have hpq : p < q := by
          by_cases y : q = p
          · rw [y] at z; exact absurd h0 z
          · omega
        rw [hr] at kT
        exact kT a q hh (if_neg z) ⟨a0, by omega⟩ hpq rr ea e65 ff
  have f0 : FRm h (wI h 12 19 0) := Fr.wI (Or.inr (by decide))
  exact key 5 p 0 _ (Nat.le_refl 5) (by omega) (Int.le_refl 0) (by decide) (r.fr f0 (fun k _ _ => rI_ne (by decide)) (by rw [rI_nk (by decide)]; exact r.2.1.1) (by rw [rI_nk (by decide)]; exact r.2.1.2.2.1) (by rw [rI_nk (by decide)]; exact r.2.1.2.2.2.1) (by rw [rI_nk (by decide)]; exact r.2.1.2.2.2.2) ⟨b.1, b.2.1⟩ r.2.2.2.2.1 r.2.2.2.2.2) rI_eq (fun k => rI_ne (by decide)) f0 rfl
end RM2

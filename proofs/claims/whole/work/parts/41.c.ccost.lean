theorem cC_len : ∀ C, WfC C → ∀ (m : Nat) (T off : Int), (cC m T off C).length = szC C := by
  intro C
  induction C with
  | lt a b => intro w m T off; simp only [cC, szC, List.length_append, List.length_cons, List.length_nil]; omega
  | le a b => intro w m T off; simp only [cC, szC, List.length_append, List.length_cons, List.length_nil]; omega
  | eq a b => intro w m T off; simp only [cC, szC, List.length_append, List.length_cons, List.length_nil]; omega
  | not c ih => intro w m T off; simp only [cC, szC, List.length_append, List.length_cons, List.length_nil, ih w]
  | and c e ihc ihe => intro w m T off; simp only [cC, szC, List.length_append, List.length_cons, ihc w.1, ihe w.2]; omega
  | or c e ihc ihe => intro w m T off; simp only [cC, szC, List.length_append, List.length_cons, ihc w.1, ihe w.2]; omega
  | all t c ih => intro w m T off; exact ih w 0 0 off
  | _ => intro w; exact w.elim
section CC
variable {d : Nat} {h : AH} {K : Int → AH → Prop}
/-- what a condition does -/
def CRunC (f : Nat → Int) (K : Int → AH → Prop) (m : Nat) (T off : Int) (l : List (Int × Int)) (q : Nat) (r : Option Bool) : Prop := ∀ (v3 : Int) (hh : AH), ordAt hh 20 off l → FacC f hh → hh.1 3 8 = 0 → q ≤ 32 → 0 ≤ off → off + 2 * l.length ≤ 400 → 2 * v3 ≤ off → 0 ≤ v3 → (m = 1 ∨ m = 2 → off + 2 * l.length ≤ T) → (r = none → ∀ h', Fr [24] [(3, 8), (3, 9)] hh h' → K 0 h') → (∀ b h' v3', r = some b → Fr [24] [(3, 8), (3, 9)] hh h' → h'.1 3 8 = 0 → h'.1 3 9 = bI b → 2 * v3' ≤ off + 2 * l.length → 0 ≤ v3' → A_LawCode_runsThrough_14 2 K (off + 2 * l.length) v3' h') → (∀ b h' v3', r = some b → ((m = 1 ∧ b = false) ∨ (m = 2 ∧ b = true)) → Fr [24] [(3, 8), (3, 9)] hh h' → h'.1 3 8 = 0 → h'.1 3 9 = bI b → 2 * v3' ≤ T → 0 ≤ v3' → A_LawCode_runsThrough_14 2 K T v3' h') → A_LawCode_runsThrough_14 2 K off v3 hh
theorem CRunC.cmp {f : Nat → Int} {m : Nat} {T off s op : Int} {E1 E2 : Jvm.Term} {r : Option Bool} (hs : sgCmp s op) (w1 : WfE E1) (w2 : WfE E2) (hr : r = (evE f E1).bind fun x => (evE f E2).bind fun y => (opV op x y).map (fun v => decide (v = 1))) : CRunC f K m T off (cE E1 ++ (cE E2 ++ [(s, 0)])) (max (hE E1) (hE E2 + 1)) r := by
  intro v3 hh oc fc e8 hq a0 a1 b0 b1 hT kF kN kJ
  obtain ⟨c1, c2⟩ := ordAt_app oc
  obtain ⟨c2, c3⟩ := ordAt_app c2
  obtain ⟨⟨c3, -⟩, -⟩ := ordAt_cons c3
  have c3 : hh.1 20 (off + 2 * ((cE E1).length : Int) + 2 * ((cE E2).length : Int)) = s := c3
  have p2 := hE_pos E2 w2
  simp only [List.length_append, List.length_cons, List.length_nil] at a1 kN
  refine cRunE (K := K) (f := f) E1 w1 0 off v3 hh c1 fc e8 (by decide) (by omega) a0 (by omega) b0 b1 (fun z h' f' => kF (by rw [hr, z]; rfl) h' f') (fun x h1 v3' hx f1 e1 x1 s1 t1 g0 g1 => ?_)
  refine cRunE (K := K) (f := f) E2 w2 (0 + 1) _ v3' h1 (ordAt_fr c2 (fun k => by rw [f1.i 20])) (fun j hj => by rw [f1.i 23]; exact fc j hj) e1 (by omega) (by omega) (by omega) (by omega) g0 g1 (fun z h' f' => kF (by rw [hr, hx, z]; rfl) h' (f1.trans f')) (fun y h2 v3'' hy f2 e2 x2 s2 t2 g2 g3 => ?_)
  have so : s = 60 ∨ s = 62 ∨ s = 61 := by unfold sgCmp at hs; omega
  refine s_LawCode_runsThrough_14 ⟨fun z => by omega, fun _ => ⟨fun z => by omega, fun _ => ⟨ii (by omega), fun _ => ⟨ib (by omega), ib (by omega), ii (by omega), ?_⟩, fun z => by omega⟩⟩⟩
  rw [f2.i 20, f1.i 20, c3]
  refine ⟨fun _ => ⟨fun _ => ⟨fun z => by omega, fun _ => ⟨fun _ => c_LawCode_reckons 1 (by decide) ⟨fun z => by omega, fun _ => ⟨fun z => by omega, fun _ => ?_⟩⟩, fun z => by omega⟩⟩, fun z => by omega⟩, fun z => by omega⟩
  refine cJoinsB (n := 0) (x := x) (y := y) (by decide) hs (by decide) (by decide) (by rw [e2]; rfl) (by rw [s2 0 (by decide)]; exact x1) x2 (fun v h3 hv hv01 f3 e3 t3 s3 => ⟨Or.inr rfl, br1' ⟨ii (by omega), ?_⟩⟩)
  have hb : v = bI (decide (v = 1)) := by
    rcases hv01 with z | z
    · rw [z]; rfl
    · rw [z]; rfl
  have := kN (decide (v = 1)) h3 (v3'' + 1) (by rw [hr, hx, hy]; show (opV op x y).map _ = _; rw [hv]; rfl) ((f1.trans f2).trans f3) e3 (by rw [t3]; exact hb) (by omega) (by omega)
  rw [show off + 2 * (((cE E1).length + ((cE E2).length + (0 + 1)) : Nat) : Int) = off + 2 * ((cE E1).length : Int) + 2 * ((cE E2).length : Int) + 2 by omega] at this
  exact this
/-- a leap: order o (4: if, 5: unless) with the target t -/
theorem cLeap {o t at' v3 : Int} {b : Bool} (ho : (o = 4) ∨ (o = 5)) (c1 : h.1 20 at' = o) (c2 : h.1 20 (at' + 1) = t) (a0 : 0 ≤ at') (a1 : at' + 2 ≤ 400) (b0 : 2 * v3 ≤ at') (b1 : 0 ≤ v3) (hb : h.1 3 9 = bI b) (kL : ((o = 4 ∧ b = true) ∨ (o = 5 ∧ b = false)) → A_LawCode_runsThrough_14 2 K t (v3 + 1) h) (kS : ((o = 4 ∧ b = false) ∨ (o = 5 ∧ b = true)) → A_LawCode_runsThrough_14 2 K (at' + 2) (v3 + 1) h) : A_LawCode_runsThrough_14 2 K at' v3 h := by
  have go : A_LawCode_runsThrough_101 2 K (at' + 2) v3 o t h := s_LawCode_runsThrough_101 (by
    refine ⟨ii (by omega), ?_⟩
    rw [hb]
    rcases ho with ho | ho
    · rw [if_pos ho]
      cases b with
      | true => rw [if_pos (show bI true = 1 from rfl)]; exact kL (Or.inl ⟨ho, rfl⟩)
      | false => rw [if_neg (show ¬ bI false = 1 by decide)]; exact kS (Or.inl ⟨ho, rfl⟩)
    · rw [if_neg (show ¬ o = 4 by omega)]
      cases b with
      | true => rw [if_neg (show ¬ bI true = 0 by decide)]; exact kS (Or.inr ⟨ho, rfl⟩)
      | false => rw [if_pos (show bI false = 0 from rfl)]; exact kL (Or.inr ⟨ho, rfl⟩))
  refine s_LawCode_runsThrough_14 ⟨fun z => by omega, fun _ => ⟨fun z => by omega, fun _ => ⟨ii (by omega), fun _ => ⟨ib (by omega), ib (by omega), ii (by omega), ?_⟩, fun z => by omega⟩⟩⟩
  rw [c1, c2]
  rcases ho with ho | ho
  · exact ⟨fun _ => ⟨fun _ => ⟨fun _ => go, fun z => absurd ho z⟩, fun z => by omega⟩, fun z => by omega⟩
  · exact ⟨fun _ => ⟨fun _ => ⟨fun z => by omega, fun _ => ⟨fun z => absurd ho z, fun _ => go⟩⟩, fun z => by omega⟩, fun z => by omega⟩
theorem cRunC {f : Nat → Int} : ∀ C, WfC C → ∀ (m : Nat) (T off : Int), CRunC f K m T off (cC m T off C) (hC C) (evC f C) := by
  intro C
  induction C with
  | lt a b =>
    intro w m T off
    refine CRunC.cmp (op := 7) (Or.inl ⟨rfl, rfl⟩) w.1 w.2 ?_
    show (evE f a).bind _ = _
    congr 1; funext x; congr 1; funext y
    show some (decide (x < y)) = (some (if x < y then (1 : Int) else 0)).map (fun v => decide (v = 1))
    by_cases z : x < y <;> simp [z]
  | le a b =>
    intro w m T off
    refine CRunC.cmp (op := 8) (Or.inr (Or.inl ⟨rfl, rfl⟩)) w.1 w.2 ?_
    show (evE f a).bind _ = _
    congr 1; funext x; congr 1; funext y
    show some (decide (y < x)) = (some (if y < x then (1 : Int) else 0)).map (fun v => decide (v = 1))
    by_cases z : y < x <;> simp [z]
  | eq a b =>
    intro w m T off
    refine CRunC.cmp (op := 9) (Or.inr (Or.inr ⟨rfl, rfl⟩)) w.1 w.2 ?_
    show (evE f a).bind _ = _
    congr 1; funext x; congr 1; funext y
    show some (decide (x = y)) = (some (if x = y then (1 : Int) else 0)).map (fun v => decide (v = 1))
    by_cases z : x = y <;> simp [z]
  | all t c ih =>
    intro w m T off v3 hh oc fc e8 hq a0 a1 b0 b1 hT kF kN kJ
    exact ih w 0 0 off v3 hh oc fc e8 hq a0 a1 b0 b1 (fun z => by omega) kF kN (fun b h' v3' hb z => by omega)
  | not c ih =>
    intro w m T off v3 hh oc fc e8 hq a0 a1 b0 b1 hT kF kN kJ
    have oc : ordAt hh 20 off (cC 0 0 off c ++ [(3, 0)]) := oc
    have ln : ((cC m T off (.not c)).length : Int) = szC c + 1 := by rw [cC_len (.not c) w m T off]; rfl
    have lc := cC_len c w 0 0 off
    rw [ln] at a1 kN
    obtain ⟨c1, c2⟩ := ordAt_app oc
    rw [lc] at c2
    obtain ⟨⟨c2, -⟩, -⟩ := ordAt_cons c2
    have c2 : hh.1 20 (off + 2 * (szC c : Int)) = 3 := c2
    have kF : (evC f c).bind (fun x => some (!x)) = none → ∀ h', Fr [24] [(3, 8), (3, 9)] hh h' → K 0 h' := kF
    refine ih w 0 0 off v3 hh c1 fc e8 hq a0 (by rw [lc]; omega) b0 b1 (fun z => by omega) (fun z h' f' => kF (by rw [z]; rfl) h' f') (fun b h1 v3' hb f1 e1 t1 g0 g1 => ?_) (fun b h' v3' hb z => by omega)
    rw [lc] at g0 ⊢
    refine s_LawCode_runsThrough_14 ⟨fun z => by omega, fun _ => ⟨fun z => by omega, fun _ => ⟨ii (by omega), fun _ => ⟨ib (by omega), ib (by omega), ii (by omega), ?_⟩, fun z => by omega⟩⟩⟩
    rw [f1.i 20, c2, t1]
    refine ⟨fun _ => ⟨fun z => absurd rfl z, fun _ => ⟨?_, ii (by omega), ?_⟩⟩, fun z => by omega⟩
    · split
      · exact Or.inr rfl
      · exact Or.inl rfl
    · have := kN (!b) (wI h1 3 9 (if bI b = 0 then (1 : Int) else 0)) (v3' + 1) (by show (evC f c).bind _ = _; rw [hb]; rfl) (f1.trans (Fr.wI (Or.inr (by decide)))) (by rw [rI_nk (by decide)]; exact e1) (by rw [rI_eq]; cases b <;> rfl) (by omega) (by omega)
      rw [show off + 2 * ((szC c : Int) + 1) = off + 2 * (szC c : Int) + 2 by omega] at this
      exact this
  | and c e ihc ihe =>
    intro w m T off v3 hh oc fc e8 hq a0 a1 b0 b1 hT kF kN kJ
    have ln : ((cC m T off (.and c e)).length : Int) = szC c + 1 + szC e := by
      rw [cC_len (.and c e) w m T off]
      show ((szC c + 1 + szC e : Nat) : Int) = _
      omega
    generalize hT' : (if m = 1 then T else off + 2 * ((szC c : Int) + 1 + (szC e : Int))) = T'
    have oc : ordAt hh 20 off (cC 1 (if m = 1 then T else off + 2 * ((szC c : Int) + 1 + (szC e : Int))) off c ++ (5, if m = 1 then T else off + 2 * ((szC c : Int) + 1 + (szC e : Int))) :: cC 0 0 (off + 2 * ((szC c : Int) + 1)) e) := oc
    rw [hT'] at oc
    rw [ln] at a1 kN hT
    have lc := cC_len c w.1 1 T' off
    have le := cC_len e w.2 0 0 (off + 2 * ((szC c : Int) + 1))
    obtain ⟨c1, c2⟩ := ordAt_app oc
    rw [lc] at c2
    obtain ⟨⟨c2, c2'⟩, c3⟩ := ordAt_cons c2
    have c2 : hh.1 20 (off + 2 * (szC c : Int)) = 5 := c2
    have c2' : hh.1 20 (off + 2 * (szC c : Int) + 1) = T' := c2'
    rw [show off + 2 * (szC c : Int) + 2 = off + 2 * ((szC c : Int) + 1) by omega] at c3
    have kF : (evC f c).bind (fun x => if x then evC f e else some false) = none → ∀ h', Fr [24] [(3, 8), (3, 9)] hh h' → K 0 h' := kF
    have hq : max (hC c) (hC e) ≤ 32 := hq
    have hTT : off + 2 * ((szC c : Int) + 1 + (szC e : Int)) ≤ T' := by
      rw [← hT']
      split
      · exact hT (Or.inl (by assumption))
      · exact Int.le_refl _
    -- false: the end of the chain
    have no : evC f c = some false → ∀ h1 v3', Fr [24] [(3, 8), (3, 9)] hh h1 → h1.1 3 8 = 0 → h1.1 3 9 = 0 → 2 * v3' ≤ T' → 0 ≤ v3' → A_LawCode_runsThrough_14 2 K T' v3' h1 := fun hc h1 v3' f1 e1 t1 g0 g1 => by
      have hv : evC f (.and c e) = some false := by
        show (evC f c).bind _ = _
        rw [hc]; rfl
      by_cases hm : m = 1
      · rw [if_pos hm] at hT'
        rw [← hT'] at g0 ⊢
        exact kJ false h1 v3' hv (Or.inl ⟨hm, rfl⟩) f1 e1 t1 g0 g1
      · rw [if_neg hm] at hT'
        rw [← hT'] at g0 ⊢
        exact kN false h1 v3' hv f1 e1 t1 g0 g1
    refine ihc w.1 1 T' off v3 hh c1 fc e8 (by omega) a0 (by rw [lc]; omega) b0 b1 (fun _ => by rw [lc]; omega) (fun z h' f' => kF (by rw [z]; rfl) h' f') (fun b h1 v3' hb f1 e1 t1 g0 g1 => ?_) (fun b h1 v3' hb z f1 e1 t1 g0 g1 => ?_)
    · rw [lc] at g0 ⊢
      refine cLeap (b := b) (t := T') (Or.inr rfl) (by rw [f1.i 20]; exact c2) (by rw [f1.i 20]; exact c2') (by omega) (by omega) g0 g1 t1 (fun z => ?_) (fun z => ?_)
      · have hbf : b = false := by rcases z with ⟨z, _⟩ | ⟨_, z⟩ <;> first | omega | exact z
        rw [hbf] at hb t1
        exact no hb h1 (v3' + 1) f1 e1 t1 (by omega) (by omega)
      · have hbt : b = true := by rcases z with ⟨z, _⟩ | ⟨_, z⟩ <;> first | omega | exact z
        rw [hbt] at hb
        rw [show off + 2 * (szC c : Int) + 2 = off + 2 * ((szC c : Int) + 1) by omega]
        refine ihe w.2 0 0 _ (v3' + 1) h1 (ordAt_fr c3 (fun k => by rw [f1.i 20])) (fun j hj => by rw [f1.i 23]; exact fc j hj) e1 (by omega) (by omega) (by rw [le]; omega) (by omega) (by omega) (fun z => by omega) (fun y h' f' => kF (by rw [hb]; exact y) h' (f1.trans f')) (fun b2 h2 v3'' hb2 f2 e2 t2 g2 g3 => ?_) (fun b h' v3' hb z => by omega)
        rw [le] at g2 ⊢
        have := kN b2 h2 v3'' (by show (evC f c).bind _ = _; rw [hb]; exact hb2) (f1.trans f2) e2 t2 (by omega) g3
        rw [show off + 2 * ((szC c : Int) + 1 + (szC e : Int)) = off + 2 * ((szC c : Int) + 1) + 2 * (szC e : Int) by omega] at this
        exact this
    · have hbf : b = false := by rcases z with ⟨_, z⟩ | ⟨z, _⟩ <;> first | exact z | omega
      rw [hbf] at hb t1
      exact no hb h1 v3' f1 e1 t1 g0 g1
  | or c e ihc ihe =>
    intro w m T off v3 hh oc fc e8 hq a0 a1 b0 b1 hT kF kN kJ
    have ln : ((cC m T off (.or c e)).length : Int) = szC c + 1 + szC e := by
      rw [cC_len (.or c e) w m T off]
      show ((szC c + 1 + szC e : Nat) : Int) = _
      omega
    generalize hT' : (if m = 2 then T else off + 2 * ((szC c : Int) + 1 + (szC e : Int))) = T'
    have oc : ordAt hh 20 off (cC 2 (if m = 2 then T else off + 2 * ((szC c : Int) + 1 + (szC e : Int))) off c ++ (4, if m = 2 then T else off + 2 * ((szC c : Int) + 1 + (szC e : Int))) :: cC 0 0 (off + 2 * ((szC c : Int) + 1)) e) := oc
    rw [hT'] at oc
    rw [ln] at a1 kN hT
    have lc := cC_len c w.1 2 T' off
    have le := cC_len e w.2 0 0 (off + 2 * ((szC c : Int) + 1))
    obtain ⟨c1, c2⟩ := ordAt_app oc
    rw [lc] at c2
    obtain ⟨⟨c2, c2'⟩, c3⟩ := ordAt_cons c2
    have c2 : hh.1 20 (off + 2 * (szC c : Int)) = 4 := c2
    have c2' : hh.1 20 (off + 2 * (szC c : Int) + 1) = T' := c2'
    rw [show off + 2 * (szC c : Int) + 2 = off + 2 * ((szC c : Int) + 1) by omega] at c3
    have kF : (evC f c).bind (fun x => if x then some true else evC f e) = none → ∀ h', Fr [24] [(3, 8), (3, 9)] hh h' → K 0 h' := kF
    have hq : max (hC c) (hC e) ≤ 32 := hq
    have hTT : off + 2 * ((szC c : Int) + 1 + (szC e : Int)) ≤ T' := by
      rw [← hT']
      split
      · exact hT (Or.inr (by assumption))
      · exact Int.le_refl _
    have yes : evC f c = some true → ∀ h1 v3', Fr [24] [(3, 8), (3, 9)] hh h1 → h1.1 3 8 = 0 → h1.1 3 9 = 1 → 2 * v3' ≤ T' → 0 ≤ v3' → A_LawCode_runsThrough_14 2 K T' v3' h1 := fun hc h1 v3' f1 e1 t1 g0 g1 => by
      have hv : evC f (.or c e) = some true := by
        show (evC f c).bind _ = _
        rw [hc]; rfl
      by_cases hm : m = 2
      · rw [if_pos hm] at hT'
        rw [← hT'] at g0 ⊢
        exact kJ true h1 v3' hv (Or.inr ⟨hm, rfl⟩) f1 e1 t1 g0 g1
      · rw [if_neg hm] at hT'
        rw [← hT'] at g0 ⊢
        exact kN true h1 v3' hv f1 e1 t1 g0 g1
    refine ihc w.1 2 T' off v3 hh c1 fc e8 (by omega) a0 (by rw [lc]; omega) b0 b1 (fun _ => by rw [lc]; omega) (fun z h' f' => kF (by rw [z]; rfl) h' f') (fun b h1 v3' hb f1 e1 t1 g0 g1 => ?_) (fun b h1 v3' hb z f1 e1 t1 g0 g1 => ?_)
    · rw [lc] at g0 ⊢
      refine cLeap (b := b) (t := T') (Or.inl rfl) (by rw [f1.i 20]; exact c2) (by rw [f1.i 20]; exact c2') (by omega) (by omega) g0 g1 t1 (fun z => ?_) (fun z => ?_)
      · have hbf : b = true := by rcases z with ⟨_, z⟩ | ⟨z, _⟩ <;> first | exact z | omega
        rw [hbf] at hb t1
        exact yes hb h1 (v3' + 1) f1 e1 t1 (by omega) (by omega)
      · have hbt : b = false := by rcases z with ⟨_, z⟩ | ⟨z, _⟩ <;> first | exact z | omega
        rw [hbt] at hb
        rw [show off + 2 * (szC c : Int) + 2 = off + 2 * ((szC c : Int) + 1) by omega]
        refine ihe w.2 0 0 _ (v3' + 1) h1 (ordAt_fr c3 (fun k => by rw [f1.i 20])) (fun j hj => by rw [f1.i 23]; exact fc j hj) e1 (by omega) (by omega) (by rw [le]; omega) (by omega) (by omega) (fun z => by omega) (fun y h' f' => kF (by rw [hb]; exact y) h' (f1.trans f')) (fun b2 h2 v3'' hb2 f2 e2 t2 g2 g3 => ?_) (fun b h' v3' hb z => by omega)
        rw [le] at g2 ⊢
        have := kN b2 h2 v3'' (by show (evC f c).bind _ = _; rw [hb]; exact hb2) (f1.trans f2) e2 t2 (by omega) g3
        rw [show off + 2 * ((szC c : Int) + 1 + (szC e : Int)) = off + 2 * ((szC c : Int) + 1) + 2 * (szC e : Int) by omega] at this
        exact this
    · have hbf : b = true := by rcases z with ⟨z, _⟩ | ⟨_, z⟩ <;> first | omega | exact z
      rw [hbf] at hb t1
      exact yes hb h1 v3' f1 e1 t1 g0 g1
  | _ => intro w; exact w.elim
theorem cEnd {at' v3 : Int} (c1 : h.1 20 at' = 0) (a0 : 0 ≤ at') (a1 : at' + 2 ≤ 400) (b0 : 2 * v3 ≤ at') (b1 : 0 ≤ v3) (k : K 1 h) : A_LawCode_runsThrough_14 2 K at' v3 h := by
  refine s_LawCode_runsThrough_14 ⟨fun z => by omega, fun _ => ⟨fun z => by omega, fun _ => ⟨ii (by omega), fun _ => ⟨ib (by omega), ib (by omega), ii (by omega), ?_⟩, fun z => by omega⟩⟩⟩
  rw [c1]
  exact ⟨fun z => absurd rfl z, fun _ => k⟩
theorem cRunsC (hd : 2 < d) {f : Nat → Int} {C : Jvm.Cond} {at' : Int} (w : WfC C) (hq : hC C ≤ 32) (a0 : 0 ≤ at') (a1 : at' + 2 * (szC C + 1) ≤ 400) (oc : ordAt h 20 at' (cC 0 0 at' C ++ [(0, 0)])) (fc : FacC f h) (kT : evC f C = some true → ∀ h', Fr [24] [(3, 8), (3, 9)] h h' → h'.1 3 9 = 1 → K 1 h') (kF : evC f C = some false → ∀ h', Fr [24] [(3, 8), (3, 9)] h h' → h'.1 3 9 = 0 → K 1 h') (kN : evC f C = none → ∀ h', Fr [24] [(3, 8), (3, 9)] h h' → K 0 h') : Call d M_LawCode_runsThrough [vR 3 (-1), vI at'] h K := by
  have lc := cC_len C w 0 0 at'
  obtain ⟨c1, c2⟩ := ordAt_app oc
  rw [lc] at c2
  obtain ⟨⟨c2, -⟩, -⟩ := ordAt_cons c2
  have c2 : h.1 20 (at' + 2 * (szC C : Int)) = 0 := c2
  have f0 : Fr [24] [(3, 8), (3, 9)] h (wI (wI h 3 8 0) 3 9 0) := (Fr.wI (Or.inr (by decide))).trans (Fr.wI (Or.inr (by decide)))
  refine c_LawCode_runsThrough 2 hd (cRunC (K := K) (f := f) C w 0 0 at' 0 _ (ordAt_fr c1 (fun k => by rw [f0.i 20])) (fun j hj => by rw [f0.i 23]; exact fc j hj) (by rw [rI_nk (by decide)]; exact rI_eq) hq a0 (by rw [lc]; omega) (by omega) (Int.le_refl 0) (fun z => by omega) (fun z h' f' => kN z h' (f0.trans f')) (fun b h1 v3' hb f1 e1 t1 g0 g1 => ?_) (fun b h' v3' hb z => by omega))
  rw [lc] at g0 ⊢
  refine cEnd (by rw [f1.i 20, f0.i 20]; exact c2) (by omega) (by omega) g0 g1 ?_
  cases b with
  | true => exact kT hb h1 (f0.trans f1) t1
  | false => exact kF hb h1 (f0.trans f1) t1
theorem cRunsE (hd : 2 < d) {f : Nat → Int} {E : Jvm.Term} {at' : Int} (w : WfE E) (hq : hE E ≤ 32) (a0 : 0 ≤ at') (a1 : at' + 2 * ((cE E).length + 1) ≤ 400) (oc : ordAt h 20 at' (cE E ++ [(0, 0)])) (fc : FacC f h) (kT : ∀ v, evE f E = some v → ∀ h', Fr [24] [(3, 8), (3, 9)] h h' → h'.1 3 8 = 1 → h'.1 24 0 = v → K 1 h') (kN : evE f E = none → ∀ h', Fr [24] [(3, 8), (3, 9)] h h' → K 0 h') : Call d M_LawCode_runsThrough [vR 3 (-1), vI at'] h K := by
  obtain ⟨c1, c2⟩ := ordAt_app oc
  obtain ⟨⟨c2, -⟩, -⟩ := ordAt_cons c2
  have c2 : h.1 20 (at' + 2 * ((cE E).length : Int)) = 0 := c2
  have f0 : Fr [24] [(3, 8), (3, 9)] h (wI (wI h 3 8 0) 3 9 0) := (Fr.wI (Or.inr (by decide))).trans (Fr.wI (Or.inr (by decide)))
  refine c_LawCode_runsThrough 2 hd (cRunE (K := K) (f := f) E w 0 at' 0 _ (ordAt_fr c1 (fun k => by rw [f0.i 20])) (fun j hj => by rw [f0.i 23]; exact fc j hj) (by rw [rI_nk (by decide)]; exact rI_eq) (Int.le_refl 0) (by omega) a0 (by omega) (by omega) (Int.le_refl 0) (fun z h' f' => kN z h' (f0.trans f')) (fun v h1 v3' hv f1 e1 x1 s1 t1 g0 g1 => ?_))
  exact cEnd (by rw [f1.i 20, f0.i 20]; exact c2) (by omega) (by omega) g0 g1 (kT v hv h1 (f0.trans f1) e1 x1)
theorem cCostOf2 (hd : 3 < d) {f : Nat → Int} {lw : LW} (r : RepCL lw h) (q : FacC f h) (k : ∀ h', Fr [24] [(3, 8), (3, 9)] h h' → K (costL f lw none) h') : Call d M_LawCode_costOfNamed [vR 3 (-1)] h K := by
  refine c_LawCode_costOfNamed 3 hd ?_
  have key : ∀ (l : LW) (j : Nat) (c : Option Int) (v1 : Int) (hh : AH), lw.drop j = l → Fr [24] [(3, 8), (3, 9)] h hh → ((c = none ∧ v1 = 0) ∨ (c = some v1 ∧ 1 ≤ v1 ∧ v1 ≤ 99)) → costL f lw none = costL f l c → A_LawCode_costOfNamed_4 3 K v1 j hh := by
    intro l
    induction l with
    | nil =>
      intro j c v1 hh hl ff hc hk
      have hj : lw.length ≤ j := List.drop_eq_nil_iff.mp hl
      have kk := k hh ff
      rw [hk] at kk
      refine s_LawCode_costOfNamed_4 ?_
      rw [ff.f 3 6, r.1.1]
      refine ⟨fun _ => ⟨fun z => ?_, fun z => ?_⟩, fun z => by omega⟩
      · rcases hc with ⟨_, c2⟩ | ⟨c1, c2⟩
        · exact absurd c2 z
        · rw [c1] at kk; exact kk
      · rcases hc with ⟨c1, _⟩ | ⟨c1, c2⟩
        · rw [c1] at kk; exact kk
        · omega
    | cons cl l ih =>
      intro j c v1 hh hl ff hc hk
      have hj : j < lw.length := by
        rcases Nat.lt_or_ge j lw.length with z | z
        · exact z
        · rw [List.drop_eq_nil_iff.mpr z] at hl; cases hl
      have hcl : lw[j]? = some cl := by
        have := congrArg List.head? hl
        rw [List.head?_drop] at this
        exact this
      have hl' : lw.drop (j + 1) = l := by
        have := congrArg List.tail hl
        rw [List.tail_drop] at this
        exact this
      obtain ⟨E, C⟩ := cl
      have rr := (r.fr ff).2 j E C hcl
      have fm : FacC f hh := fun i hi => by rw [ff.i 23]; exact q i hi
      obtain ⟨⟨wC, hq, b22, l22, oC⟩, hE'⟩ := rr
      have nl := r.1.2
      refine s_LawCode_costOfNamed_4 ?_
      rw [ff.f 3 6, r.1.1]
      refine ⟨fun z => by omega, fun _ => ⟨ib (by omega), ?_⟩⟩
      have next : ∀ c' v1' h', Fr [24] [(3, 8), (3, 9)] hh h' → ((c' = none ∧ v1' = 0) ∨ (c' = some v1' ∧ 1 ≤ v1' ∧ v1' ≤ 99)) → costL f lw none = costL f l c' → inI ((j : Int) + 1) ∧ A_LawCode_costOfNamed_4 3 K v1' ((j : Int) + 1) h' := fun c' v1' h' f' hc' hk' => ⟨ii (by omega), ih (j + 1) c' v1' h' hl' (ff.trans f') hc' hk'⟩
      cases E with
      | none =>
        have e21 : hh.1 21 j = -1 := hE'
        rw [e21, if_pos rfl]
        have skip : evC f C ≠ some true → ∀ h', Fr [24] [(3, 8), (3, 9)] hh h' → inI ((j : Int) + 1) ∧ A_LawCode_costOfNamed_4 3 K v1 ((j : Int) + 1) h' := fun hF h' f' => next c v1 h' f' hc (by
          rw [hk]
          show (if evC f C = some true then 0 else costL f l c) = costL f l c
          rw [if_neg hF])
        refine ⟨fun _ => s_LawCode_costOfNamed_36 ⟨ib (by omega), cRunsC (by decide) wC hq b22 l22 oC fm (fun hT h' f' t' => br1 ⟨fun z => by rw [t'] at z; exact absurd z (by decide), fun _ => ⟨fun z => absurd z (by decide), fun _ => ?_⟩⟩) (fun hF h' f' t' => br1 ⟨fun _ => skip (by rw [hF]; exact fun y => by cases y) h' f', fun z => absurd t' z⟩) (fun hF h' f' => br0 (skip (by rw [hF]; exact fun y => by cases y) h' f'))⟩, fun z => absurd z (by decide)⟩
        have kk := k h' (ff.trans f')
        have e0 : costL f ((none, C) :: l) c = 0 := by
          show (if evC f C = some true then 0 else costL f l c) = 0
          rw [if_pos hT]
        rw [hk, e0] at kk
        exact kk
      | some e =>
        obtain ⟨wE, hqE, b21, l21, oE⟩ := hE'
        have b21 : 0 ≤ hh.1 21 j := b21
        have oE : ordAt hh 20 (hh.1 21 j) (cE e ++ [(0, 0)]) := oE
        have l21 : hh.1 21 j + 2 * (((cE e).length : Int) + 1) ≤ 400 := l21
        rw [if_neg (show ¬ hh.1 21 j = -1 by omega)]
        refine ⟨fun z => absurd rfl z, fun _ => ⟨fun z => ?_, fun z => ?_⟩⟩
        · rcases hc with ⟨_, c2⟩ | ⟨c1, c2⟩
          · exact absurd c2 z
          · refine next c v1 hh Fr.refl (Or.inr ⟨c1, c2⟩) ?_
            rw [hk, c1]
            show costL f l (some v1) = _
            rfl
        · rcases hc with ⟨c1, c2⟩ | ⟨c1, c2⟩
          · have skip : evC f C ≠ some true → ∀ h', Fr [24] [(3, 8), (3, 9)] hh h' → inI ((j : Int) + 1) ∧ A_LawCode_costOfNamed_4 3 K v1 ((j : Int) + 1) h' := fun hF h' f' => next c v1 h' f' (Or.inl ⟨c1, c2⟩) (by
              rw [hk, c1]
              show (if evC f C = some true then costL f l (some (clamp ((evE f e).getD 0))) else costL f l none) = _
              rw [if_neg hF])
            refine s_LawCode_costOfNamed_36 ⟨ib (by omega), cRunsC (by decide) wC hq b22 l22 oC fm (fun hT h' f' t' => br1 ⟨fun y => by rw [t'] at y; exact absurd y (by decide), fun _ => ⟨fun _ => ?_, fun y => absurd rfl y⟩⟩) (fun hF h' f' t' => br1 ⟨fun _ => skip (by rw [hF]; exact fun y => by cases y) h' f', fun y => absurd t' y⟩) (fun hF h' f' => br0 (skip (by rw [hF]; exact fun y => by cases y) h' f'))⟩
            rw [f'.i 21]
            have fin : ∀ v h2, (evE f e).getD 0 = v → Fr [24] [(3, 8), (3, 9)] h' h2 → A_LawCode_costOfNamed_92 3 K j v h2 := fun v h2 hv f2 => s_LawCode_costOfNamed_92 ⟨by decide, by
              refine next (some (clamp v)) (max 1 (min 99 v)) h2 (f'.trans f2) (Or.inr ⟨rfl, by omega⟩) ?_
              rw [hk, c1]
              show (if evC f C = some true then costL f l (some (clamp ((evE f e).getD 0))) else costL f l none) = _
              rw [if_pos hT, hv]⟩
            refine cRunsE (f := f) (by decide) wE hqE b21 l21 (ordAt_fr oE (fun k => by rw [f'.i 20])) (fun i hi => by rw [f'.i 23]; exact fm i hi) (fun v hv h2 f2 e2 x2 => br1 ⟨fun y => by omega, fun _ => ?_⟩) (fun hv h2 f2 => br0 (s_LawCode_costOfNamed_91 (fin 0 h2 (by rw [hv]; rfl) f2)))
            rw [x2]
            exact fin v h2 (by rw [hv]; rfl) f2
          · omega
  exact key lw 0 none 0 h rfl Fr.refl (Or.inl ⟨rfl, rfl⟩) rfl
end CC

/-! the class reads a law: conditions -/
def Same (m : Nat) (C : Jvm.Cond) : Prop := ∀ (T off : Int), cC m T off C = cC 0 0 off C
theorem ordAt_cons' {h : AH} {o : Nat} {off : Int} {v : Int × Int} {l : List (Int × Int)} (c1 : h.1 o off = v.1) (c2 : h.1 o (off + 1) = v.2) (q : ordAt h o (off + 2) l) : ordAt h o off (v :: l) := by
  refine ordAt_join (l := [v]) (fun i w hw => ?_) q
  match i, hw with
  | 0, hw =>
    cases hw
    rw [show off + 2 * ((0 : Nat) : Int) = off by omega]
    exact ⟨c1, c2⟩
def JK (o : Int) (m : Nat) (cj : Jvm.Cond → Jvm.Cond → Jvm.Cond) : Prop := (o = 5 ∧ m = 1 ∧ cj = .and) ∨ (o = 4 ∧ m = 2 ∧ cj = .or)
theorem JK.eq {o : Int} {m : Nat} {cj : Jvm.Cond → Jvm.Cond → Jvm.Cond} (j : JK o m cj) : (∀ (T off : Int) (a b : Jvm.Cond), cC m T off (cj a b) = cC m T off a ++ (o, T) :: cC 0 0 (off + 2 * (szC a + 1)) b) ∧ (∀ (off : Int) (a b : Jvm.Cond), cC 0 0 off (cj a b) = cC m (off + 2 * szC (cj a b)) off (cj a b)) ∧ (∀ a b, szC (cj a b) = szC a + 1 + szC b ∧ hC (cj a b) = max (hC a) (hC b) ∧ (WfC (cj a b) ↔ WfC a ∧ WfC b)) := by
  obtain ⟨rfl, rfl, rfl⟩ | ⟨rfl, rfl, rfl⟩ := j
  · exact ⟨fun _ _ _ _ => rfl, fun _ _ _ => rfl, fun _ _ => ⟨rfl, rfl, Iff.rfl⟩⟩
  · exact ⟨fun _ _ _ _ => rfl, fun _ _ _ => rfl, fun _ _ => ⟨rfl, rfl, Iff.rfl⟩⟩
def chB (cj : Jvm.Cond → Jvm.Cond → Jvm.Cond) : List Jvm.Cond → Jvm.Cond → Jvm.Cond
  | [], c => c
  | a :: L, c => cj (chB cj L a) c
def szL : List Jvm.Cond → Nat
  | [] => 0
  | c :: L => szL L + szC c + 1
/-- the pieces of a chain (the last first), each with its leap behind it; a leap names the one before -/
def LinkC (o : Int) (m : Nat) (h : AH) (s : Int) : List Jvm.Cond → Int → Prop
  | [], l => l = -1
  | c :: L, l => (l = s + 2 * szL L + 2 * szC c ∧ h.1 25 l = o ∧ ordAt h 25 (s + 2 * szL L) (cC 0 0 (s + 2 * szL L) c)) ∧ (WfC c ∧ hC c ≤ 16 ∧ Same m c) ∧ LinkC o m h s L (h.1 25 (l + 1))
/-- the same when every leap goes to T -/
def LinkT (o : Int) (m : Nat) (T : Int) (h : AH) (s : Int) : List Jvm.Cond → Prop
  | [] => True
  | c :: L => (h.1 25 (s + 2 * szL L + 2 * szC c) = o ∧ h.1 25 (s + 2 * szL L + 2 * szC c + 1) = T ∧ ordAt h 25 (s + 2 * szL L) (cC 0 0 (s + 2 * szL L) c)) ∧ (WfC c ∧ hC c ≤ 16 ∧ Same m c) ∧ LinkT o m T h s L
theorem szL_cons {c : Jvm.Cond} {L : List Jvm.Cond} : ((szL (c :: L) : Nat) : Int) = szL L + szC c + 1 := by
  show ((szL L + szC c + 1 : Nat) : Int) = _
  omega
theorem ordAt_of {h h' : AH} {off : Int} {c : Jvm.Cond} (w : WfC c) (q : ordAt h 25 off (cC 0 0 off c)) (e : ∀ k, off ≤ k → k < off + 2 * szC c → h'.1 25 k = h.1 25 k) : ordAt h' 25 off (cC 0 0 off c) := fun i v hv => by
  have hi := (List.getElem?_eq_some_iff.mp hv).1
  rw [cC_len c w] at hi
  rw [e _ (by omega) (by omega), e _ (by omega) (by omega)]
  exact q i v hv
theorem LinkC.of {o : Int} {m : Nat} {h h' : AH} {s : Int} : ∀ {L : List Jvm.Cond} {l : Int}, LinkC o m h s L l → (∀ k, s ≤ k → k < s + 2 * szL L → h'.1 25 k = h.1 25 k) → LinkC o m h' s L l
  | [], _, q, _ => q
  | c :: L, l, q, e => by
    obtain ⟨⟨q1, q2, q3⟩, g, q4⟩ := q
    rw [szL_cons] at e
    have e1 := e l (by omega) (by omega)
    have e2 := e (l + 1) (by omega) (by omega)
    refine ⟨⟨q1, e1.trans q2, ordAt_of g.1 q3 (fun k a b => e k (by omega) (by omega))⟩, g, ?_⟩
    rw [e2]
    exact q4.of (fun k a b => e k a (by omega))
theorem LinkT.of {o T : Int} {m : Nat} {h h' : AH} {s : Int} : ∀ {L : List Jvm.Cond}, LinkT o m T h s L → (∀ k, s ≤ k → k < s + 2 * szL L → h'.1 25 k = h.1 25 k) → LinkT o m T h' s L
  | [], _, _ => trivial
  | c :: L, q, e => by
    obtain ⟨⟨q2, q1, q3⟩, g, q4⟩ := q
    rw [szL_cons] at e
    exact ⟨⟨(e _ (by omega) (by omega)).trans q2, (e _ (by omega) (by omega)).trans q1, ordAt_of g.1 q3 (fun k a b => e k (by omega) (by omega))⟩, g, q4.of (fun k a b => e k a (by omega))⟩
theorem landsA {d : Nat} {o : Int} {m : Nat} {s : Int} : ∀ (L : List Jvm.Cond) (l v3 : Int) (h : AH) (K : Int → AH → Prop), LinkC o m h s L l → 0 ≤ s → s + 2 * szL L ≤ 400 → 0 ≤ v3 → v3 + (L.length : Int) ≤ 400 → (∀ h', LinkT o m (h.1 5 5) h' s L → (∀ k, k < s ∨ s + 2 * szL L ≤ k → h'.1 25 k = h.1 25 k) → Fr [25] [] h h' → K 0 h') → A_LawCode_landHere_4 d K l v3 h
  | [], l, v3, h, K, q, s0, s1, v0, v1, k => by
    have q : l = -1 := q
    exact s_LawCode_landHere_4 ⟨fun _ => k h trivial (fun _ _ => rfl) Fr.refl, fun _ => ⟨fun _ => k h trivial (fun _ _ => rfl) Fr.refl, fun z => by omega⟩⟩
  | c :: L, l, v3, h, K, q, s0, s1, v0, v1, k => by
    obtain ⟨⟨q1, q2, q3⟩, g, q4⟩ := q
    rw [szL_cons] at s1 k
    have v1 : v3 + ((L.length + 1 : Nat) : Int) ≤ 400 := v1
    have f1 : Fr [25] [] h (wI h 25 (l + 1) (h.1 5 5)) := Fr.wI (Or.inl (by decide))
    have u1 : ∀ k, k ≠ l + 1 → (wI h 25 (l + 1) (h.1 5 5)).1 25 k = h.1 25 k := fun k hk => rI_nk hk
    refine s_LawCode_landHere_4 ⟨fun z => by omega, fun _ => ⟨fun z => by omega, fun _ => ⟨ii (by omega), fun z => by omega, fun _ => ⟨ib (by omega), ii (by omega), ?_⟩⟩⟩⟩
    refine landsA L _ (v3 + 1) _ K (q4.of (fun k a b => u1 k (by omega))) s0 (by omega) (by omega) (by omega) (fun h' t un ff => ?_)
    rw [rI_ne (show ¬ ((5 : Nat) = 25) by decide)] at t
    have hl : ∀ k, k < s ∨ s + 2 * szL L ≤ k → k ≠ l + 1 → h'.1 25 k = h.1 25 k := fun k a b => (un k a).trans (u1 k b)
    refine k h' ⟨⟨?_, ?_, ?_⟩, g, t⟩ (fun k hk => hl k (by omega) (by omega)) (f1.trans ff)
    · rw [hl _ (by omega) (by omega), ← q1]; exact q2
    · rw [un _ (by omega), ← q1]; exact rI_eq
    · exact ordAt_of g.1 q3 (fun k a b => hl k (by omega) (by omega))
theorem lands {d : Nat} (hd : 0 < d) {o : Int} {m : Nat} {s : Int} {L : List Jvm.Cond} {l : Int} {h : AH} {K : Int → AH → Prop} (q : LinkC o m h s L l) (s0 : 0 ≤ s) (s1 : s + 2 * szL L ≤ 400) (v1 : (L.length : Int) ≤ 400) (k : ∀ h', LinkT o m (h.1 5 5) h' s L → (∀ k, k < s ∨ s + 2 * szL L ≤ k → h'.1 25 k = h.1 25 k) → Fr [25] [] h h' → K 0 h') : Call d M_LawCode_landHere [vR 5 (-1), vI l] h K :=
  c_LawCode_landHere 0 hd (landsA L l 0 h K q s0 s1 (Int.le_refl 0) (by omega) k)
theorem fullC {o T : Int} {m : Nat} {cj : Jvm.Cond → Jvm.Cond → Jvm.Cond} {h : AH} {s : Int} (j : JK o m cj) : ∀ (L : List Jvm.Cond) (c : Jvm.Cond), LinkT o m T h s L → ordAt h 25 (s + 2 * szL L) (cC 0 0 (s + 2 * szL L) c) → (WfC c ∧ hC c ≤ 16 ∧ Same m c) → ordAt h 25 s (cC m T s (chB cj L c)) ∧ WfC (chB cj L c) ∧ hC (chB cj L c) ≤ 16 ∧ szC (chB cj L c) = szL L + szC c
  | [], c, _, oc, g => by
    rw [show s + 2 * ((szL [] : Nat) : Int) = s by show s + 2 * ((0 : Nat) : Int) = s; omega] at oc
    refine ⟨?_, g.1, g.2.1, ?_⟩
    · show ordAt h 25 s (cC m T s c)
      rw [g.2.2 T s]; exact oc
    · show szC c = 0 + szC c
      omega
  | a :: L, c, q, oc, g => by
    obtain ⟨⟨q1, q2, q3⟩, ga, q4⟩ := q
    obtain ⟨i1, i2, i3, i4⟩ := fullC j L a q4 q3 ga
    obtain ⟨e1, _, e3⟩ := j.eq
    obtain ⟨x1, x2, x3⟩ := e3 (chB cj L a) c
    have ln : ((cC m T s (chB cj L a)).length : Int) = szL L + szC a := by rw [cC_len _ i2, i4]; omega
    refine ⟨?_, x3.mpr ⟨i2, g.1⟩, ?_, ?_⟩
    · show ordAt h 25 s (cC m T s (cj (chB cj L a) c))
      rw [e1]
      refine ordAt_join i1 ?_
      rw [ln, i4, show s + 2 * (((szL L + szC a : Nat) : Int) + 1) = s + 2 * (szL L + szC a + 1) by omega, show s + 2 * ((szL L : Int) + szC a) = s + 2 * szL L + 2 * szC a by omega]
      refine ordAt_cons' q1 q2 ?_
      rw [szL_cons] at oc
      rw [show s + 2 * (szL L : Int) + 2 * szC a + 2 = s + 2 * (szL L + szC a + 1) by omega]
      exact oc
    · show hC (cj (chB cj L a) c) ≤ 16
      rw [x2]
      exact Nat.max_le.mpr ⟨i3, g.2.1⟩
    · show szC (cj (chB cj L a) c) = szL L + szC a + 1 + szC c
      rw [x1, i4]
def CtC (P : Jvm.Cond → Prop) (f : Int → Int) (n p s : Int) (h : AH) (K : Int → AH → Prop) (R : Rs Jvm.Cond) : Prop := (∀ a b h', R = .inl (a, b) → Flt n a b h' → FRd h h' → K 0 h') ∧ (∀ C p' h', R = .inr (C, p') → p < p' → RdC f n p' (s + 2 * szC C) h' → ordAt h' 25 s (cC 0 0 s C) → (∀ k, k < s → h'.1 25 k = h.1 25 k) → WfC C → hC C ≤ 16 → P C → (szC C : Int) ≤ p' - p → FRd h h' → K 1 h')
theorem cmpT_eq {x : Int} {a b : Jvm.Term} (hx : x = 60 ∨ x = 62 ∨ x = 61) : (∀ (m : Nat) (T off : Int), cC m T off (cmpT x a b) = cE a ++ (cE b ++ [(x, 0)])) ∧ szC (cmpT x a b) = (cE a).length + (cE b).length + 1 ∧ hC (cmpT x a b) = max (hE a) (hE b + 1) ∧ (WfC (cmpT x a b) ↔ WfE a ∧ WfE b) := by
  unfold cmpT
  rcases hx with rfl | rfl | rfl
  · exact ⟨fun _ _ _ => rfl, rfl, rfl, Iff.rfl⟩
  · exact ⟨fun _ _ _ => rfl, rfl, rfl, Iff.rfl⟩
  · exact ⟨fun _ _ _ => rfl, rfl, rfl, Iff.rfl⟩
section RD2
variable {d : Nat} {f : Int → Int} {n p s : Int} {h : AH} {K : Int → AH → Prop}
theorem rCompared {o : Nat} (hd : 3 * o + 7 < d) (ho : o ≤ 6) (r : RdC f n p s h) (hs : s ≤ 2 * p) (k : CtC (fun C => ∀ m, Same m C) f n p s h K (pCmp f n o p)) : Call d M_Reader_readCompared [vR 4 (-1), vI (6 - (o : Int))] h K := by
  have b := r.2.2.2.2.1
  obtain ⟨k1, k2⟩ := k
  unfold pCmp at k1 k2
  refine c_Reader_readCompared (3 * o + 7) hd (rSum o ho _ p s h _ (by omega) r hs ⟨fun a b h' e fl f' => br0' (k1 a b h' (by rw [e]) fl f'), fun E q h1 e hq r1 oc un w hh hl f1 => br1' ?_⟩)
  have bq := r1.2.2.2.2.1
  have go : ∀ x, nxt f n q = x → (x = 60 ∨ x = 62 ∨ x = 61) → A_Reader_readCompared_39 (3 * o + 7) K (6 - (o : Int)) x h1 := fun x hx hm => by
    have hp := nxt_lt hx (by omega)
    refine s_Reader_readCompared_39 ?_
    rw [r1.2.2.1]
    obtain ⟨r2, f2⟩ := r1.on hp
    refine ⟨ii (by omega), rSum o ho _ (q + 1) _ _ _ (by omega) r2 (by omega) ⟨fun a b h' e' fl f' => br0' (k1 a b h' (by rw [e]; show (if nxt f n q = 60 ∨ nxt f n q = 62 ∨ nxt f n q = 61 then _ else _) = _; rw [if_pos (by rw [hx]; exact hm), e']) fl ((f1.trans f2).trans f')), fun E' q' h3 e' hq' r3 oc' un' w' hh' hl' f3 => br1' ?_⟩⟩
    have b3 := r3.2.2.2.2.1
    obtain ⟨m1, m2, m3, m4⟩ := cmpT_eq (a := E) (b := E') hm
    have m2' : ((szC (cmpT x E E') : Nat) : Int) = (cE E).length + (cE E').length + 1 := by rw [m2]; omega
    refine rPut (by omega) r3 (by omega) (fun h4 r4 c1 c2 c3 f4 => k2 (cmpT x E E') q' h4 (by rw [e]; show (if nxt f n q = 60 ∨ nxt f n q = 62 ∨ nxt f n q = 61 then _ else _) = _; rw [if_pos (by rw [hx]; exact hm), e', hx]) (by omega) ?_ ?_ (fun k hk => ?_) (m4.mpr ⟨w, w'⟩) ?_ (fun m T off => by rw [m1, m1]) (by rw [m2']; omega) (((f1.trans f2).trans f3).trans f4))
    · rw [m2', show s + 2 * (((cE E).length : Int) + (cE E').length + 1) = s + 2 * ((cE E).length : Int) + 2 * ((cE E').length : Int) + 2 by omega]
      exact r4
    · rw [m1]
      refine ordAt_join (fun i v hv => ?_) (ordAt_join (fun i v hv => ?_) (ordAt_cons' c1 c2 (fun i v hv => by cases hv)))
      · have hi := (List.getElem?_eq_some_iff.mp hv).1
        rw [c3 _ (by omega) (by omega), c3 _ (by omega) (by omega), un' _ (by omega), un' _ (by omega), rI_ne (by decide), rI_ne (by decide)]
        exact oc i v hv
      · have hi := (List.getElem?_eq_some_iff.mp hv).1
        rw [c3 _ (by omega) (by omega), c3 _ (by omega) (by omega)]
        exact oc' i v hv
    · rw [c3 k (by omega) (by omega), un' k (by omega), rI_ne (by decide)]
      exact un k hk
    · rw [m3]; omega
  exact rNext (by omega) r1 ⟨fun z => go _ rfl (Or.inl z), fun z => ⟨fun z2 => go _ rfl (Or.inr (Or.inl z2)), fun z2 => ⟨fun z3 => go _ rfl (Or.inr (Or.inr z3)), fun z3 => rFails (by omega) r1 (by decide) (fun h' fl f' => ⟨Or.inl rfl, k1 1 q h' (by rw [e]; show (if nxt f n q = 60 ∨ nxt f n q = 62 ∨ nxt f n q = 61 then _ else _) = _; rw [if_neg (fun y => by omega)]) fl (f1.trans f')⟩)⟩⟩⟩
theorem rPieces {one : Int → Rs Jvm.Cond} {D : Nat} {q1 : Int} (hd : D < d) (hD : 2 ≤ D) (r : RdC f n p s h) (hs : s ≤ 2 * p) (ro : ∀ (p s : Int) (h : AH) (K : Int → AH → Prop), RdC f n p s h → s ≤ 2 * p → CtC (fun C => ∀ m, Same m C) f n p s h K (one p) → Call D M_Reader_readPiece [vR 4 (-1), vI q1] h K) (k : CtC (Same 2) f n p s h K (pChainC f n 38 .and one p)) : Call d M_Reader_readPieces [vR 4 (-1), vI q1] h K := by
  have b := r.2.2.2.2.1
  unfold pChainC at k
  refine c_Reader_readPieces D hd ?_
  have jk : JK 5 1 .and := Or.inl ⟨rfl, rfl, rfl⟩
  have loop : ∀ (j : Nat) (L : List Jvm.Cond) (q v3 l : Int) (hh : AH), (j : Int) = 161 - v3 → 0 ≤ v3 → v3 ≤ q → p ≤ q → RdC f n q (s + 2 * szL L) hh → LinkC 5 1 hh s L l → (∀ k, k < s → hh.1 25 k = h.1 25 k) → (szL L : Int) ≤ q - p → (L.length : Int) ≤ v3 → FRd h hh → CtC (Same 2) f n p s h K (match one q with
    | .inl e => .inl e
    | .inr r => pMoreC f n 38 .and one j (chB .and L r.1) r.2) → A_Reader_readPieces_4 D K q1 l v3 hh := by
    intro j
    induction j with
    | zero =>
      intro L q v3 l hh hj v0 v1 pq rr
      have := rr.2.2.2.2.1
      omega
    | succ j ih =>
      intro L q v3 l hh hj v0 v1 pq rr lk un hl hL ff kk
      have bq := rr.2.2.2.2.1
      obtain ⟨m1, m2⟩ := kk
      refine s_Reader_readPieces_4 ⟨fun z => by omega, fun _ => ro q _ hh _ rr (by omega) ⟨fun a b h' e fl f' => br0' (m1 a b h' (by rw [e]) fl (ff.trans f')), fun C p' h' e hp' r' oc un' w hb hP hl' f' => br1' ?_⟩⟩
      have bp := r'.2.2.2.2.1
      have sm : Same 1 C := hP 1
      refine rNext (by omega) r' ⟨fun z => ?_, fun z => ?_⟩
      · rw [r'.2.2.1]
        obtain ⟨r1, f1⟩ := r'.on (nxt_lt z (by decide))
        refine ⟨ii (by omega), rPut (by omega) r1 (by omega) (fun h2 r2 c1 c2 c3 f2 => ⟨ii (by omega), ?_⟩)⟩
        have uu : ∀ k, k < s + 2 * (szL L : Int) + 2 * (szC C : Int) → h2.1 25 k = h'.1 25 k := fun k hk => by rw [c3 k (by omega) (by omega), rI_ne (by decide)]
        refine ih (C :: L) (p' + 1) (v3 + 1) _ h2 (by omega) (by omega) (by omega) (by omega) ?_ ⟨⟨rfl, c1, ?_⟩, ⟨w, hb, sm⟩, ?_⟩ (fun k hk => by rw [uu k (by omega), un' k (by omega), un k hk]) (by rw [szL_cons]; omega) (by show ((L.length + 1 : Nat) : Int) ≤ _; omega) (((ff.trans f').trans f1).trans f2) ?_
        · rw [szL_cons, show s + 2 * ((szL L : Int) + szC C + 1) = s + 2 * szL L + 2 * szC C + 2 by omega]
          exact r2
        · exact ordAt_of w oc (fun k a b => uu k (by omega))
        · rw [c2]
          exact lk.of (fun k a b => by rw [uu k (by omega), un' k (by omega)])
        · rw [e] at m1 m2
          have ee : pMoreC f n 38 .and one (j + 1) (chB .and L C) p' = (match one (p' + 1) with
            | .inl e => .inl e
            | .inr r => pMoreC f n 38 .and one j (chB .and (C :: L) r.1) r.2) := by
            show (if nxt f n p' = 38 then _ else _) = _
            rw [if_pos z]
            rfl
          exact ⟨fun a b h3 e3 => m1 a b h3 (ee.trans e3), fun a b h3 e3 => m2 a b h3 (ee.trans e3)⟩
      · have lk' := lk.of (h' := h') (fun k a b => un' k (by omega))
        refine lands (by omega) lk' r.2.2.2.2.2 (by omega) (by omega) (fun h2 lt un2 f2 => ?_)
        rw [r'.2.2.2.1] at lt
        have f2' : FRd h' h2 := f2.mono (by decide) (by decide)
        have oc2 := ordAt_of (h' := h2) w oc (fun k a b => un2 k (by omega))
        obtain ⟨g1, g2, g3, g4⟩ := fullC jk L C lt oc2 ⟨w, hb, sm⟩
        have g4' : ((szC (chB .and L C) : Nat) : Int) = szL L + szC C := by rw [g4]; omega
        refine m2 (chB .and L C) p' h2 ?_ (by omega) ?_ ?_ (fun k hk => by rw [un2 k (by omega), un' k (by omega), un k hk]) g2 g3 ?_ (by rw [g4']; omega) ((ff.trans f').trans f2')
        · rw [e]
          show (if nxt f n p' = 38 then _ else _) = _
          rw [if_neg z]
        · rw [g4', show s + 2 * ((szL L : Int) + szC C) = s + 2 * szL L + 2 * szC C by omega]
          exact r'.at_ f2' ((f2.f 4 3).trans r'.2.2.1) ((f2.f 5 5).trans r'.2.2.2.1) ⟨by omega, by omega⟩ r'.2.2.2.2.2
        · cases L with
          | nil =>
            show ordAt h2 25 s (cC 0 0 s C)
            rw [← sm (s + 2 * ((szL [] : Nat) : Int) + 2 * szC C) s]
            exact g1
          | cons a L =>
            show ordAt h2 25 s (cC 0 0 s (.and (chB .and L a) C))
            rw [jk.eq.2.1]
            rw [show s + 2 * ((szC (.and (chB .and L a) C) : Nat) : Int) = s + 2 * ((szL (a :: L) : Nat) : Int) + 2 * szC C from by
              have : ((szC (.and (chB .and L a) C) : Nat) : Int) = szL (a :: L) + szC C := g4'
              omega]
            exact g1
        · cases L with
          | nil => exact hP 2
          | cons a L => exact fun _ _ => rfl
  exact loop 161 [] p 0 (-1) h (by decide) (Int.le_refl 0) b.1 (Int.le_refl _) (by rw [show s + 2 * ((szL [] : Nat) : Int) = s by show s + 2 * ((0 : Nat) : Int) = s; omega]; exact r) rfl (fun _ _ => rfl) (by show ((0 : Nat) : Int) ≤ p - p; omega) (Int.le_refl 0) Fr.refl k
theorem rParts {one : Int → Rs Jvm.Cond} {D : Nat} {q1 : Int} (hd : D < d) (hD : 2 ≤ D) (r : RdC f n p s h) (hs : s ≤ 2 * p) (ro : ∀ (p s : Int) (h : AH) (K : Int → AH → Prop), RdC f n p s h → s ≤ 2 * p → CtC (Same 2) f n p s h K (one p) → Call D M_Reader_readPieces [vR 4 (-1), vI q1] h K) (k : CtC (fun _ => True) f n p s h K (pChainC f n 124 .or one p)) : Call d M_Reader_readParts [vR 4 (-1), vI q1] h K := by
  have b := r.2.2.2.2.1
  unfold pChainC at k
  refine c_Reader_readParts D hd ?_
  have jk : JK 4 2 .or := Or.inr ⟨rfl, rfl, rfl⟩
  have loop : ∀ (j : Nat) (L : List Jvm.Cond) (q v3 l : Int) (hh : AH), (j : Int) = 161 - v3 → 0 ≤ v3 → v3 ≤ q → p ≤ q → RdC f n q (s + 2 * szL L) hh → LinkC 4 2 hh s L l → (∀ k, k < s → hh.1 25 k = h.1 25 k) → (szL L : Int) ≤ q - p → (L.length : Int) ≤ v3 → FRd h hh → CtC (fun _ => True) f n p s h K (match one q with
    | .inl e => .inl e
    | .inr r => pMoreC f n 124 .or one j (chB .or L r.1) r.2) → A_Reader_readParts_4 D K q1 l v3 hh := by
    intro j
    induction j with
    | zero =>
      intro L q v3 l hh hj v0 v1 pq rr
      have := rr.2.2.2.2.1
      omega
    | succ j ih =>
      intro L q v3 l hh hj v0 v1 pq rr lk un hl hL ff kk
      have bq := rr.2.2.2.2.1
      obtain ⟨m1, m2⟩ := kk
      refine s_Reader_readParts_4 ⟨fun z => by omega, fun _ => ro q _ hh _ rr (by omega) ⟨fun a b h' e fl f' => br0' (m1 a b h' (by rw [e]) fl (ff.trans f')), fun C p' h' e hp' r' oc un' w hb hP hl' f' => br1' ?_⟩⟩
      have bp := r'.2.2.2.2.1
      have sm : Same 2 C := hP
      refine rNext (by omega) r' ⟨fun z => ?_, fun z => ?_⟩
      · rw [r'.2.2.1]
        obtain ⟨r1, f1⟩ := r'.on (nxt_lt z (by decide))
        refine ⟨ii (by omega), rPut (by omega) r1 (by omega) (fun h2 r2 c1 c2 c3 f2 => ⟨ii (by omega), ?_⟩)⟩
        have uu : ∀ k, k < s + 2 * (szL L : Int) + 2 * (szC C : Int) → h2.1 25 k = h'.1 25 k := fun k hk => by rw [c3 k (by omega) (by omega), rI_ne (by decide)]
        refine ih (C :: L) (p' + 1) (v3 + 1) _ h2 (by omega) (by omega) (by omega) (by omega) ?_ ⟨⟨rfl, c1, ?_⟩, ⟨w, hb, sm⟩, ?_⟩ (fun k hk => by rw [uu k (by omega), un' k (by omega), un k hk]) (by rw [szL_cons]; omega) (by show ((L.length + 1 : Nat) : Int) ≤ _; omega) (((ff.trans f').trans f1).trans f2) ?_
        · rw [szL_cons, show s + 2 * ((szL L : Int) + szC C + 1) = s + 2 * szL L + 2 * szC C + 2 by omega]
          exact r2
        · exact ordAt_of w oc (fun k a b => uu k (by omega))
        · rw [c2]
          exact lk.of (fun k a b => by rw [uu k (by omega), un' k (by omega)])
        · rw [e] at m1 m2
          have ee : pMoreC f n 124 .or one (j + 1) (chB .or L C) p' = (match one (p' + 1) with
            | .inl e => .inl e
            | .inr r => pMoreC f n 124 .or one j (chB .or (C :: L) r.1) r.2) := by
            show (if nxt f n p' = 124 then _ else _) = _
            rw [if_pos z]
            rfl
          exact ⟨fun a b h3 e3 => m1 a b h3 (ee.trans e3), fun a b h3 e3 => m2 a b h3 (ee.trans e3)⟩
      · have lk' := lk.of (h' := h') (fun k a b => un' k (by omega))
        refine lands (by omega) lk' r.2.2.2.2.2 (by omega) (by omega) (fun h2 lt un2 f2 => ?_)
        rw [r'.2.2.2.1] at lt
        have f2' : FRd h' h2 := f2.mono (by decide) (by decide)
        have oc2 := ordAt_of (h' := h2) w oc (fun k a b => un2 k (by omega))
        obtain ⟨g1, g2, g3, g4⟩ := fullC jk L C lt oc2 ⟨w, hb, sm⟩
        have g4' : ((szC (chB .or L C) : Nat) : Int) = szL L + szC C := by rw [g4]; omega
        refine m2 (chB .or L C) p' h2 ?_ (by omega) ?_ ?_ (fun k hk => by rw [un2 k (by omega), un' k (by omega), un k hk]) g2 g3 ?_ (by rw [g4']; omega) ((ff.trans f').trans f2')
        · rw [e]
          show (if nxt f n p' = 124 then _ else _) = _
          rw [if_neg z]
        · rw [g4', show s + 2 * ((szL L : Int) + szC C) = s + 2 * szL L + 2 * szC C by omega]
          exact r'.at_ f2' ((f2.f 4 3).trans r'.2.2.1) ((f2.f 5 5).trans r'.2.2.2.1) ⟨by omega, by omega⟩ r'.2.2.2.2.2
        · cases L with
          | nil =>
            show ordAt h2 25 s (cC 0 0 s C)
            rw [← sm (s + 2 * ((szL [] : Nat) : Int) + 2 * szC C) s]
            exact g1
          | cons a L =>
            show ordAt h2 25 s (cC 0 0 s (.or (chB .or L a) C))
            rw [jk.eq.2.1]
            rw [show s + 2 * ((szC (.or (chB .or L a) C) : Nat) : Int) = s + 2 * ((szL (a :: L) : Nat) : Int) + 2 * szC C from by
              have : ((szC (.or (chB .or L a) C) : Nat) : Int) = szL (a :: L) + szC C := g4'
              omega]
            exact g1
        · exact trivial
  exact loop 161 [] p 0 (-1) h (by decide) (Int.le_refl 0) b.1 (Int.le_refl _) (by rw [show s + 2 * ((szL [] : Nat) : Int) = s by show s + 2 * ((0 : Nat) : Int) = s; omega]; exact r) rfl (fun _ _ => rfl) (by show ((0 : Nat) : Int) ≤ p - p; omega) (Int.le_refl 0) Fr.refl k
def CtB (f : Int → Int) (n p s : Int) (h : AH) (K : Int → AH → Prop) (R : Rs Jvm.Cond) : Prop := (∀ a b h', R = .inl (a, b) → Flt n a b h' → FRd h h' → K 0 h') ∧ (∀ C p' h', R = .inr (C, p') → p < p' → RdC f n p' (s + 2 * szC C) h' → ordAt h' 25 s (cC 0 0 s C) → (∀ k, k < s → h'.1 25 k = h.1 25 k) → WfC C → hC C ≤ 16 → (∀ m, Same m C) → (szC C : Int) + 2 ≤ p' - p → FRd h h' → K 1 h')
/-- a condition in brackets; piece: how a piece in them is read -/
theorem rBrackets {o D : Nat} {piece : Int → Rs Jvm.Cond} (hd : D + 2 < d) (hD : 2 ≤ D) (ho : o ≤ 6) (r : RdC f n p s h) (hs : s ≤ 2 * p) (rp : o ≠ 0 → ∀ (p s : Int) (h : AH) (K : Int → AH → Prop), RdC f n p s h → s ≤ 2 * p → CtC (fun C => ∀ m, Same m C) f n p s h K (piece p) → Call D M_Reader_readPiece [vR 4 (-1), vI (6 - (o : Int) + 1)] h K) (k : CtB f n p s h K (if nxt f n p = 40 then (if o = 0 then .inl (5, p) else pBra f n piece (p + 1)) else .inl (1, p))) : Call d M_Reader_readBrackets [vR 4 (-1), vI (6 - (o : Int))] h K := by
  have b := r.2.2.2.2.1
  obtain ⟨k1, k2⟩ := k
  refine c_Reader_readBrackets (D + 2) hd (rNext (by omega) r ⟨fun z => ?_, fun z => rFails (by omega) r (by decide) (fun h' fl f' => ⟨Or.inl rfl, k1 1 p h' (if_neg z) fl f'⟩)⟩)
  rw [if_pos z] at k1 k2
  refine rOpens (by omega) r (nxt_lt z (by decide)) ho (fun h1 ho0 r1 e1 f1 => br1 ⟨ii (by omega), ?_⟩) (fun h1 ho0 fl f1 => br0 (k1 5 p h1 (if_pos ho0) fl f1))
  rw [if_neg ho0] at k1 k2
  unfold pBra at k1 k2
  refine rParts (D := D + 1) (by omega) (by omega) r1 (by omega) (fun p s h K r hs k => rPieces (D := D) (by omega) hD r hs (rp ho0) k) ⟨fun a b h' e fl f' => br0 (k1 a b h' (by show (match pParts f n piece (p + 1) with | .inl e => _ | .inr q => _) = _; rw [show pParts f n piece (p + 1) = _ from e]) fl (f1.trans f')), fun C p' h' e hp' r' oc un w hb _ hl f' => br1 ?_⟩
  have e : pParts f n piece (p + 1) = .inr (C, p') := e
  rw [e] at k1 k2
  refine rPasses (by omega) r' (by decide) (fun h2 e2 r2 u2 f2 => br1 (k2 (.all (.int 0) C) (p' + 1) h2 (if_pos e2) (by omega) r2 (ordAt_fr oc u2) (fun k hk => by rw [u2, un k hk, e1]) w hb (fun _ _ _ => rfl) ?_ ((f1.trans f').trans f2))) (fun h2 e2 fl f2 => br0 (k1 1 p' h2 (if_neg e2) fl ((f1.trans f').trans f2)))
  show (szC C : Int) + 2 ≤ p' + 1 - p
  omega
theorem rPieceS {o D : Nat} {piece : Int → Rs Jvm.Cond} (hd : D + 3 < d) (hD : 3 * o + 7 ≤ D + 2) (ho : o ≤ 6) (r : RdC f n p s h) (hs : s ≤ 2 * p) (rp : o ≠ 0 → ∀ (p s : Int) (h : AH) (K : Int → AH → Prop), RdC f n p s h → s ≤ 2 * p → CtC (fun C => ∀ m, Same m C) f n p s h K (piece p) → Call D M_Reader_readPiece [vR 4 (-1), vI (6 - (o : Int) + 1)] h K) (rp2 : o ≠ 0 → ∀ (p s : Int) (h : AH) (K : Int → AH → Prop), RdC f n p s h → s ≤ 2 * p → CtC (fun C => ∀ m, Same m C) f n p s h K (piece p) → Call (D + 2) M_Reader_readPiece [vR 4 (-1), vI (6 - (o : Int) + 1)] h K) (k : CtC (fun C => ∀ m, Same m C) f n p s h K (if nxt f n p = 40 then (if o = 0 then .inl (5, p) else pBra f n piece (p + 1)) else if nxt f n p = 33 then (if o = 0 then .inl (5, p) else (match piece (p + 1) with
      | .inl e => .inl e
      | .inr q => .inr (.not q.1, q.2))) else pCmp f n o p)) : Call d M_Reader_readPiece [vR 4 (-1), vI (6 - (o : Int))] h K := by
  have b := r.2.2.2.2.1
  obtain ⟨k1, k2⟩ := k
  refine c_Reader_readPiece (D + 3) hd (rNext (by omega) r ⟨fun z => ⟨fun z2 => ?_, fun z2 => ?_⟩, fun z => ?_⟩)
  · rw [if_neg z, if_neg z2] at k1 k2
    exact rCompared (by omega) ho r hs ⟨fun a b h' e fl f' => ⟨Or.inl rfl, k1 a b h' e fl f'⟩, fun C p' h' e hp r' oc un w hb hP hl f' => ⟨Or.inr rfl, k2 C p' h' e hp r' oc un w hb hP hl f'⟩⟩
  · rw [if_neg z, if_pos z2] at k1 k2
    refine c_Reader_readDenied (D + 2) (by omega) (rOpens (by omega) r (nxt_lt z2 (by decide)) ho (fun h1 ho0 r1 e1 f1 => br1 ⟨ii (by omega), ?_⟩) (fun h1 ho0 fl f1 => br0 ⟨Or.inl rfl, k1 5 p h1 (if_pos ho0) fl f1⟩))
    rw [if_neg ho0] at k1 k2
    refine rp2 ho0 (p + 1) s h1 _ r1 (by omega) ⟨fun a b h' e fl f' => br0' ⟨Or.inl rfl, k1 a b h' (by rw [e]) fl (f1.trans f')⟩, fun C p' h' e hp r' oc un w hb hP hl f' => br1' ?_⟩
    have bp := r'.2.2.2.2.1
    refine rPut (by omega) r' (by omega) (fun h2 r2 c1 c2 c3 f2 => ⟨Or.inr rfl, k2 (.not C) p' h2 (by rw [e]) (by omega) ?_ ?_ (fun k hk => by rw [c3 k (by omega) (by omega), un k hk, e1]) w hb (fun _ _ _ => rfl) ?_ ((f1.trans f').trans f2)⟩)
    · rw [show ((szC (.not C) : Nat) : Int) = szC C + 1 from rfl, show s + 2 * ((szC C : Int) + 1) = s + 2 * szC C + 2 by omega]
      exact r2
    · show ordAt h2 25 s (cC 0 0 s C ++ [(3, 0)])
      refine ordAt_join (ordAt_of w oc (fun k a b => c3 k (by omega) (by omega))) ?_
      rw [cC_len C w]
      exact ordAt_cons' c1 c2 (fun i v hv => by cases hv)
    · show ((szC C + 1 : Nat) : Int) ≤ p' - p
      omega
  · rw [if_pos z] at k1 k2
    refine rBrackets (D := D) (by omega) (by omega) ho r hs rp ⟨fun a b h' e fl f' => ⟨Or.inl rfl, k1 a b h' ?_ fl f'⟩, fun C p' h' e hp r' oc un w hb hP hl f' => ⟨Or.inr rfl, k2 C p' h' ?_ hp r' oc un w hb hP (by omega) f'⟩⟩
    · rw [if_pos z] at e; exact e
    · rw [if_pos z] at e; exact e
theorem rPiece : ∀ (o : Nat), o ≤ 6 → ∀ (d : Nat) (p s : Int) (h : AH) (K : Int → AH → Prop), 4 * o + 8 < d → RdC f n p s h → s ≤ 2 * p → CtC (fun C => ∀ m, Same m C) f n p s h K (pPiece f n o p) → Call d M_Reader_readPiece [vR 4 (-1), vI (6 - (o : Int))] h K := by
  intro o
  induction o with
  | zero =>
    intro _ d p s h K hd r hs k
    refine rPieceS (o := 0) (D := 5) (piece := fun p => .inl (0, p)) hd (by decide) (by decide) r hs (fun z => absurd rfl z) (fun z => absurd rfl z) ?_
    unfold pPiece at k
    by_cases z : nxt f n p = 40
    · rw [if_pos (Or.inl z)] at k
      rw [if_pos z, if_pos rfl]
      exact k
    · by_cases z2 : nxt f n p = 33
      · rw [if_pos (Or.inr z2)] at k
        rw [if_neg z, if_pos z2, if_pos rfl]
        exact k
      · rw [if_neg (by omega)] at k
        rw [if_neg z, if_neg z2]
        exact k
  | succ o ih =>
    intro ho d p s h K hd r hs k
    have q1 : 6 - (o : Int) = 6 - ((o + 1 : Nat) : Int) + 1 := by omega
    refine rPieceS (o := o + 1) (D := 4 * o + 9) (piece := pPiece f n o) (by omega) (by omega) ho r hs (fun _ p s h K r hs k => ?_) (fun _ p s h K r hs k => ?_) ?_
    · rw [← q1]
      exact ih (by omega) _ p s h K (by omega) r hs k
    · rw [← q1]
      exact ih (by omega) _ p s h K (by omega) r hs k
    · rw [if_neg (Nat.succ_ne_zero o), if_neg (Nat.succ_ne_zero o)]
      exact k
theorem rCond (hd : 31 < d) (r : RdC f n p s h) (hs : s ≤ 2 * p) (k : CtB f n p s h K (pCond f n p)) : Call d M_Reader_readBrackets [vR 4 (-1), vI 0] h K :=
  rBrackets (o := 6) (D := 29) (piece := pPiece f n 5) hd (by decide) (by decide) r hs (fun _ p s h K r hs k => rPiece 5 (by decide) _ p s h K (by decide) r hs k) k
end RD2

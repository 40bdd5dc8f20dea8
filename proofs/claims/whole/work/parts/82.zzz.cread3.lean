/-! the class reads a law: clauses -/
def EIn (a s : Int) (E : Option Jvm.Term) (h : AH) : Prop := match E with | some e => WfE e ∧ hE e ≤ 32 ∧ 0 ≤ a ∧ a + 2 * ((cE e).length + 1) ≤ s ∧ ordAt h 25 a (cE e ++ [(0, 0)]) | none => a = -1
def ClIn (a b s : Int) (E : Option Jvm.Term) (C : Jvm.Cond) (h : AH) : Prop := (WfC C ∧ hC C ≤ 32 ∧ 0 ≤ b ∧ b + 2 * (szC C + 1) ≤ s ∧ ordAt h 25 b (cC 0 0 b C ++ [(0, 0)])) ∧ EIn a s E h
def LawIn (lw : LW) (s : Int) (h : AH) : Prop := (h.1 5 6 = (lw.length : Int) ∧ lw.length ≤ 12) ∧ ∀ (j : Nat) (E : Option Jvm.Term) (C : Jvm.Cond), lw[j]? = some (E, C) → ClIn (h.1 26 j) (h.1 27 j) s E C h
abbrev FRt (h h' : AH) : Prop := Fr [25, 26, 27] [((4 : Nat), (3 : Int)), (4, 4), (5, 5), (5, 6)] h h'
theorem FRd.t {h h' : AH} (f : FRd h h') : FRt h h' := f.mono (by decide) (by decide)
theorem ordAt_lt {h h' : AH} {off s : Int} {l : List (Int × Int)} (q : ordAt h 25 off l) (hl : off + 2 * (l.length : Int) ≤ s) (e : ∀ k, k < s → h'.1 25 k = h.1 25 k) : ordAt h' 25 off l := fun i v hv => by
  have hi := (List.getElem?_eq_some_iff.mp hv).1
  rw [e _ (by omega), e _ (by omega)]
  exact q i v hv
theorem EIn.of {a s s' : Int} {E : Option Jvm.Term} {h h' : AH} (q : EIn a s E h) (ss : s ≤ s') (e : ∀ k, k < s → h'.1 25 k = h.1 25 k) : EIn a s' E h' := by
  cases E with
  | none => exact q
  | some x =>
    obtain ⟨q1, q2, q3, q4, q5⟩ := q
    exact ⟨q1, q2, q3, by omega, ordAt_lt q5 (by rw [List.length_append]; exact q4) e⟩
theorem ClIn.of {a b s s' : Int} {E : Option Jvm.Term} {C : Jvm.Cond} {h h' : AH} (q : ClIn a b s E C h) (ss : s ≤ s') (e : ∀ k, k < s → h'.1 25 k = h.1 25 k) : ClIn a b s' E C h' := by
  obtain ⟨⟨q1, q2, q3, q4, q5⟩, q6⟩ := q
  refine ⟨⟨q1, q2, q3, by omega, ordAt_lt q5 ?_ e⟩, q6.of ss e⟩
  rw [List.length_append, cC_len C q1]
  exact q4
theorem LawIn.of {lw : LW} {s s' : Int} {h h' : AH} (q : LawIn lw s h) (ss : s ≤ s') (e : ∀ k, k < s → h'.1 25 k = h.1 25 k) (ff : FRd h h') : LawIn lw s' h' := by
  refine ⟨by rw [ff.f 5 6]; exact q.1, fun j E C hj => ?_⟩
  rw [ff.i 26 (by decide) (by decide) j, ff.i 27 (by decide) (by decide) j]
  exact (q.2 j E C hj).of ss e
theorem LawIn.add {lw : LW} {a b s : Int} {E : Option Jvm.Term} {C : Jvm.Cond} {h h' : AH} (q : LawIn lw s h) (hl : lw.length < 12) (c : ClIn a b s E C h) (e6 : h'.1 5 6 = (lw.length : Int) + 1) (e : ∀ k, h'.1 25 k = h.1 25 k) (ea : h'.1 26 (lw.length : Int) = a) (eb : h'.1 27 (lw.length : Int) = b) (na : ∀ k, k ≠ (lw.length : Int) → h'.1 26 k = h.1 26 k ∧ h'.1 27 k = h.1 27 k) : LawIn (lw ++ [(E, C)]) s h' := by
  refine ⟨⟨by rw [e6, List.length_append]; show _ = ((lw.length + 1 : Nat) : Int); omega, by rw [List.length_append]; show lw.length + 1 ≤ 12; omega⟩, fun j E' C' hj => ?_⟩
  by_cases z : j < lw.length
  · rw [List.getElem?_append_left z] at hj
    obtain ⟨n1, n2⟩ := na j (by omega)
    rw [n1, n2]
    exact (q.2 j E' C' hj).of (Int.le_refl s) (fun k _ => e k)
  · rw [List.getElem?_append_right (by omega)] at hj
    have hj0 : j = lw.length := by
      have := (List.getElem?_eq_some_iff.mp hj).1
      have : j - lw.length < 1 := this
      omega
    rw [hj0, Nat.sub_self] at hj
    cases hj
    rw [hj0, ea, eb]
    exact c.of (Int.le_refl s) (fun k _ => e k)
theorem LawIn.rep {lw : LW} {s : Int} {h : AH} (q : LawIn lw s h) (s1 : s ≤ 400) : RepCLo 5 25 lw h := by
  refine ⟨q.1, fun j E C hj => ?_⟩
  obtain ⟨⟨q1, q2, q3, q4, q5⟩, q6⟩ := q.2 j E C hj
  refine ⟨⟨q1, q2, q3, ?_, q5⟩, ?_⟩
  · show h.1 27 j + 2 * ((szC C : Int) + 1) ≤ 400
    omega
  · cases E with
    | none => exact q6
    | some x =>
      obtain ⟨p1, p2, p3, p4, p5⟩ := q6
      refine ⟨p1, p2, p3, ?_, p5⟩
      show h.1 26 j + 2 * (((cE x).length : Int) + 1) ≤ 400
      omega
section RD3
variable {d : Nat} {f : Int → Int} {n p s : Int} {h : AH} {K : Int → AH → Prop}
def CtK (f : Int → Int) (n p : Int) (lw : LW) (h : AH) (K : Int → AH → Prop) (R : Rs Cl) : Prop := (∀ a b h', R = .inl (a, b) → Flt n a b h' → FRt h h' → K 0 h') ∧ (∀ cl p' s' h', R = .inr (cl, p') → p < p' → s' ≤ 2 * p' → RdC f n p' s' h' → LawIn (lw ++ [cl]) s' h' → FRt h h' → K 1 h')
theorem rTail (hd : 31 < d) {a : Int} {E : Option Jvm.Term} {lw : LW} (r : RdC f n p s h) (hs : s ≤ 2 * p) (q : LawIn lw s h) (hl : lw.length < 12) (he : EIn a s E h) (k : CtK f n p lw h K (match pCond f n p with
    | .inl e => .inl e
    | .inr r => .inr ((E, r.1), r.2))) : A_Reader_readClause_34 d K a h := by
  have b := r.2.2.2.2.1
  obtain ⟨k1, k2⟩ := k
  refine s_Reader_readClause_34 (rCond hd r hs ⟨fun x y h' e fl f' => br0' (k1 x y h' (by rw [e]) fl f'.t), fun C p' h1 e hp r1 oc un w hb _ hl1 f1 => br1' ?_⟩)
  have bp := r1.2.2.2.2.1

  refine rPut (by omega) r1 (by omega) (fun h2 r2 c1 c2 c3 f2 => c_LawCode_addClause 0 (by omega) ?_)
  have u2 : ∀ k, k < s + 2 * (szC C : Int) → h2.1 25 k = h1.1 25 k := fun k hk => c3 k (by omega) (by omega)
  have q2 := q.of (s' := s + 2 * szC C + 2) (by omega) (fun k hk => by rw [u2 k (by omega), un k hk]) (f1.trans f2)
  have e2 := he.of (s' := s + 2 * szC C + 2) (by omega) (fun k hk => by rw [u2 k (by omega), un k hk])
  have cl : ClIn a s (s + 2 * szC C + 2) E C h2 := by
    refine ⟨⟨w, by omega, r.2.2.2.2.2, by omega, ordAt_join (ordAt_of w oc (fun k _ hk => u2 k hk)) ?_⟩, e2⟩
    rw [cC_len C w]
    exact ordAt_cons' c1 c2 (fun i v hv => by cases hv)
  rw [q2.1.1, r.2.2.2.1]
  have hlen : (lw.length : Int) < 12 := by omega
  have f3 : Fr [26, 27] [(5, 6)] h2 (wI (wI (wI h2 26 lw.length a) 27 lw.length s) 5 6 (lw.length + 1)) := ((Fr.wI (Or.inl (by decide))).trans (Fr.wI (Or.inl (by decide)))).trans (Fr.wI (Or.inr (by decide)))
  refine ⟨fun z => by omega, fun _ => ⟨ib (by omega), ii (by omega), ?_⟩⟩
  refine k2 (E, C) p' (s + 2 * szC C + 2) _ (by rw [e]) hp (by omega) ?_ (q2.add hl cl rI_eq (fun k => f3.i 25 (by decide) (by decide) k) ?_ ?_ (fun k hk => ?_)) ((FRd.t (f1.trans f2)).trans (f3.mono (by decide) (by decide)))
  · exact ⟨r2.1.fr f3, by rw [f3.f 4 2]; exact r2.2.1, by rw [f3.f 4 3]; exact r2.2.2.1, by rw [f3.f 5 5]; exact r2.2.2.2.1, r2.2.2.2.2⟩
  · rw [rI_ne (by decide), rI_ne (by decide)]; exact rI_eq
  · rw [rI_ne (by decide)]; exact rI_eq
  · exact ⟨by rw [rI_ne (by decide), rI_ne (by decide), rI_nk hk], by rw [rI_ne (by decide), rI_nk hk, rI_ne (by decide)]⟩
/-- a clause, its letter behind; v: 1 if it names its cost -/
theorem rClause (hd : 32 < d) {v : Int} {lw : LW} (r : RdC f n p s h) (hs : s + 2 ≤ 2 * p) (q : LawIn lw s h) (hl : lw.length < 12) (k : CtK f n p lw h K (if v ≠ 0 then (match pSum f n 6 p with
    | .inl e => .inl e
    | .inr q => (match pCond f n q.2 with
      | .inl e => .inl e
      | .inr r => .inr ((some q.1, r.1), r.2))) else (match pCond f n p with
    | .inl e => .inl e
    | .inr r => .inr ((none, r.1), r.2)))) : Call d M_Reader_readClause [vR 4 (-1), vI v] h K := by
  have b := r.2.2.2.2.1
  refine c_Reader_readClause 32 hd ⟨fun z => ?_, fun z => ?_⟩
  · rw [if_neg (fun y => y z)] at k
    exact rTail (by decide) r (by omega) q hl (E := none) rfl k
  · rw [if_pos z] at k
    obtain ⟨k1, k2⟩ := k
    refine rSum 6 (by decide) _ p s h _ (by decide) r (by omega) ⟨fun x y h' e fl f' => br0' (k1 x y h' (by rw [e]) fl f'.t), fun e p' h1 er hp r1 oc un w hb hl1 f1 => br1' ?_⟩
    have bp := r1.2.2.2.2.1
    rw [er] at k1 k2
    refine rPut (by decide) r1 (by omega) (fun h2 r2 c1 c2 c3 f2 => ?_)
    rw [r.2.2.2.1]
    have u2 : ∀ k, k < s + 2 * ((cE e).length : Int) → h2.1 25 k = h1.1 25 k := fun k hk => c3 k (by omega) (by omega)
    have q2 := q.of (s' := s + 2 * (cE e).length + 2) (by omega) (fun k hk => by rw [u2 k (by omega), un k hk]) (f1.trans f2)
    refine rTail (by decide) (E := some e) r2 (by omega) q2 hl ⟨w, by omega, r.2.2.2.2.2, by omega, ordAt_join (ordAt_lt oc (Int.le_refl _) u2) (ordAt_cons' c1 c2 (fun i v hv => by cases hv))⟩ ⟨fun x y h' e fl f' => k1 x y h' e fl ((FRd.t (f1.trans f2)).trans f'), fun cl p3 s3 h3 e3 hp3 hs3 r3 q3 f3 => k2 cl p3 s3 h3 e3 (by omega) hs3 r3 q3 ((FRd.t (f1.trans f2)).trans f3)⟩
theorem rTexts (hd : 33 < d) : ∀ (j : Nat) (lw : LW) (p s : Int) (h : AH), j + lw.length = 12 → RdC f n p s h → s ≤ 2 * p → LawIn lw s h → (∀ a b h', pText f n j lw p = .inl (a, b) → Flt n a b h' → FRt h h' → K 0 h') → (∀ lw' h', pText f n j lw p = .inr lw' → RepCLo 5 25 lw' h' → FRt h h' → K 1 h') → A_Reader_readText_24 d K (lw.length : Int) h := by
  intro j
  induction j with
  | zero =>
    intro lw p s h hj r hs q k1 k2
    have hfl : ∀ a, a = 4 ∨ a = 1 → (if nxt f n p = 110 ∨ nxt f n p = 99 then (.inl (4, p) : (Int × Int) ⊕ LW) else .inl (1, p)) = .inl (a, p) → Call d M_Reader_fails [vR 4 (-1), vI a] h (fun r6 h5 => (r6 = 0 ∨ r6 = 1) ∧ K r6 h5) := fun a ha e => rFails (by omega) r (by omega) (fun h' fl f' => ⟨Or.inl rfl, k1 a p h' e fl f'.t⟩)
    have go : ∀ x, (nxt f n p = 110 ∨ nxt f n p = 99) → A_Reader_readText_53 d K (lw.length : Int) x h := fun x hm => s_Reader_readText_53 ⟨fun z => absurd (by omega) z, fun _ => hfl 4 (Or.inl rfl) (if_pos hm)⟩
    exact s_Reader_readText_24 ⟨fun z => by omega, fun _ => rNext (by omega) r ⟨fun z => go _ (Or.inl z), fun z => ⟨fun z2 => go _ (Or.inr z2), fun z2 => hfl 1 (Or.inr rfl) (if_neg (fun y => by omega))⟩⟩⟩
  | succ j ih =>
    intro lw p s h hj r hs q k1 k2
    have b := r.2.2.2.2.1
    have go : (nxt f n p = 110 ∨ nxt f n p = 99) → A_Reader_readText_53 d K (lw.length : Int) (nxt f n p) h := fun hm => by
      have hp : p < n := by
        rcases hm with z | z
        · exact nxt_lt z (by decide)
        · exact nxt_lt z (by decide)
      refine s_Reader_readText_53 ⟨fun _ => ⟨?_, ?_⟩, fun z => by omega⟩
      · rw [r.2.2.1]; exact ii (by omega)
      · rw [r.2.2.1]
        obtain ⟨r1, f1⟩ := r.on hp
        have q1 := q.of (Int.le_refl s) (fun k _ => rI_ne (show ¬ ((25 : Nat) = 4) by decide)) f1
        have e0 : pText f n (j + 1) lw p = (match pClause f n p with
          | .inl e => .inl e
          | .inr q => if n ≤ q.2 then .inr (lw ++ [q.1]) else if nxt f n q.2 = 59 then pText f n j (lw ++ [q.1]) (q.2 + 1) else .inl (1, q.2)) := by
          show (if nxt f n p = 110 ∨ nxt f n p = 99 then _ else _) = _
          rw [if_pos hm]
          rfl
        rw [e0] at k1 k2
        have ec : pClause f n p = (if (if nxt f n p = 99 then (1 : Int) else 0) ≠ 0 then (match pSum f n 6 (p + 1) with
          | .inl e => .inl e
          | .inr q => (match pCond f n q.2 with
            | .inl e => .inl e
            | .inr r => .inr ((some q.1, r.1), r.2))) else (match pCond f n (p + 1) with
          | .inl e => .inl e
          | .inr r => .inr ((none, r.1), r.2))) := by
          unfold pClause
          by_cases z : nxt f n p = 99
          · rw [if_pos z, if_pos z, if_pos (by decide)]; rfl
          · rw [if_neg z, if_neg z, if_neg (fun y => y rfl)]; rfl
        refine rClause (v := if nxt f n p = 99 then (1 : Int) else 0) (by omega) r1 (by omega) q1 (by omega) ?_
        rw [← ec]
        refine ⟨fun x y h' e fl f' => br0' (k1 x y h' (by rw [e]) fl (f1.t.trans f')), fun cl p' s' h2 e hp' hs' r2 q2 f2 => br1' ?_⟩
        have b2 := r2.2.2.2.2.1
        rw [e] at k1 k2
        rw [r2.2.2.1, r2.2.1]
        refine ⟨fun z => rPasses (by omega) r2 (by decide) (fun h3 e3 r3 u3 f3 => br1' ⟨?_, ?_⟩) (fun h3 e3 fl f3 => br0' (k1 1 p' h3 ?_ fl ((f1.t.trans f2).trans f3.t))), fun z => k2 (lw ++ [cl]) h2 (if_pos z) (q2.rep (by omega)) (f1.t.trans f2)⟩
        · exact ii (by omega)
        · have hlen : (((lw ++ [cl]).length : Nat) : Int) = lw.length + 1 := by rw [List.length_append]; rfl
          rw [← hlen]
          refine ih (lw ++ [cl]) (p' + 1) s' h3 (by rw [List.length_append]; show j + (lw.length + 1) = 12; omega) r3 (by omega) (q2.of (Int.le_refl s') (fun k _ => u3 k) f3) (fun x y h' e' fl f' => k1 x y h' ?_ fl (((f1.t.trans f2).trans f3.t).trans f')) (fun lw' h' e' rp f' => k2 lw' h' ?_ rp (((f1.t.trans f2).trans f3.t).trans f'))
          · show (if n ≤ p' then _ else _) = _
            rw [if_neg (by omega), if_pos e3]; exact e'
          · show (if n ≤ p' then _ else _) = _
            rw [if_neg (by omega), if_pos e3]; exact e'
        · show (if n ≤ p' then _ else _) = _
          rw [if_neg (by omega), if_neg e3]
    exact s_Reader_readText_24 ⟨fun z => by omega, fun _ => rNext (by omega) r ⟨fun z => go (Or.inl z), fun z => ⟨fun z2 => go (Or.inr z2), fun z2 => rFails (by omega) r (by decide) (fun h' fl f' => ⟨Or.inl rfl, k1 1 p h' (if_neg (fun y => by omega)) fl f'.t⟩)⟩⟩⟩
theorem cReadText (hd : 39 < d) {n : Int} {f : Int → Int} (tk : TakC n f h) (n0 : 1 ≤ n) (n1 : n ≤ 160) (kF : ∀ h' a b, lawOf f n = .inl (a, b) → (0 ≤ a ∧ a ≤ 9) → (0 ≤ b ∧ b ≤ 160) → h'.1 4 4 = a → h'.1 4 3 = b → Fr [25, 26, 27] [(4, 2), (4, 3), (4, 4), (5, 5), (5, 6)] h h' → K 0 h') (kT : ∀ h' lw', lawOf f n = .inr lw' → RepCLo 5 25 lw' h' → Fr [25, 26, 27] [(4, 2), (4, 3), (4, 4), (5, 5), (5, 6)] h h' → K 1 h') : Call d M_Reader_readText [vR 4 (-1), vI n] h K := by
  refine c_Reader_readText 39 hd (c_LawCode_restart 38 (by decide) ?_)
  have f0 : Fr [25, 26, 27] [(4, 2), (4, 3), (4, 4), (5, 5), (5, 6)] h (wI (wI (wI (wI (wI h 4 2 n) 4 3 0) 4 4 0) 5 5 0) 5 6 0) := ((((Fr.wI (Or.inr (by decide))).trans (Fr.wI (Or.inr (by decide)))).trans (Fr.wI (Or.inr (by decide)))).trans (Fr.wI (Or.inr (by decide)))).trans (Fr.wI (Or.inr (by decide)))
  have r0 : RdC f n 0 0 (wI (wI (wI (wI (wI h 4 2 n) 4 3 0) 4 4 0) 5 5 0) 5 6 0) := by
    refine ⟨tk.fr f0, ?_, ?_, ?_, ⟨by omega, by omega, n1⟩, Int.le_refl 0⟩
    · rw [rI_ne (by decide), rI_ne (by decide), rI_nk (by decide), rI_nk (by decide)]; exact rI_eq
    · rw [rI_ne (by decide), rI_ne (by decide), rI_nk (by decide)]; exact rI_eq
    · rw [rI_nk (by decide)]; exact rI_eq
  exact rTexts (by decide) 12 [] 0 0 _ rfl r0 (Int.le_refl 0) ⟨⟨rI_eq, by decide⟩, fun j E C hj => by cases hj⟩ (fun a b h' e fl f' => kF h' a b e fl.2.1 ⟨fl.2.2.1, by have := fl.2.2.2; omega⟩ fl.1.1 fl.1.2 (f0.trans (f'.mono (by decide) (by decide)))) (fun lw' h' e rp f' => kT h' lw' e rp (f0.trans (f'.mono (by decide) (by decide))))
end RD3

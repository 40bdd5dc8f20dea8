section OPS3
variable {c : Int} {h : AH}
theorem kStepsT {d : Nat} {c : Int} {g : G} {t : Tp} {x : Int} {lw : LW} {h : AH} {K : Int → AH → Prop} (hd : 5 < d) (i : InvC c g t x lw h) (hc : c ≤ 600) (k : ∀ h', InvC (c + 1) g t x lw h' → Fresh h' → Fr [23, 24, 33, 34, 35] [(3, 8), (3, 9), (6, 8), (6, 9), (6, 10)] h h' → Fr OC [] h h' → K 0 h') : Call d M_Steps_refresh [vR 6 (-1)] h K := by
  obtain ⟨i1, i2, i3, i4, i5, i6, i7, i8, i9⟩ := i
  have ag := i7
  unfold Ages at ag
  refine cRefresh hd i1 i4 i5 (ii (by omega)) (fun a b => (i8 a b).1) (fun l a b => k h ⟨i1, i2, i3, i4, i5, i6, i7.up (by omega), i8, i9⟩ ⟨a, b⟩ Fr.refl Fr.refl) (fun ns h' l a b e f => ?_)
  have e1 := f.f 2 9
  have e2 := f.f 3 7
  have e6 := f.f 7 14
  have e7 := f.f 7 15
  have e8 := f.f 7 16
  have e9 := f.f 8 11
  have e10 := f.f 11 8
  refine k h' ⟨i1.fr f, i2.fr f, by rw [f.f 0 10]; exact i3, i4.fr f, i5.fr f, i6.fr f, ?_, fun _ _ => ⟨l, fun z => by omega, fun z => by omega, fun z => by omega, fun z => by omega⟩, i9.fr f⟩ ⟨by rw [a, e1], by rw [b, e2]⟩ f f.c
  unfold Ages
  rw [e1, e2, e6, e7, e8, e9, e10, a, b, e]
  omega
theorem toldF {c : Int} {g : G} {t t' : Tp} {x : Int} {lw : LW} {L : List Nat} {F : List (Nat × Int)} {h h' : AH} (hx : 0 ≤ x ∧ x ≤ 65535) (m : InvM g t x lw h) (i : InvC c g t' x lw h) (f : Fr L F h h') (rt : RepMT t' h') (hL : ∀ o ∈ L, o ∈ [63, 76, 77, 78, 79, 80, 88, 89, 90, 91] := by decide) (hF : ∀ q ∈ F, q ∈ [((12 : Nat), (9 : Int)), (12, 11)] := by decide) : Inv c h' := by
  have f2 : Fr [63, 76, 77, 78, 79, 80, 88, 89, 90, 91] [((12 : Nat), (9 : Int)), (12, 11)] h h' := f.mono hL hF
  exact fin2 hx (m.own f2 rt) (i.fr f2.m)
theorem op_row (I : Inv c h) (hc : c ≤ 600) {p q : Int} : Call 60 M_L_row [vR 0 (-1), vI p, vI q] h (fun r h1 => Call 60 M_M_row [vR 12 (-1), vI p, vI q] h1 (Two c r)) := by
  obtain ⟨g, t, x, lw, hx, m, i⟩ := I
  have bad : ¬ (2 ≤ p ∧ p ≤ 10 ∧ -1 ≤ q ∧ q < p ∧ p ≤ t.1) → Call 60 M_M_row [vR 12 (-1), vI p, vI q] h (Two c (-1)) := fun hn => mRow (by decide) m.1 m.2.1 m.2.2.2 (fun _ => ⟨rfl, fin2 hx m (i.up (by omega))⟩) (fun h2 z => absurd z hn) (fun h2 y z => absurd z hn)
  refine c_L_row 59 (by decide) ⟨fun z => bad (by omega), fun p0 => ⟨fun z => bad (by omega), fun p1 => ⟨fun z => bad (by omega), fun q0 => ⟨fun z => bad (by omega), fun q1 => tTake (by decide) i.2.1 (fun _ hle h1 r1 tk f1 => br1' ?_) (fun hn => br0' (bad (by omega)))⟩⟩⟩⟩
  have W : 2 ≤ p ∧ p ≤ 10 ∧ -1 ≤ q ∧ q < p ∧ p ≤ t.1 := ⟨p0, p1, q0, q1, hle⟩
  have i1 : InvC (c + 1) g (0, t.2) x lw h1 := kTape (i.up (by omega)) f1 r1 (by rw [f1.f 0 10]; exact i.2.2.1) (by decide) (by decide)
  have no : ∀ h2, InvM g t x lw h2 → InvC (c + 1) g (0, t.2) x lw h2 → ¬ (ToldOk g t.2 p ∧ ∀ i, 0 ≤ i → i < p → us g (t.2 i)) → Call 60 M_M_row [vR 12 (-1), vI p, vI q] h2 (Two c (-3)) := fun h2 m2 i2 hn => mRow (by decide) m2.1 m2.2.1 m2.2.2.2 (fun z => absurd W z) (fun h3 _ _ rt3 f3 => ⟨rfl, toldF hx m2 i2 f3 rt3⟩) (fun h3 y _ z => absurd z hn)
  refine cReadWords (by decide) i1.1 tk (by omega) (by omega) (fun h2 to e10 tl f2 => br1 ?_) (fun h2 nt f2 => br0 (no h2 ((m.fr f1.c).fr f2.c) (kTape i1 f2 (i1.2.1.fr f2) (by rw [f2.i 0]; exact i1.2.2.1) (by decide) (by decide)) (fun z => nt z.1)))
  have m2 := (m.fr f1.c).fr f2.c
  have i2 : InvC (c + 1) g (0, t.2) x lw h2 := kTape i1 f2 (i1.2.1.fr f2) (by rw [f2.i 0]; exact i1.2.2.1) (by decide) (by decide)
  refine cAreUsed (by decide) i2.1 e10 (by omega) (by omega) to tl (fun ua => br1' ?_) (fun nu => br0' (no h2 m2 i2 (fun z => nu z.2)))
  have ag := i.2.2.2.2.2.2.1
  unfold Ages at ag
  -- the steps
  have i2' : InvC c g (0, t.2) x lw h2 := kTape (kTape (x' := x) i f1 r1 (by rw [f1.f 0 10]; exact i.2.2.1) (by decide) (by decide)) f2 (r1.fr f2) (by rw [f2.i 0, f1.f 0 10]; exact i.2.2.1) (by decide) (by decide)
  refine kStepsT (by decide) i2' hc (fun h3 i3 fr3 fe f3 => ?_)
  have m3 := m2.fr f3
  have e10' : h3.1 10 10 = p := by rw [fe.i 10]; exact e10
  have tl' : ∀ i, 0 ≤ i → i < p → h3.1 48 i = t.2 i := fun i i0 i1 => by rw [fe.i 48]; exact tl i i0 i1
  have go : ∀ r h4, InvM g t x lw h4 → InvC (c + 1) g (0, t.2) x lw h4 → RowA (eW g lw) (sO t.2 p 0) q r → Call 60 M_M_row [vR 12 (-1), vI p, vI q] h4 (Two c r) := fun r h4 m4 i4 hr => mRow (by decide) m4.1 m4.2.1 m4.2.2.2 (fun z => absurd W z) (fun h5 _ z => absurd ⟨to, ua⟩ z) (fun h5 y _ _ hy rt5 f5 => ⟨hr.uniq hy, toldF hx m4 i4 f5 rt5⟩)
  refine cFindRow (by decide) i3.1 (i3.laid fr3) e10' (by omega) p1 to tl' (fun h4 qq sq rT hlt f4 => br1' ?_) (fun h4 hn f4 => br0' ?_)
  · have m4 := m3.fr f4.c
    have i4 : InvC (c + 1) g (0, t.2) x lw h4 := kTape i3 f4 (i3.2.1.fr f4) (by rw [f4.f 0 10]; exact i3.2.2.1) (by decide) (by decide)
    have rl := rT.2.2.2.2
    rw [sq.set] at rl
    rcases rl with ⟨z, _⟩ | ⟨z1, z2, z3⟩
    · omega
    · refine ⟨fun hq => cRowWord (by decide) sq (fun i i0 i1 => ?_) rT (by omega) p1 hlt (by omega) q1 (go _ h4 m4 i4 (Or.inr ⟨⟨_, z2, z3, fun z => absurd z hq⟩, fun _ => ?_⟩)), fun hq => go _ h4 m4 i4 (Or.inr ⟨⟨_, z2, z3, fun _ => rfl⟩, fun z => absurd hq z⟩)⟩
      · obtain ⟨j, j0, j1, e⟩ := sq.1 i i0 i1
        rw [e]; exact (to j j0 j1).1.1
      · rw [sq.set]
  · have m4 := m3.fr f4.c
    have i4 : InvC (c + 1) g (0, t.2) x lw h4 := kTape i3 f4 (i3.2.1.fr f4) (by rw [f4.f 0 10]; exact i3.2.2.1) (by decide) (by decide)
    exact go _ h4 m4 i4 (Or.inl ⟨hn, rfl⟩)
theorem op_game (I : Inv c h) (hc : c ≤ 600) {p q : Int} : Call 60 M_L_game [vR 0 (-1), vI p, vI q] h (fun r h1 => Call 60 M_M_game [vR 12 (-1), vI p, vI q] h1 (Two c r)) := by
  obtain ⟨g, t, x, lw, hx, m, i⟩ := I
  have bad : ¬ (2 ≤ p ∧ p ≤ 12 ∧ 0 ≤ q ∧ q ≤ 1 ∧ p ≤ t.1) → Call 60 M_M_game [vR 12 (-1), vI p, vI q] h (Two c (-1)) := fun hn => mGame (by decide) m.1 m.2.1 m.2.2.2 (fun _ => ⟨rfl, fin2 hx m (i.up (by omega))⟩) (fun h2 z => absurd z hn) (fun h2 y z => absurd z hn)
  refine c_L_game 59 (by decide) ⟨fun z => bad (by omega), fun p0 => ⟨fun z => bad (by omega), fun p1 => ⟨fun z => bad (by omega), fun q0 => ⟨fun z => bad (by omega), fun q1 => tTake (by decide) i.2.1 (fun _ hle h1 r1 tk f1 => br1' ?_) (fun hn => br0' (bad (by omega)))⟩⟩⟩⟩
  have W : 2 ≤ p ∧ p ≤ 12 ∧ 0 ≤ q ∧ q ≤ 1 ∧ p ≤ t.1 := ⟨p0, p1, q0, q1, hle⟩
  have i1 : InvC (c + 1) g (0, t.2) x lw h1 := kTape (i.up (by omega)) f1 r1 (by rw [f1.f 0 10]; exact i.2.2.1) (by decide) (by decide)
  have no : ∀ h2, InvM g t x lw h2 → InvC (c + 1) g (0, t.2) x lw h2 → ¬ (ToldOk g t.2 p ∧ ∀ i, 0 ≤ i → i < p → us g (t.2 i)) → Call 60 M_M_game [vR 12 (-1), vI p, vI q] h2 (Two c (-3)) := fun h2 m2 i2 hn => mGame (by decide) m2.1 m2.2.1 m2.2.2.2 (fun z => absurd W z) (fun h3 _ _ rt3 f3 => ⟨rfl, toldF hx m2 i2 f3 rt3⟩) (fun h3 y _ z => absurd z hn)
  refine cReadWords (by decide) i1.1 tk (by omega) (by omega) (fun h2 to e10 tl f2 => br1 ?_) (fun h2 nt f2 => br0 (no h2 ((m.fr f1.c).fr f2.c) (kTape i1 f2 (i1.2.1.fr f2) (by rw [f2.i 0]; exact i1.2.2.1) (by decide) (by decide)) (fun z => nt z.1)))
  have m2 := (m.fr f1.c).fr f2.c
  have i2 : InvC (c + 1) g (0, t.2) x lw h2 := kTape i1 f2 (i1.2.1.fr f2) (by rw [f2.i 0]; exact i1.2.2.1) (by decide) (by decide)
  refine cAreUsed (by decide) i2.1 e10 (by omega) (by omega) to tl (fun ua => br1' ?_) (fun nu => br0' (no h2 m2 i2 (fun z => nu z.2)))
  have i2' : InvC c g (0, t.2) x lw h2 := kTape (kTape (x' := x) i f1 r1 (by rw [f1.f 0 10]; exact i.2.2.1) (by decide) (by decide)) f2 (r1.fr f2) (by rw [f2.i 0, f1.f 0 10]; exact i.2.2.1) (by decide) (by decide)
  refine kStepsT (by decide) i2' hc (fun h3 i3 fr3 fe f3 => ?_)
  have m3 := m2.fr f3
  have e10' : h3.1 10 10 = p := by rw [fe.i 10]; exact e10
  have tl' : ∀ i, 0 ≤ i → i < p → h3.1 48 i = t.2 i := fun i i0 i1 => by rw [fe.i 48]; exact tl i i0 i1
  have go : ∀ r h4, InvM g t x lw h4 → InvC (c + 1) g (0, t.2) x lw h4 → GameA (eW g lw) t.2 p.toNat q r → Call 60 M_M_game [vR 12 (-1), vI p, vI q] h4 (Two c r) := fun r h4 m4 i4 hr => mGame (by decide) m4.1 m4.2.1 m4.2.2.2 (fun z => absurd W z) (fun h5 _ z => absurd ⟨to, ua⟩ z) (fun h5 y _ _ hy rt5 f5 => ⟨hr.uniq hy, toldF hx m4 i4 f5 rt5⟩)
  refine cWinning (by decide) i3.1 (i3.laid fr3) e10' p0 p1 to tl' (fun h4 w hw f4 => ?_)
  have m4 := m3.fr f4.c
  have i4 : InvC (c + 1) g (0, t.2) x lw h4 := kTape i3 f4 (i3.2.1.fr f4) (by rw [f4.i 0]; exact i3.2.2.1) (by decide) (by decide)
  rcases hw with ⟨w1, w2⟩ | ⟨j, w1, w2, w3, w4⟩
  · refine ⟨fun hq => ⟨fun z => absurd w1 z, fun _ => go _ h4 m4 i4 (Or.inl ⟨w2, ?_⟩)⟩, fun hq => ⟨fun z => absurd w1 z, fun _ => go _ h4 m4 i4 (Or.inl ⟨w2, ?_⟩)⟩⟩
    · rw [if_pos (by omega)]
    · rw [if_neg (by omega)]
  · refine ⟨fun hq => ⟨fun _ => go _ h4 m4 i4 (Or.inr ⟨j, w1, w2, ?_⟩), fun z => by omega⟩, fun hq => ⟨fun _ => go _ h4 m4 i4 (Or.inr ⟨j, w1, w2, ?_⟩), fun z => by omega⟩⟩
    · rw [if_pos (by omega)]
    · rw [if_neg (by omega)]; exact w3
theorem op_near (I : Inv c h) (hc : c ≤ 600) {p q : Int} : Call 60 M_L_near [vR 0 (-1), vI p, vI q] h (fun r h1 => Call 60 M_M_near [vR 12 (-1), vI p, vI q] h1 (Two c r)) := by
  obtain ⟨g, t, x, lw, hx, m, i⟩ := I
  have bad : ¬ (1 ≤ p ∧ p ≤ 12 ∧ 0 ≤ q ∧ q ≤ 2 ∧ p ≤ t.1) → Call 60 M_M_near [vR 12 (-1), vI p, vI q] h (Two c (-1)) := fun hn => mNear (by decide) m.1 m.2.1 (fun _ => ⟨rfl, fin2 hx m (i.up (by omega))⟩) (fun h2 z => absurd z hn) (fun h2 _ _ _ z => absurd z hn)
  refine c_L_near 59 (by decide) ⟨fun z => bad (by omega), fun p0 => ⟨fun z => bad (by omega), fun p1 => ⟨fun z => bad (by omega), fun q0 => ⟨fun z => bad (by omega), fun q1 => tTake (by decide) i.2.1 (fun _ hle h1 r1 tk f1 => br1' ?_) (fun hn => br0' (bad (by omega)))⟩⟩⟩⟩
  have W : 1 ≤ p ∧ p ≤ 12 ∧ 0 ≤ q ∧ q ≤ 2 ∧ p ≤ t.1 := ⟨p0, p1, q0, q1, hle⟩
  have m1 := m.fr f1.c
  have i1 : InvC (c + 1) g (0, t.2) x lw h1 := kTape (i.up (by omega)) f1 r1 (by rw [f1.f 0 10]; exact i.2.2.1) (by decide) (by decide)
  have no : ((¬ ∀ i, 0 ≤ i → i < p → isLet (t.2 i)) ∨ ∀ u, 0 ≤ u → u < gn g → ¬ us g u) → Call 60 M_M_near [vR 12 (-1), vI p, vI q] h1 (Two c (-2)) := fun hn => mNear (by decide) m1.1 m1.2.1 (fun z => absurd W z) (fun h2 _ _ rt2 f2 => ⟨rfl, toldF hx m1 i1 f2 rt2⟩) (fun h2 a b c' _ al ni hb => by
    exfalso
    rcases hn with z | z
    · exact z al
    · rcases ni with ⟨n1, _⟩ | ⟨n1, n2, _⟩
      · exact hb n1
      · exact z b n1.1 n1.2 n2)
  refine ⟨fun hz => no (Or.inr ((used0 i1.1).mp hz)), fun hnz => tAllLetters (by decide) tk (fun al => br1' (cFindNearest (by decide) i1.1 tk (by omega) p1 (fun h2 ni f2 => ?_))) (fun na => br0' (no (Or.inl na)))⟩
  have m2 := m1.fr f2.c
  have i2 : InvC (c + 1) g (0, t.2) x lw h2 := kTape i1 f2 (i1.2.1.fr f2) (by rw [f2.i 0]; exact i1.2.2.1) (by decide) (by decide)
  have hb : h2.1 9 5 ≠ -1 := fun z => by
    rcases ni with ⟨_, n2⟩ | ⟨n1, _⟩
    · exact hnz ((used0 i1.1).mpr n2)
    · omega
  have go : ∀ r, r = (if q = 0 then h2.1 9 4 else if q = 1 then h2.1 9 5 else h2.1 9 6) → Call 60 M_M_near [vR 12 (-1), vI p, vI q] h2 (Two c r) := fun r hr => mNear (by decide) m2.1 m2.2.1 (fun z => absurd W z) (fun h3 _ z => by
    exfalso
    rcases z with z | z
    · exact z al
    · exact hnz ((used0 i1.1).mpr z)) (fun h3 a b c' _ _ ni' hb' rt3 f3 => ⟨by
    have u := ni.uniq ni'
    have u2 := u.2 hb
    rw [hr, u.1, u2.1, u2.2], toldF hx m2 i2 f3 rt3⟩)
  refine ⟨fun z => ⟨fun y => go _ ?_, fun y => go _ ?_⟩, fun z => go _ ?_⟩
  · rw [if_neg z, if_neg y]
  · rw [if_neg z, if_pos y]
  · rw [if_pos z]
theorem op_clear (I : Inv c h) (hc : c ≤ 600) {p y q : Int} : Call 60 M_L_clear [vR 0 (-1), vI p, vI y, vI q] h (fun r h1 => Call 60 M_M_clear [vR 12 (-1), vI p, vI y, vI q] h1 (Two c r)) := by
  obtain ⟨g, t, x, lw, hx, m, i⟩ := I
  have bad : ¬ (1 ≤ p ∧ p ≤ 14 ∧ 1 ≤ y ∧ y ≤ 9 ∧ 0 ≤ q ∧ q ≤ 1 ∧ p ≤ t.1) → Call 60 M_M_clear [vR 12 (-1), vI p, vI y, vI q] h (Two c (-1)) := fun hn => mClear (by decide) m.1 m.2.1 (fun _ => ⟨rfl, fin2 hx m (i.up (by omega))⟩) (fun h2 z => absurd z hn) (fun h2 N z => absurd z hn)
  have gd : ((if p < 1 then (0 : Int) else if 14 < p then (0 : Int) else if y < 1 then (0 : Int) else if 9 < y then (0 : Int) else if q < 0 then (0 : Int) else if 1 < q then (0 : Int) else 1) = 0 → ¬ (1 ≤ p ∧ p ≤ 14 ∧ 1 ≤ y ∧ y ≤ 9 ∧ 0 ≤ q ∧ q ≤ 1)) ∧ ((if p < 1 then (0 : Int) else if 14 < p then (0 : Int) else if y < 1 then (0 : Int) else if 9 < y then (0 : Int) else if q < 0 then (0 : Int) else if 1 < q then (0 : Int) else 1) ≠ 0 → (1 ≤ p ∧ p ≤ 14 ∧ 1 ≤ y ∧ y ≤ 9 ∧ 0 ≤ q ∧ q ≤ 1)) := by
    by_cases a1 : p < 1
    · rw [if_pos a1]; omega
    · rw [if_neg a1]
      by_cases a2 : 14 < p
      · rw [if_pos a2]; omega
      · rw [if_neg a2]
        by_cases a3 : y < 1
        · rw [if_pos a3]; omega
        · rw [if_neg a3]
          by_cases a4 : 9 < y
          · rw [if_pos a4]; omega
          · rw [if_neg a4]
            by_cases a5 : q < 0
            · rw [if_pos a5]; omega
            · rw [if_neg a5]
              by_cases a6 : 1 < q
              · rw [if_pos a6]; omega
              · rw [if_neg a6]; omega
  refine c_L_clear 59 (by decide) ⟨fun z => bad (fun w => gd.1 z ⟨w.1, w.2.1, w.2.2.1, w.2.2.2.1, w.2.2.2.2.1, w.2.2.2.2.2.1⟩), fun z => ?_⟩
  obtain ⟨p0, p1, y0, y1, q0, q1⟩ := gd.2 z
  refine tTake (by decide) i.2.1 (fun _ hle h1 r1 tk f1 => br1' ?_) (fun hn => br0' (bad (by omega)))
  have W : 1 ≤ p ∧ p ≤ 14 ∧ 1 ≤ y ∧ y ≤ 9 ∧ 0 ≤ q ∧ q ≤ 1 ∧ p ≤ t.1 := ⟨p0, p1, y0, y1, q0, q1, hle⟩
  have i1 : InvC (c + 1) g (0, t.2) x lw h1 := kTape (i.up (by omega)) f1 r1 (by rw [f1.f 0 10]; exact i.2.2.1) (by decide) (by decide)
  refine cReadWords (by decide) i1.1 tk (by omega) (by omega) (fun h2 to e10 tl f2 => br1' ?_) (fun h2 nt f2 => br0' ?_)
  · have m2 := (m.fr f1.c).fr f2.c
    have i2 : InvC (c + 1) g (0, t.2) x lw h2 := kTape i1 f2 (i1.2.1.fr f2) (by rw [f2.i 0]; exact i1.2.2.1) (by decide) (by decide)
    refine cMostApart (by decide) i2.1 e10 p0 p1 to tl (fun h3 N bs f3 => ?_)
    have m3 := m2.fr f3.c
    have i3 : InvC (c + 1) g (0, t.2) x lw h3 := kTape i2 f3 (i2.2.1.fr f3) (by rw [f3.i 0]; exact i2.2.2.1) (by decide) (by decide)
    have hA2 : 2 ^ p.toNat ≤ 16384 := pow_le_k 14 (by omega)
    have go : ∀ r, r = (if q = 0 then pop N 14 else (N : Int)) → Call 60 M_M_clear [vR 12 (-1), vI p, vI y, vI q] h3 (Two c r) := fun r hr => mClear (by decide) m3.1 m3.2.1 (fun z => absurd W z) (fun h4 _ z => absurd to z) (fun h4 N' _ _ bs' rt4 f4 => ⟨by rw [hr, bs.uniq bs'], toldF hx m3 i3 f4 rt4⟩)
    exact ⟨fun hq => go _ (by rw [if_neg hq]), fun hq => jIBit (by decide) (by have := bs.1; omega) (go _ (by rw [if_pos hq]))⟩
  · have m2 := (m.fr f1.c).fr f2.c
    have i2 : InvC (c + 1) g (0, t.2) x lw h2 := kTape i1 f2 (i1.2.1.fr f2) (by rw [f2.i 0]; exact i1.2.2.1) (by decide) (by decide)
    exact mClear (by decide) m2.1 m2.2.1 (fun z => absurd W z) (fun h3 _ _ rt3 f3 => ⟨rfl, toldF hx m2 i2 f3 rt3⟩) (fun h3 N _ to => absurd to nt)
theorem op_rubbed (I : Inv c h) (hc : c ≤ 600) {p : Int} : Call 60 M_L_rubbed [vR 0 (-1), vI p] h (fun r h1 => Call 60 M_M_rubbed [vR 12 (-1), vI p] h1 (Two c r)) := by
  obtain ⟨g, t, x, lw, hx, m, i⟩ := I
  have bad : ¬ (1 ≤ p ∧ p ≤ 8 ∧ p ≤ t.1) → Call 60 M_M_rubbed [vR 12 (-1), vI p] h (Two c (-1)) := fun hn => mRubbed (by decide) m.1 m.2.1 (fun _ => ⟨rfl, fin2 hx m (i.up (by omega))⟩) (fun h2 z => absurd z hn) (fun h2 N z => absurd z hn)
  refine c_L_rubbed 59 (by decide) ⟨fun z => bad (by omega), fun p0 => ⟨fun z => bad (by omega), fun p1 => tTake (by decide) i.2.1 (fun _ hle h1 r1 tk f1 => br1' ?_) (fun hn => br0' (bad (by omega)))⟩⟩
  have W : 1 ≤ p ∧ p ≤ 8 ∧ p ≤ t.1 := ⟨p0, p1, hle⟩
  have m1 := m.fr f1.c
  have i1 : InvC (c + 1) g (0, t.2) x lw h1 := kTape (i.up (by omega)) f1 r1 (by rw [f1.f 0 10]; exact i.2.2.1) (by decide) (by decide)
  refine tRubbed (by decide) tk (fun hr => br1 (cFitting (by decide) i1.1 tk (fun N mk => ?_))) (fun nr => br0 ?_)
  · exact mRubbed (by decide) m1.1 m1.2.1 (fun z => absurd W z) (fun h2 _ z => absurd hr z) (fun h2 N' _ _ mk' rt2 f2 => ⟨by rw [mk.uniq mk'], toldF hx m1 i1 f2 rt2⟩)
  · exact mRubbed (by decide) m1.1 m1.2.1 (fun z => absurd W z) (fun h2 _ _ rt2 f2 => ⟨rfl, toldF hx m1 i1 f2 rt2⟩) (fun h2 N' _ z => absurd z nr)
theorem op_check (I : Inv c h) (hc : c ≤ 600) {w n : Int} : Call 60 M_L_check [vR 0 (-1), vI w, vI n] h (fun r h1 => Call 60 M_M_check [vR 12 (-1), vI w, vI n] h1 (Two c r)) := by
  obtain ⟨g, t, x, lw, hx, m, i⟩ := I
  have nb := i.1.ok.nb
  have bad : ¬ ((0 ≤ w ∧ w < gn g) ∧ (0 ≤ n ∧ n ≤ 8) ∧ 4 * n ≤ t.1) → Call 60 M_M_check [vR 12 (-1), vI w, vI n] h (Two c (-2)) := fun hn => mCheck (by decide) m.1 m.2.1 (fun _ => ⟨rfl, fin2 hx m (i.up (by omega))⟩) (fun h2 y z => absurd z hn)
  refine c_L_check 59 (by decide) (wHas (by decide) i.1 (fun w0 w1 => br1 ⟨fun z => bad (by omega), fun n0 => ⟨fun z => bad (by omega), fun n1 => ⟨ii (by omega), tTake (by decide) i.2.1 (fun _ hle h1 r1 tk f1 => br1' ⟨ib (by omega), ?_⟩) (fun hn => br0' (bad (by omega)))⟩⟩⟩) (fun hn => br0 (bad (fun z => hn z.1))))
  have W : (0 ≤ w ∧ w < gn g) ∧ (0 ≤ n ∧ n ≤ 8) ∧ 4 * n ≤ t.1 := ⟨⟨w0, w1⟩, ⟨n0, n1⟩, hle⟩
  have m1 := m.fr f1.c
  have i1 : InvC (c + 1) g (0, t.2) x lw h1 := kTape (i.up (by omega)) f1 r1 (by rw [f1.f 0 10]; exact i.2.2.1) (by decide) (by decide)
  have lb := i1.1.ok.lb w0 w1
  rw [i1.1.1.l w0 w1]
  have go : ∀ r, CheckA g t.2 w n r → Call 60 M_M_check [vR 12 (-1), vI w, vI n] h1 (Two c r) := fun r hr => mCheck (by decide) m1.1 m1.2.1 (fun z => absurd W z) (fun h2 y _ hy rt2 f2 => ⟨hr.uniq hy, toldF hx m1 i1 f2 rt2⟩)
  have fin : (∀ j, 0 ≤ j → j < n → j < gl g w → nm4 t.2 j 4 = gt g w j) → A_L_check_95 59 (fun r h1 => Call 60 M_M_check [vR 12 (-1), vI w, vI n] h1 (Two c r)) n (gl g w) h1 := fun s => s_L_check_95 ⟨fun z => ⟨by decide, go _ (Or.inr ⟨s, by rw [if_neg z]⟩)⟩, fun z => go _ (Or.inr ⟨s, by rw [if_pos z]⟩)⟩
  have key : ∀ k : Nat, ∀ v4 : Int, 0 ≤ v4 → v4 ≤ n → v4 ≤ gl g w → n - v4 < k → (∀ j, 0 ≤ j → j < v4 → nm4 t.2 j 4 = gt g w j) → A_L_check_50 59 (fun r h1 => Call 60 M_M_check [vR 12 (-1), vI w, vI n] h1 (Two c r)) w n (gl g w) v4 h1 := by
    intro k
    induction k with
    | zero => intro v4 x1 x2 x3 e; omega
    | succ k ih =>
      intro v4 x1 x2 x3 e s
      refine s_L_check_50 ⟨fun z => fin (fun j j0 j1 j2 => s j j0 (by omega)), fun z => ⟨fun z2 => fin (fun j j0 j1 j2 => s j j0 (by omega)), fun z2 => tNumber (by decide) tk x1 (by omega) ⟨ib (by omega), ib (by omega), ?_⟩⟩⟩
      rw [i1.1.1.t w0 w1 x1 z2]
      refine ⟨fun y => ⟨ii (by omega), ih (v4 + 1) (by omega) (by omega) (by omega) (by omega) (fun j j0 j1 => ?_)⟩, fun y => go _ (Or.inl ⟨v4, ⟨x1, z, z2⟩, y, s, rfl⟩)⟩
      by_cases u : j = v4
      · rw [u]; exact y
      · exact s j j0 (by omega)
  exact key 10 0 (by decide) n0 (by omega) (by omega) (fun j j0 j1 => by omega)
/-- r is the answer of count -/
def CountA (g : G) (t : Tp) (x : Int) (lw : LW) (p r : Int) : Prop := (p = 0 ∧ r = gn g) ∨ (p = 1 ∧ r = cnt (us g) (gn g).toNat) ∨ (p = 2 ∧ r = (lw.length : Int)) ∨ (p = 3 ∧ r = t.1) ∨ (p = 4 ∧ r = x) ∨ (p = 5 ∧ r = gs g) ∨ (20 ≤ p ∧ p < 60 ∧ p - 20 < gn g ∧ r = gl g (p - 20)) ∨ (60 ≤ p ∧ p < 100 ∧ p - 60 < gn g ∧ r = gk g (p - 60)) ∨ (100 ≤ p ∧ p - 100 < gn g ∧ us g (p - 100) ∧ r = 1) ∨ (100 ≤ p ∧ p - 100 < gn g ∧ ¬ us g (p - 100) ∧ r = 0) ∨ ((p < 0 ∨ 5 < p) ∧ ¬ (20 ≤ p ∧ p < 60 ∧ p - 20 < gn g) ∧ ¬ (60 ≤ p ∧ p < 100 ∧ p - 60 < gn g) ∧ ¬ (100 ≤ p ∧ p - 100 < gn g) ∧ r = -1)
theorem CountA.uniq {g : G} {t : Tp} {x : Int} {lw : LW} {p r r' : Int} (h : CountA g t x lw p r) (k : CountA g t x lw p r') : r = r' := by
  rcases h with h | h | h | h | h | h | h | h | h | h | h <;> rcases k with k | k | k | k | k | k | k | k | k | k | k <;> first | omega | exact absurd h.2.2.1 k.2.2.1 | exact absurd k.2.2.1 h.2.2.1
theorem op_count (I : Inv c h) (hc : c ≤ 600) {p : Int} (hp : inI p) : Call 60 M_L_count [vR 0 (-1), vI p] h (fun r h1 => Call 60 M_M_count [vR 12 (-1), vI p] h1 (Two c r)) := by
  obtain ⟨g, t, x, lw, hx, m, i⟩ := I
  have nb := i.1.ok.nb
  have e1 := m.1.n
  have e2 := m.1.s
  have e3 := m.2.1.2.1
  have e4 := m.2.2.1
  have e5 := m.2.2.2.1.1
  have go : ∀ r, CountA g t x lw p r → Call 60 M_M_count [vR 12 (-1), vI p] h (Two c r) := by
    intro r hr
    have fin : ∀ r', CountA g t x lw p r' → Two c r r' h := fun r' hr' => ⟨hr.uniq hr', fin2 hx m (i.up (by omega))⟩
    refine c_M_count 59 (by decide) ⟨fun z => fin _ ?_, fun z => mUsedMany (by decide) m.1 (fin _ ?_), fun z => fin _ ?_, fun z => fin _ ?_, fun z => fin _ ?_, fun z => fin _ ?_, fun z => ?_⟩
    · rw [e1]; exact Or.inl ⟨z, rfl⟩
    · exact Or.inr (Or.inl ⟨z, rfl⟩)
    · rw [e5]; exact Or.inr (Or.inr (Or.inl ⟨z, rfl⟩))
    · rw [e3]; exact Or.inr (Or.inr (Or.inr (Or.inl ⟨z, rfl⟩)))
    · rw [e4]; exact Or.inr (Or.inr (Or.inr (Or.inr (Or.inl ⟨z, rfl⟩))))
    · rw [e2]; exact Or.inr (Or.inr (Or.inr (Or.inr (Or.inr (Or.inl ⟨z, rfl⟩)))))
    · rw [e1]
      refine ⟨ii (by omega), mIn (by decide) (fun a b => br1 ⟨ii (by omega), ib (by omega), ?_⟩) (fun n1 => br0 ?_)⟩
      · rw [m.1.l (by omega) (by omega)]
        exact fin _ (Or.inr (Or.inr (Or.inr (Or.inr (Or.inr (Or.inr (Or.inl ⟨by omega, by omega, by omega, rfl⟩)))))))
      · rw [e1]
        refine ⟨ii (by omega), mIn (by decide) (fun a b => br1 ⟨ii (by omega), ib (by omega), ?_⟩) (fun n2 => br0 ?_)⟩
        · rw [m.1.k (by omega) (by omega)]
          exact fin _ (Or.inr (Or.inr (Or.inr (Or.inr (Or.inr (Or.inr (Or.inr (Or.inl ⟨by omega, by omega, by omega, rfl⟩))))))))
        · rw [e1]
          refine ⟨ii (by omega), mIn (by decide) (fun a b => br1 ⟨ii (by have := hp.2; omega), mIsUsed (by decide) m.1 (by omega) (by omega) (fun hu => br1 (fin _ ?_)) (fun hn => br0 (fin _ ?_))⟩) (fun n3 => br0 (fin _ ?_))⟩
          · exact Or.inr (Or.inr (Or.inr (Or.inr (Or.inr (Or.inr (Or.inr (Or.inr (Or.inl ⟨by omega, by omega, hu, rfl⟩))))))))
          · exact Or.inr (Or.inr (Or.inr (Or.inr (Or.inr (Or.inr (Or.inr (Or.inr (Or.inr (Or.inl ⟨by omega, by omega, hn, rfl⟩)))))))))
          · exact Or.inr (Or.inr (Or.inr (Or.inr (Or.inr (Or.inr (Or.inr (Or.inr (Or.inr (Or.inr ⟨z, by omega, by omega, by omega, rfl⟩)))))))))
  obtain ⟨⟨i1, U, hU, eU⟩, i2, i3, i4, -⟩ := i
  have rW : RepCW g h := ⟨i1, U, hU, eU⟩
  have a1 := hp.1
  have a2 := hp.2
  refine c_L_count 59 (by decide) ⟨fun z => go _ ?_, fun z => ?_, fun z => go _ ?_, fun z => go _ ?_, fun z => go _ ?_, fun z => go _ ?_, fun z => c_L_countOfWord 58 (by decide) ?_⟩
  · rw [i1.2.1.1]; exact Or.inl ⟨z, rfl⟩
  · rw [eU]
    refine jLBit (by decide) hU.1 (go _ ?_)
    rw [used_pop i1.1 hU]
    exact Or.inr (Or.inl ⟨z, rfl⟩)
  · rw [i4.1.1]; exact Or.inr (Or.inr (Or.inl ⟨z, rfl⟩))
  · rw [i2.2.1]; exact Or.inr (Or.inr (Or.inr (Or.inl ⟨z, rfl⟩)))
  · rw [i3]; exact Or.inr (Or.inr (Or.inr (Or.inr (Or.inl ⟨z, rfl⟩))))
  · rw [i1.2.1.2]; exact Or.inr (Or.inr (Or.inr (Or.inr (Or.inr (Or.inl ⟨z, rfl⟩)))))
  · have none' : ¬ (20 ≤ p ∧ p < 60 ∧ p - 20 < gn g) → ¬ (60 ≤ p ∧ p < 100 ∧ p - 60 < gn g) → ¬ (100 ≤ p ∧ p - 100 < gn g) → CountA g t x lw p (-1) := fun n1 n2 n3 => Or.inr (Or.inr (Or.inr (Or.inr (Or.inr (Or.inr (Or.inr (Or.inr (Or.inr (Or.inr ⟨z, n1, n2, n3, rfl⟩)))))))))
    have c86 : (p < 60 → ¬ (20 ≤ p ∧ p < 60 ∧ p - 20 < gn g)) → (p < 60 ∨ 100 ≤ p) → A_L_countOfWord_86 58 (fun r4 h3 => Call 60 M_M_count [vR 12 (-1), vI p] h3 (Two c r4)) p h := fun n1 n2 => s_L_countOfWord_86 ⟨fun y => go _ (none' (by omega) (by omega) (by omega)), fun y => ⟨ii (by omega), wHas (by decide) rW (fun b0 b1 => br1' (wIsUsed (by decide) rW (fun _ _ hu => br1 (go _ ?_)) (fun hn => br0 (go _ ?_)))) (fun hn => br0' (go _ (none' (by omega) (by omega) (by omega))))⟩⟩
    · have c43 : (p < 20 ∨ 60 ≤ p) → A_L_countOfWord_43 58 (fun r4 h3 => Call 60 M_M_count [vR 12 (-1), vI p] h3 (Two c r4)) p h := fun n1 => s_L_countOfWord_43 ⟨fun y => c86 (by omega) (by omega), fun y => ⟨fun y2 => c86 (by omega) (by omega), fun y2 => ⟨ii (by omega), wHas (by decide) rW (fun b0 b1 => br1 ⟨ib (by omega), ?_⟩) (fun hn => br0 (go _ (none' (by omega) (by omega) (by omega))))⟩⟩⟩
      · refine ⟨fun y => c43 (by omega), fun y => ⟨fun y2 => c43 (by omega), fun y2 => ⟨ii (by omega), wHas (by decide) rW (fun b0 b1 => br1 ⟨ib (by omega), ?_⟩) (fun hn => br0 (go _ (none' (by omega) (by omega) (by omega))))⟩⟩⟩
        rw [i1.l b0 b1]
        exact go _ (Or.inr (Or.inr (Or.inr (Or.inr (Or.inr (Or.inr (Or.inl ⟨by omega, by omega, b1, rfl⟩)))))))
      · rw [i1.k b0 b1]
        exact go _ (Or.inr (Or.inr (Or.inr (Or.inr (Or.inr (Or.inr (Or.inr (Or.inl ⟨by omega, by omega, b1, rfl⟩))))))))
    · exact Or.inr (Or.inr (Or.inr (Or.inr (Or.inr (Or.inr (Or.inr (Or.inr (Or.inl ⟨y, b1, hu, rfl⟩))))))))
    · exact Or.inr (Or.inr (Or.inr (Or.inr (Or.inr (Or.inr (Or.inr (Or.inr (Or.inr (Or.inl ⟨y, b1, fun u => hn ⟨b0, b1, u⟩, rfl⟩)))))))))
theorem op_newWord (I : Inv c h) (hc : c ≤ 600) {q : Int} : Call 60 M_L_newWord [vR 0 (-1), vI q] h (fun r h1 => Call 60 M_M_newWord [vR 12 (-1), vI q] h1 (Two c r)) := by
  obtain ⟨g, t, x, lw, hx, m, i⟩ := I
  have bad : ¬ ((0 ≤ q ∧ q ≤ 2) ∨ (10 ≤ q ∧ q ≤ 17)) → Call 60 M_M_newWord [vR 12 (-1), vI q] h (Two c (-1)) := fun hn => mNewWord (by decide) m.1 m.2.2.2 (fun _ => ⟨rfl, fin2 hx m (i.up (by omega))⟩) (fun h2 y z => absurd z hn)
  have main : ∀ v2 : Int, ((0 ≤ q ∧ q ≤ 2) ∨ (10 ≤ q ∧ q ≤ 17)) → (v2 = 0 ↔ q ≤ 2) → A_L_newWord_33 59 (fun r h1 => Call 60 M_M_newWord [vR 12 (-1), vI q] h1 (Two c r)) q v2 h := by
    intro v2 W hv
    refine s_L_newWord_33 ⟨fun hne => kSteps (by decide) i hc (fun h1 i1 fr1 f1 => kReach (by decide) i1 fr1 (fun h2 i2 fr2 w2 _ f2 => kNew (by decide) i2 fr2 w2 (fun h3 i3 nc f3 => ?_))), fun hz => mNewWord (by decide) m.1 m.2.2.2 (fun z => absurd W z) (fun h2 y _ hy f2 => ⟨NewA.uniq W (Or.inl ⟨(used0 i.1).mp hz, rfl⟩) hy, ask hx m (i.up (by omega)) f2⟩)⟩
    have m3 := ((m.fr f1).fr f2).fr f3
    have ex : ∃ w, 0 ≤ w ∧ w < gn g ∧ us g w := by
      apply Classical.byContradiction
      intro hn
      exact hne ((used0 i.1).mpr (fun w w0 w1 hu => hn ⟨w, w0, w1, hu⟩))
    obtain ⟨n, f, hb, e8, e9, e10⟩ := nc ex
    have n18 := hb.1.1
    have hf := hb.1.2.1
    have go : ∀ r, r = (if q = 0 then jH g lw n f else if q = 1 then jW g n f else if q = 2 then n else if q - 10 < n then f (q - 10) else -1) → Call 60 M_M_newWord [vR 12 (-1), vI q] h3 (Two c r) := fun r hr => mNewWord (by decide) m3.1 m3.2.2.2 (fun z => absurd W z) (fun h4 y _ hy f4 => ⟨NewA.uniq W (Or.inr ⟨n, f, hb, hr⟩) hy, ask hx m3 i3 f4⟩)
    refine ⟨fun z => ⟨fun y => ⟨fun u => ?_, fun u => go _ ?_⟩, fun y => go _ ?_⟩, fun z => ⟨ii (by omega), c_NewWords_letterAt 58 (by decide) ?_⟩⟩
    · rw [e10]
      refine jLen (by decide) (by omega) hf (go _ ?_)
      rw [if_neg y, if_neg u, if_pos (by have := hv.mp z; omega)]
      omega
    · rw [if_neg y, if_pos u]; exact e9
    · rw [if_pos y]; exact e8
    · rw [e10]
      refine jLen (by decide) (by omega) hf ⟨fun u => go _ ?_, fun u => ?_⟩
      · rw [if_neg (by omega), if_neg (by omega), if_neg (by omega), if_neg (by omega)]
      · rw [e10]
        refine jLetter (by decide) (by omega) hf (by omega) u (go _ ?_)
        rw [if_neg (by omega), if_neg (by omega), if_neg (by omega), if_pos (by omega)]
  refine c_L_newWord 59 (by decide) ?_
  by_cases a1 : q < 10
  · rw [if_pos a1]
    refine ⟨fun z => absurd rfl z, fun _ => ⟨fun z => bad (by omega), fun q0 => ⟨fun q1 => main 0 (by omega) (by omega), fun z => bad (by omega)⟩⟩⟩
  · rw [if_neg a1]
    by_cases a2 : 18 ≤ q
    · rw [if_pos a2]
      exact ⟨fun z => absurd rfl z, fun _ => ⟨fun z => bad (by omega), fun q0 => ⟨fun q1 => by omega, fun z => bad (by omega)⟩⟩⟩
    · rw [if_neg a2]
      exact ⟨fun _ => main 1 (by omega) (by omega), fun z => absurd z (by decide)⟩
end OPS3

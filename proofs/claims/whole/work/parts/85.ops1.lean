/-! the calls, one after the other: first on the class, then on the reference -/
/-- both answers are the same, and all holds on -/
def Two (c : Int) (r : Int) : Int → AH → Prop := fun r' h2 => r = r' ∧ Inv (c + 1) h2
section OPS1
variable {c : Int} {h : AH}
theorem fin2 {c : Int} {g : G} {t : Tp} {x : Int} {lw : LW} {h : AH} (hx : 0 ≤ x ∧ x ≤ 65535) (m : InvM g t x lw h) (i : InvC c g t x lw h) : Inv c h := ⟨g, t, x, lw, hx, m, i⟩
/-- the reference's own frame -/
theorem InvM.own {g : G} {t t' : Tp} {x : Int} {lw : LW} {L : List Nat} {F : List (Nat × Int)} {h h' : AH} (i : InvM g t x lw h) (f : Fr L F h h') (rt : RepMT t' h') (h1 : (∀ o ∈ [12, 58, 59, 60, 61, 62, 71, 72, 73, 74, 75], o ∉ L) := by decide) (h2 : (∀ o ∈ [58, 59, 60, 61, 62, 71, 72, 73, 74, 75], o ∉ F.map Prod.fst) := by decide) (h3 : (∀ q ∈ [((12 : Nat), (0 : Int)), (12, 1), (12, 2), (12, 20)], q ∉ F) := by decide) : InvM g t' x lw h' := ⟨i.1.fr f (fun o ho => h1 o (by revert ho; revert o; decide)) (fun o ho => h2 o (by revert ho; revert o; decide)) (fun q hq => h3 q (by revert hq; revert q; decide)), rt, by rw [f.f 12 1 (h1 _ (by decide)) (h3 _ (by decide))]; exact i.2.2.1, i.2.2.2.fr f (fun o ho => h1 o (by revert ho; revert o; decide)) (fun o ho => h2 o (by revert ho; revert o; decide)) (h3 _ (by decide))⟩
theorem op_feed (I : Inv c h) (hc : c ≤ 600) {a b e f q : Int} (ha : inI a) (hb : inI b) (he : inI e) (hf : inI f) (hq : inI q) : Call 60 M_L_feed [vR 0 (-1), vI a, vI b, vI e, vI f, vI q] h (fun r h1 => Call 60 M_M_feed [vR 12 (-1), vI a, vI b, vI e, vI f, vI q] h1 (Two c r)) := by
  obtain ⟨g, t, x, lw, hx, m, i⟩ := I
  refine c_L_feed 59 (by decide) (tHasRoom (by decide) i.2.1 (fun hr => br1' ?_) (fun hn => br0' (mFeed (by decide) ha hb he hf hq m.2.1 (fun hr => absurd hr hn) (fun _ => ⟨rfl, fin2 hx m (i.up (by omega))⟩))))
  refine tPut (by decide) ha i.2.1 (by omega) (fun h1 r1 f1 => tPut (by decide) hb r1 (by show t.1 + 4 + 4 ≤ 200; omega) (fun h2 r2 f2 => tPut (by decide) he r2 (by show t.1 + 4 + 4 + 4 ≤ 200; omega) (fun h3 r3 f3 => tPut (by decide) hf r3 (by show t.1 + 4 + 4 + 4 + 4 ≤ 200; omega) (fun h4 r4 f4 => tPut (by decide) hq r4 (by show t.1 + 4 + 4 + 4 + 4 + 4 ≤ 200; omega) (fun h5 r5 f5 => ?_)))))
  have fa := (((f1.trans f2).trans f3).trans f4).trans f5
  have m5 := m.fr fa.c
  have i5 : InvC (c + 1) g (fed5 t a b e f q) x lw h5 := kTape (i.up (by omega)) fa r5 (by rw [fa.f 0 10]; exact i.2.2.1) (by decide) (by decide)
  rw [r5.2.1]
  refine mFeed (by decide) ha hb he hf hq m5.2.1 (fun _ h6 r6 f6 => ⟨?_, fin2 hx (m5.own f6 r6) (i5.fr f6.m)⟩) (fun hn => absurd hr hn)
  show t.1 + 4 + 4 + 4 + 4 + 4 = t.1 + 20
  omega
theorem lKnown {d : Nat} {K : Int → AH → Prop} (hd : 0 < d) {n : Int} (kT : 0 ≤ n → n ≤ 99 → K 1 h) (kF : ¬ (0 ≤ n ∧ n ≤ 99) → K 0 h) : Call d M_L_isKnownLevel [vI n] h K :=
  c_L_isKnownLevel 0 hd ⟨fun z => kF (by omega), fun z => ⟨fun y => kF (by omega), fun y => kT z y⟩⟩
theorem kuUp {g : G} {p n o : Int} {f : Int → Int} {h : AH} (k : KUpTo g (gn g) h) : KUpTo (gAdd g p f n o) (gn (gAdd g p f n o) - 1) h := fun a b a0 a1 b0 b1 => by
  have a1 : a < gn g + 1 - 1 := a1
  have b1 : b < gn g + 1 - 1 := b1
  have e1 : gl (gAdd g p f n o) a = gl g a := if_neg (by omega)
  have e2 : gl (gAdd g p f n o) b = gl g b := if_neg (by omega)
  have e3 : gt (gAdd g p f n o) a = gt g a := if_neg (by omega)
  have e4 : gt (gAdd g p f n o) b = gt g b := if_neg (by omega)
  exact (k a b a0 (by omega) b0 (by omega)).congr e1 e2 (fun i _ _ => by rw [e3]) (fun i _ _ => by rw [e4])
theorem op_word (I : Inv c h) (hc : c ≤ 600) {p n o : Int} : Call 60 M_L_word [vR 0 (-1), vI p, vI n, vI o] h (fun r h1 => Call 60 M_M_word [vR 12 (-1), vI p, vI n, vI o] h1 (Two c r)) := by
  obtain ⟨g, t, x, lw, hx, m, i⟩ := I
  have nb := i.1.ok.nb
  have ag := i.2.2.2.2.2.2.1
  unfold Ages at ag
  have bad : ¬ ((1 ≤ p ∧ p ≤ 8) ∧ (0 ≤ n ∧ n ≤ 99) ∧ (1 ≤ o ∧ o ≤ 15) ∧ gn g < 40 ∧ p ≤ t.1) → Call 60 M_M_word [vR 12 (-1), vI p, vI n, vI o] h (Two c (-1)) := fun hn => mWord (by decide) m.1 m.2.1 (fun _ => ⟨rfl, fin2 hx m (i.up (by omega))⟩) (fun h' w => absurd w hn) (fun h' w => absurd w hn)
  have no : ¬ ((1 ≤ p ∧ p ≤ 8) ∧ (0 ≤ n ∧ n ≤ 99) ∧ (1 ≤ o ∧ o ≤ 15)) → A_L_word_33 59 (fun r h1 => Call 60 M_M_word [vR 12 (-1), vI p, vI n, vI o] h1 (Two c r)) p n o h := fun hn => s_L_word_33 (s_L_word_34 ⟨fun _ => bad (fun z => hn ⟨z.1, z.2.1, z.2.2.1⟩), fun z => absurd rfl z⟩)
  refine c_L_word 59 (by decide) ⟨fun z => no (by omega), fun p0 => ⟨fun z => no (by omega), fun p1 => lKnown (by decide) (fun n0 n1 => br1 ⟨fun z => no (by omega), fun o0 => ⟨fun z => no (by omega), fun o1 => s_L_word_34 ⟨fun z => absurd z (by decide), fun _ => ?_⟩⟩⟩) (fun hn => br0 (no (fun z => hn z.2.1)))⟩⟩
  rw [i.1.n]
  refine ⟨fun z => bad (by omega), fun hlt => tTake (by decide) i.2.1 (fun _ hle h1 r1 tk f1 => br1' ?_) (fun hn => br0' (bad (by omega)))⟩
  have W : (1 ≤ p ∧ p ≤ 8) ∧ (0 ≤ n ∧ n ≤ 99) ∧ (1 ≤ o ∧ o ≤ 15) ∧ gn g < 40 ∧ p ≤ t.1 := ⟨⟨p0, p1⟩, ⟨n0, n1⟩, ⟨o0, o1⟩, hlt, hle⟩
  have m1 := m.fr f1.c
  have i1 : InvC (c + 1) g (0, t.2) x lw h1 := kTape (i.up (by omega)) f1 r1 (by rw [f1.f 0 10]; exact i.2.2.1) (by decide) (by decide)
  refine tAllLetters (by decide) tk (fun al => br1' ?_) (fun na => br0' ?_)
  · refine cTakenKey (by decide) tk (by omega) p1 al ?_
    have hf : okF (fun i => t.2 i - 97) p.toNat := fun j j0 j1 => by
      have := al j j0 (by omega)
      unfold isLet at this
      show 0 ≤ t.2 j - 97 ∧ t.2 j - 97 ≤ 25
      omega
    refine wHolds (by decide) i1.1 (fun ex => br1 ?_) (fun nex => br0 ?_)
    · obtain ⟨w, w0, w1, w2⟩ := ex
      have sm := (same_key i1.1.ok (by omega) p1 hf w0 w1).mpr w2
      exact mWord (by decide) m1.1 m1.2.1 (fun z => absurd W z) (fun h2 _ _ rt2 f2 r2 => ⟨rfl, fin2 hx ⟨r2, rt2, by rw [f2.f 12 1]; exact m1.2.2.1, m1.2.2.2.fr f2⟩ (i1.fr f2.m)⟩) (fun h2 _ _ ns => absurd sm (ns w w0 w1))
    · have e9 : h1.1 2 9 = h.1 2 9 := by rw [f1.f 2 9]
      refine cAdd (by decide) i1.1 hlt W.1 W.2.1 W.2.2.1 hf (ii (by omega)) (fun h2 r2 a2 f2 => ?_)
      refine cJoinLast (by decide) r2.1 (by show 1 ≤ gn g + 1; omega) (kuUp (i1.2.2.2.2.1.fr f2)) (fun h3 ku f3 => ?_)
      have fa : Fr [14, 15, 16, 17, 18, 19, 30, 31, 32] [(1, 1), (1, 2), (2, 6), (2, 7), (2, 8), (2, 9)] h h3 := ((f1.mono (by decide) (by decide)).trans (f2.mono (by decide) (by decide))).trans (f3.mono (by decide) (by decide))
      have i3 : InvC (c + 1) (gAdd g p (fun i => t.2 i - 97) n o) (0, t.2) x lw h3 := kWords i (by decide) fa (r2.fr f3) ((r1.fr f2).fr f3) ku (by rw [f3.f 2 9, a2, e9])
      have m3 := m.fr fa.c
      have ns : ∀ w, 0 ≤ w → w < gn g → ¬ same g w p (fun i => t.2 i - 97) := fun w w0 w1 z => nex w w0 w1 ((same_key i1.1.ok (by omega) p1 hf w0 w1).mp z)
      refine mWord (by decide) m3.1 m3.2.1 (fun z => absurd W z) (fun h4 _ w2 => ?_) (fun h4 _ _ _ r4 rt4 f4 => ⟨rfl, fin2 hx ⟨r4, rt4, by rw [f4.f 12 1]; exact m3.2.2.1, m3.2.2.2.fr f4⟩ (i3.fr f4.m)⟩)
      rcases w2 with w2 | ⟨_, w, w0, w1, w2⟩
      · exact absurd al w2
      · exact absurd w2 (ns w w0 w1)
  · exact mWord (by decide) m1.1 m1.2.1 (fun z => absurd W z) (fun h2 _ _ rt2 f2 r2 => ⟨rfl, fin2 hx ⟨r2, rt2, by rw [f2.f 12 1]; exact m1.2.2.1, m1.2.2.2.fr f2⟩ (i1.fr f2.m)⟩) (fun h2 _ al => absurd al na)
theorem ku_same {g g' : G} {h : AH} (k : KUpTo g (gn g) h) (hn : gn g' ≤ gn g) (hl : gl g' = gl g) (ht : gt g' = gt g) : KUpTo g' (gn g') h := fun a b a0 a1 b0 b1 => (k a b a0 (by omega) b0 (by omega)).congr (by rw [hl]) (by rw [hl]) (fun i _ _ => by rw [ht]) (fun i _ _ => by rw [ht])
theorem op_bar (I : Inv c h) (hc : c ≤ 600) {w v : Int} (hv : v = 0 ∨ v = 1) : Call 60 M_L_bar [vR 0 (-1), vI w, vI v] h (fun r h1 => Call 60 M_M_bar [vR 12 (-1), vI w, vI v] h1 (Two c r)) := by
  obtain ⟨g, t, x, lw, hx, m, i⟩ := I
  have ag := i.2.2.2.2.2.2.1
  unfold Ages at ag
  have bad : ¬ ((0 ≤ w ∧ w < gn g) ∧ gb g w ≠ v) → Call 60 M_M_bar [vR 12 (-1), vI w, vI v] h (Two c 0) := fun hn => mBar (by decide) m.1 hv (fun h' z => absurd z hn) (fun _ => ⟨rfl, fin2 hx m (i.up (by omega))⟩)
  refine c_L_bar 59 (by decide) (wHas (by decide) i.1 (fun w0 w1 => br1 (cSetBarred (by decide) i.1 w0 w1 hv (ii (by omega)) (fun h1 hne r1 a1 f1 => br1 ?_) (fun he => br0 (bad (fun z => z.2 he))))) (fun hn => br0 (bad (fun z => hn z.1))))
  have i1 : InvC (c + 1) (gBar g w v) t x lw h1 := kWords i (L := [19]) (by decide) (f1.mono (by decide) (by decide)) r1 (i.2.1.fr f1) (ku_same (i.2.2.2.2.1.fr f1) (Int.le_refl _) rfl rfl) a1
  have m1 := m.fr f1.c
  exact mBar (by decide) m1.1 hv (fun h2 _ r2 f2 => ⟨rfl, fin2 hx ⟨r2, m1.2.1.fr f2, by rw [f2.i 12]; exact m1.2.2.1, m1.2.2.2.fr f2⟩ (i1.fr f2.m)⟩) (fun z => absurd ⟨⟨w0, w1⟩, hne⟩ z)
theorem op_know (I : Inv c h) (hc : c ≤ 600) {w n : Int} : Call 60 M_L_know [vR 0 (-1), vI w, vI n] h (fun r h1 => Call 60 M_M_know [vR 12 (-1), vI w, vI n] h1 (Two c r)) := by
  obtain ⟨g, t, x, lw, hx, m, i⟩ := I
  have ag := i.2.2.2.2.2.2.1
  unfold Ages at ag
  have bad : ¬ ((0 ≤ w ∧ w < gn g) ∧ 0 ≤ n ∧ n ≤ 99) → Call 60 M_M_know [vR 12 (-1), vI w, vI n] h (Two c 0) := fun hn => mKnow (by decide) m.1 (fun h' z => absurd z hn) (fun _ => ⟨rfl, fin2 hx m (i.up (by omega))⟩)
  refine c_L_know 59 (by decide) (wHas (by decide) i.1 (fun w0 w1 => br1 (lKnown (by decide) (fun n0 n1 => br1' (cSetKnown (by decide) i.1 w0 w1 n0 n1 (ii (by omega)) (fun h1 r1 a1 f1 => ?_))) (fun hn => br0' (bad (fun z => hn z.2))))) (fun hn => br0 (bad (fun z => hn z.1))))
  have i1 : InvC (c + 1) (gKnow g w n) t x lw h1 := kWords i (L := [17]) (by decide) (f1.mono (by decide) (by decide)) r1 (i.2.1.fr f1) (ku_same (i.2.2.2.2.1.fr f1) (Int.le_refl _) rfl rfl) a1
  have m1 := m.fr f1.c
  exact mKnow (by decide) m1.1 (fun h2 _ r2 f2 => ⟨rfl, fin2 hx ⟨r2, m1.2.1.fr f2, by rw [f2.i 12]; exact m1.2.2.1, m1.2.2.2.fr f2⟩ (i1.fr f2.m)⟩) (fun z => absurd ⟨⟨w0, w1⟩, n0, n1⟩ z)
theorem op_speak (I : Inv c h) (hc : c ≤ 600) {s : Int} : Call 60 M_L_speak [vR 0 (-1), vI s] h (fun r h1 => Call 60 M_M_speak [vR 12 (-1), vI s] h1 (Two c r)) := by
  obtain ⟨g, t, x, lw, hx, m, i⟩ := I
  have ag := i.2.2.2.2.2.2.1
  unfold Ages at ag
  have bad : ¬ (-1 ≤ s ∧ s ≤ 3) → Call 60 M_M_speak [vR 12 (-1), vI s] h (Two c 0) := fun hn => mSpeak (by decide) m.1 (fun h' z => absurd z hn) (fun _ => ⟨rfl, fin2 hx m (i.up (by omega))⟩)
  refine c_L_speak 59 (by decide) ⟨fun z => bad (by omega), fun s0 => ⟨fun s1 => cSetSpoken (by decide) i.1 s0 s1 (ii (by omega)) (fun h1 r1 a1 f1 => ?_), fun z => bad (by omega)⟩⟩
  have i1 : InvC (c + 1) (gSpeak g s) t x lw h1 := kWords i (L := []) (by decide) (f1.mono (by decide) (by decide)) r1 (i.2.1.fr f1) (ku_same (i.2.2.2.2.1.fr f1) (Int.le_refl _) rfl rfl) a1
  have m1 := m.fr f1.c
  exact mSpeak (by decide) m1.1 (fun h2 _ r2 f2 => ⟨rfl, fin2 hx ⟨r2, m1.2.1.fr f2, by rw [f2.f 12 1]; exact m1.2.2.1, m1.2.2.2.fr f2⟩ (i1.fr f2.m)⟩) (fun z => absurd ⟨s0, s1⟩ z)
theorem op_off (I : Inv c h) (hc : c ≤ 600) : Call 60 M_L_off [vR 0 (-1)] h (fun r h1 => Call 60 M_M_off [vR 12 (-1)] h1 (Two c r)) := by
  obtain ⟨g, t, x, lw, hx, m, i⟩ := I
  have ag := i.2.2.2.2.2.2.1
  unfold Ages at ag
  refine c_L_off 59 (by decide) ?_
  rw [i.1.n]
  refine ⟨fun hn => cTakeLast (by decide) i.1 hn (ii (by omega)) (fun h1 r1 a1 f1 => ?_), fun hz => mOff (by decide) m.1 (fun h' z => absurd hz z) (fun _ => ⟨rfl, fin2 hx m (i.up (by omega))⟩)⟩
  have i1 : InvC (c + 1) (gOff g) t x lw h1 := kWords i (L := []) (by decide) (f1.mono (by decide) (by decide)) r1 (i.2.1.fr f1) (ku_same (i.2.2.2.2.1.fr f1) (by show gn g - 1 ≤ gn g; omega) rfl rfl) a1
  have m1 := m.fr f1.c
  exact mOff (by decide) m1.1 (fun h2 _ r2 f2 => ⟨rfl, fin2 hx ⟨r2, m1.2.1.fr f2, by rw [f2.f 12 1]; exact m1.2.2.1, m1.2.2.2.fr f2⟩ (i1.fr f2.m)⟩) (fun z => absurd z hn)
theorem op_seed (I : Inv c h) (hc : c ≤ 600) {y : Int} : Call 60 M_L_seed [vR 0 (-1), vI y] h (fun r h1 => Call 60 M_M_seed [vR 12 (-1), vI y] h1 (Two c r)) := by
  obtain ⟨g, t, x, lw, hx, m, i⟩ := I
  have bad : ¬ (0 ≤ y ∧ y ≤ 65535) → Call 60 M_M_seed [vR 12 (-1), vI y] h (Two c 0) := fun hn => mSeed (by decide) (fun z => absurd z hn) (fun _ => ⟨rfl, fin2 hx m (i.up (by omega))⟩)
  refine c_L_seed 59 (by decide) ⟨fun z => bad (by omega), fun y0 => ⟨fun y1 => ?_, fun z => bad (by omega)⟩⟩
  have f1 : Fr [] [(0, 10)] h (wI h 0 10 y) := Fr.wI (Or.inr (by decide))
  have i1 : InvC (c + 1) g t y lw (wI h 0 10 y) := kTape (i.up (by omega)) f1 (i.2.1.fr f1) rI_eq (by decide) (by decide)
  have m1 := m.fr f1.c
  refine mSeed (by decide) (fun _ => ?_) (fun z => absurd ⟨y0, y1⟩ z)
  have f2 : Fr [] [(12, 1)] (wI h 0 10 y) (wI (wI h 0 10 y) 12 1 y) := Fr.wI (Or.inr (by decide))
  exact ⟨rfl, fin2 ⟨y0, y1⟩ ⟨m1.1.fr f2, m1.2.1.fr f2, rI_eq, m1.2.2.2.fr f2⟩ (i1.fr f2.m)⟩
theorem cBecome {d : Nat} {K : Int → AH → Prop} (hd : 1 < d) {lw : LW} (r : RepCLo 5 25 lw h) (ha : inI (h.1 3 7 + 1)) (k : ∀ h', RepCL lw h' → h'.1 3 7 = h.1 3 7 + 1 → Fr [20, 21, 22] [(3, 5), (3, 6), (3, 7)] h h' → K 0 h') : Call d M_LawCode_become [vR 3 (-1), vR 5 (-1)] h K := by
  have f3 : Fr [20, 21, 22] [(3, 5), (3, 6), (3, 7)] h (cpI (cpI (cpI h 25 20 400) 26 21 12) 27 22 12) := ((Fr.cpI (by decide)).trans (Fr.cpI (by decide))).trans (Fr.cpI (by decide))
  generalize hX : cpI (cpI (cpI h 25 20 400) 26 21 12) 27 22 12 = X at f3
  have e20 : ∀ k, 0 ≤ k → k < 400 → X.1 20 k = h.1 25 k := fun k k0 k1 => by
    rw [← hX, cp_ne (by decide), cp_ne (by decide), cp_in k0 k1]
  have e21 : ∀ k, 0 ≤ k → k < 12 → X.1 21 k = h.1 26 k := fun k k0 k1 => by
    rw [← hX, cp_ne (by decide), cp_in k0 k1, cp_ne (by decide)]
  have e22 : ∀ k, 0 ≤ k → k < 12 → X.1 22 k = h.1 27 k := fun k k0 k1 => by
    rw [← hX, cp_in k0 k1, cp_ne (by decide), cp_ne (by decide)]
  have e37 : X.1 3 7 = h.1 3 7 := by rw [← hX, cp_ne (by decide), cp_ne (by decide), cp_ne (by decide)]
  have e56 : X.1 5 6 = h.1 5 6 := f3.f 5 6
  refine c_LawCode_become 1 hd ⟨Nat.le_refl 1, ?_⟩
  rw [hX, e37]
  refine ⟨ha, k _ ⟨⟨?_, r.1.2⟩, fun j E C hj => ?_⟩ rI_eq (((f3.trans (Fr.wI (Or.inr (by decide)))).trans (Fr.wI (Or.inr (by decide)))).trans (Fr.wI (Or.inr (by decide))))⟩
  · rw [rI_nk (by decide), rI_eq, e56]; exact r.1.1
  · have hj12 : j < 12 := Nat.lt_of_lt_of_le (List.getElem?_eq_some_iff.mp hj).1 r.1.2
    have q := r.2 j E C hj
    generalize hY : wI (wI (wI X 3 5 (X.1 5 5)) 3 6 (X.1 5 6)) 3 7 (h.1 3 7 + 1) = Y
    have y20 : ∀ k, 0 ≤ k → k < 400 → Y.1 20 k = h.1 25 k := fun k k0 k1 => by rw [← hY, rI_ne (by decide), rI_ne (by decide), rI_ne (by decide)]; exact e20 k k0 k1
    have y21 : Y.1 (20 + 1) j = h.1 (25 + 1) j := by rw [← hY, rI_ne (by decide), rI_ne (by decide), rI_ne (by decide)]; exact e21 j (by omega) (by omega)
    have y22 : Y.1 (20 + 2) j = h.1 (25 + 2) j := by rw [← hY, rI_ne (by decide), rI_ne (by decide), rI_ne (by decide)]; exact e22 j (by omega) (by omega)
    have tr : ∀ (off : Int) (l : List (Int × Int)), 0 ≤ off → off + 2 * l.length ≤ 400 → ordAt h 25 off l → ordAt Y 20 off l := fun off l o0 o1 ql n v hv => by
      have hn := (List.getElem?_eq_some_iff.mp hv).1
      rw [y20 _ (by omega) (by omega), y20 _ (by omega) (by omega)]
      exact ql n v hv
    obtain ⟨⟨q1, q2, q3, q4, q5⟩, q6⟩ := q
    rw [y22]
    refine ⟨⟨q1, q2, q3, q4, tr _ _ q3 ?_ q5⟩, ?_⟩
    · rw [List.length_append, cC_len C q1 0 0]
      simp only [List.length_cons, List.length_nil]
      omega
    · rw [y21]
      cases E with
      | none => exact q6
      | some e =>
        obtain ⟨p1, p2, p3, p4, p5⟩ := q6
        refine ⟨p1, p2, p3, p4, tr _ _ p3 ?_ p5⟩
        rw [List.length_append]
        simp only [List.length_cons, List.length_nil]
        omega
theorem op_law (I : Inv c h) (hc : c ≤ 600) {n : Int} : Call 60 M_L_law [vR 0 (-1), vI n] h (fun r h1 => Call 60 M_M_law [vR 12 (-1), vI n] h1 (Two c r)) := by
  obtain ⟨g, t, x, lw, hx, m, i⟩ := I
  have ag := i.2.2.2.2.2.2.1
  unfold Ages at ag
  have bad : ¬ (1 ≤ n ∧ n ≤ 160 ∧ n ≤ t.1) → Call 60 M_M_law [vR 12 (-1), vI n] h (Two c (-1)) := fun hn => mLaw (by decide) m.2.1 m.2.2.2 (fun _ => ⟨rfl, fin2 hx m (i.up (by omega))⟩) (fun h' a b z => absurd z hn) (fun h' l z => absurd z hn)
  refine c_L_law 59 (by decide) ⟨fun z => bad (by omega), fun n0 => ⟨fun z => bad (by omega), fun n1 => tTake (by decide) i.2.1 (fun _ hle h1 r1 tk f1 => br1' ?_) (fun hn => br0' (bad (by omega)))⟩⟩
  have W : 1 ≤ n ∧ n ≤ 160 ∧ n ≤ t.1 := ⟨n0, n1, hle⟩
  refine cReadText (by decide) tk n0 n1 (fun h2 a b hl ha hb ea eb f2 => br0' ?_) (fun h2 lw' hl rl f2 => br1' ?_)
  · have fa := (f1.mono (L2 := [25, 26, 27]) (F2 := [(1, 1), (1, 2), (4, 2), (4, 3), (4, 4), (5, 5), (5, 6)]) (by decide) (by decide)).trans (f2.mono (by decide) (by decide))
    have m2 := m.fr fa.c
    have i2 : InvC (c + 1) g (0, t.2) x lw h2 := kTape (i.up (by omega)) fa (r1.fr f2) (by rw [fa.f 0 10]; exact i.2.2.1) (by decide) (by decide)
    rw [ea, eb]
    refine ⟨ii (by omega), ii (by omega), mLaw (by decide) m2.2.1 m2.2.2.2 (fun z => absurd W z) (fun h3 a' b' _ hl' rl3 rt3 f3 => ⟨?_, fin2 hx ⟨m2.1.fr f3, rt3, by rw [f3.f 12 1]; exact m2.2.2.1, rl3⟩ (i2.fr f3.m)⟩) (fun h3 l _ hl' => by rw [hl] at hl'; cases hl')⟩
    rw [hl] at hl'
    injection hl' with hl'
    injection hl' with e1 e2
    rw [e1, e2]
  · have e37 : h2.1 3 7 = h.1 3 7 := by rw [f2.f 3 7, f1.f 3 7]
    refine cBecome (by decide) rl (ii (by omega)) (fun h3 rl3 a3 f3 => ?_)
    have fa : Fr [20, 21, 22, 25, 26, 27] [(1, 1), (1, 2), (3, 5), (3, 6), (3, 7), (4, 2), (4, 3), (4, 4), (5, 5), (5, 6)] h h3 := ((f1.mono (by decide) (by decide)).trans (f2.mono (by decide) (by decide))).trans (f3.mono (by decide) (by decide))
    have m3 := m.fr fa.c
    have i3 : InvC (c + 1) g (0, t.2) x lw' h3 := by
      obtain ⟨i1, i2, i3, i4, i5, i6, i7, i8, i9⟩ := i
      have e1 := fa.f 2 9
      have e3 := fa.f 6 8
      have e4 := fa.f 6 9
      have e5 := fa.f 6 10
      have e6 := fa.f 7 14
      have e7 := fa.f 7 15
      have e8 := fa.f 7 16
      have e9 := fa.f 8 11
      have e10 := fa.f 11 8
      refine ⟨i1.fr fa, (r1.fr f2).fr f3, by rw [fa.f 0 10]; exact i3, rl3, i5.fr fa, i6.fr fa, ?_, fun _ z => by omega, i9.fr fa⟩
      unfold Ages
      rw [e1, e3, e4, e5, e6, e7, e8, e9, e10, a3, e37]
      omega
    rw [rl3.1.1]
    refine mLaw (by decide) m3.2.1 m3.2.2.2 (fun z => absurd W z) (fun h4 a' b' _ hl' => by rw [hl] at hl'; cases hl') (fun h4 l _ hl' rl4 rt4 f4 => ?_)
    rw [hl] at hl'
    injection hl' with hl'
    rw [← hl'] at rl4 ⊢
    exact ⟨rfl, fin2 hx ⟨m3.1.fr f4, rt4, by rw [f4.f 12 1]; exact m3.2.2.1, rl4⟩ (i3.fr f4.m)⟩
end OPS1

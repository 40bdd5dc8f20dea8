section OPS2
variable {c : Int} {h : AH}
theorem lAre {d : Nat} {K : Int → AH → Prop} {g : G} (hd : 1 < d) {a b : Int} (r : RepCW g h) (kT : 0 ≤ a → a < gn g → 0 ≤ b → b < gn g → K 1 h) (kF : ¬ ((0 ≤ a ∧ a < gn g) ∧ 0 ≤ b ∧ b < gn g) → K 0 h) : Call d M_L_areWords [vR 0 (-1), vI a, vI b] h K :=
  c_L_areWords 1 hd (wHas (by decide) r (fun a0 a1 => br1 (wHas (by decide) r (fun b0 b1 => br1 (kT a0 a1 b0 b1)) (fun n => br0 (kF (fun z => n z.2))))) (fun n => br0 (kF (fun z => n z.1))))
theorem mStep {d : Nat} {K : Int → AH → Prop} {g : G} {lw : LW} (hd : 5 < d) {a b q : Int} (r : RepM g h) (rl : RepML lw h) (k0 : ¬ ((0 ≤ a ∧ a < gn g) ∧ (0 ≤ b ∧ b < gn g) ∧ 0 ≤ q ∧ q ≤ 2) → K (-1) h) (k : ∀ h', (0 ≤ a ∧ a < gn g) ∧ (0 ≤ b ∧ b < gn g) ∧ 0 ≤ q ∧ q ≤ 2 → Fr [76, 77, 78, 79, 80] [] h h' → K (if (sc g lw a b).1 = 0 then -2 else if q = 0 then (sc g lw a b).1 else if q = 1 then (sc g lw a b).2.1 else (sc g lw a b).2.2) h') : Call d M_M_step [vR 12 (-1), vI a, vI b, vI q] h K := by
  have nb := r.ok.nb
  refine c_M_step 5 hd (mIsWord (by decide) r (fun a0 a1 => br1 (mIsWord (by decide) r (fun b0 b1 => br1 (mIn (by decide) (fun q0 q1 => br1' (mLaysSteps (by decide) r rl (fun hs ls fs => ?_))) (fun n => br0' (k0 (by omega))))) (fun n => br0 (k0 (by omega))))) (fun n => br0 (k0 (by omega))))
  have kk := k hs ⟨⟨a0, a1⟩, ⟨b0, b1⟩, q0, q1⟩ fs
  obtain ⟨l1, l2⟩ := ls a b a0 a1 b0 b1
  refine mIsStep (by decide) (r.fr fs) ls a0 a1 b0 b1 (fun hy => br1' ⟨fun z => ⟨fun y => ⟨ii (by omega), ii (by omega), ib (by omega), ?_⟩, fun y => ⟨ii (by omega), ii (by omega), ib (by omega), ?_⟩⟩, fun z => ⟨ii (by omega), ii (by omega), ib (by omega), ?_⟩⟩) (fun hn => br0' (by rw [if_pos hn] at kk; exact kk))
  · rw [if_neg hy, if_neg z, if_neg y] at kk
    rw [(l2 hy).2]; exact kk
  · rw [if_neg hy, if_neg z, if_pos y] at kk
    rw [(l2 hy).1]; exact kk
  · rw [if_neg hy, if_pos z] at kk
    rw [l1, if_neg hy]; exact kk
/-- a question: the reference's frame, its tape as it was -/
theorem ask {c : Int} {g : G} {t : Tp} {x : Int} {lw : LW} {L : List Nat} {F : List (Nat × Int)} {h h' : AH} (hx : 0 ≤ x ∧ x ≤ 65535) (m : InvM g t x lw h) (i : InvC c g t x lw h) (f : Fr L F h h') (hL : ∀ o ∈ L, o ∈ [63, 64, 65, 66, 67, 68, 69, 70, 76, 77, 78, 79, 80, 81, 82, 83, 84, 85, 86, 87, 88, 89, 90, 91, 92, 93] := by decide) (hF : ∀ q ∈ F, q ∈ [((12 : Nat), (9 : Int)), (12, 41), (12, 42), (12, 43), (12, 53)] := by decide) (h64 : 64 ∉ L := by decide) : Inv c h' := by
  have f2 : Fr [63, 65, 66, 67, 68, 69, 70, 76, 77, 78, 79, 80, 81, 82, 83, 84, 85, 86, 87, 88, 89, 90, 91, 92, 93] [((12 : Nat), (9 : Int)), (12, 41), (12, 42), (12, 43), (12, 53)] h h' := f.mono (fun o ho => by
    have := hL o ho
    have hne : o ≠ 64 := fun z => h64 (z ▸ ho)
    revert this hne
    simp only [List.mem_cons, List.not_mem_nil, or_false]
    omega) hF
  exact fin2 hx (m.own f2 (m.2.1.fr f2)) (i.fr f2.m)
theorem op_step (I : Inv c h) (hc : c ≤ 600) {a b q : Int} : Call 60 M_L_step [vR 0 (-1), vI a, vI b, vI q] h (fun r h1 => Call 60 M_M_step [vR 12 (-1), vI a, vI b, vI q] h1 (Two c r)) := by
  obtain ⟨g, t, x, lw, hx, m, i⟩ := I
  have nb := i.1.ok.nb
  have bad : ¬ ((0 ≤ a ∧ a < gn g) ∧ (0 ≤ b ∧ b < gn g) ∧ 0 ≤ q ∧ q ≤ 2) → Call 60 M_M_step [vR 12 (-1), vI a, vI b, vI q] h (Two c (-1)) := fun hn => mStep (by decide) m.1 m.2.2.2 (fun _ => ⟨rfl, fin2 hx m (i.up (by omega))⟩) (fun h2 z => absurd z hn)
  refine c_L_step 59 (by decide) (lAre (by decide) i.1 (fun a0 a1 b0 b1 => br1 ⟨fun z => bad (by omega), fun q0 => ⟨fun q1 => kSteps (by decide) i hc (fun h1 i1 fr1 f1 => ?_), fun z => bad (by omega)⟩⟩) (fun hn => br0 (bad (fun z => hn ⟨z.1, z.2.1⟩))))
  have W : (0 ≤ a ∧ a < gn g) ∧ (0 ≤ b ∧ b < gn g) ∧ 0 ≤ q ∧ q ≤ 2 := ⟨⟨a0, a1⟩, ⟨b0, b1⟩, q0, q1⟩
  have l1 := i1.laid fr1
  have m1 := m.fr f1
  have st := (l1 a a0 a1).2 b b0 b1
  have go : ∀ r, r = (if (sc g lw a b).1 = 0 then -2 else if q = 0 then (sc g lw a b).1 else if q = 1 then (sc g lw a b).2.1 else (sc g lw a b).2.2) → Call 60 M_M_step [vR 12 (-1), vI a, vI b, vI q] h1 (Two c r) := fun r hr => mStep (by decide) m1.1 m1.2.2.2 (fun z => absurd W z) (fun h2 _ f2 => ⟨hr, ask hx m1 i1 f2⟩)
  refine cStepCost (by decide) i1.1 l1 a0 a1 b0 b1 ⟨fun hne => ⟨fun z => ⟨fun y => c_Steps_placeOf 0 (by decide) ⟨ib (by omega), ib (by omega), go _ ?_⟩, fun y => c_Steps_kindOf 0 (by decide) ⟨ib (by omega), ib (by omega), go _ ?_⟩⟩, fun z => cStepCost (by decide) i1.1 l1 a0 a1 b0 b1 (go _ ?_)⟩, fun hz => go _ ?_⟩
  · rw [if_neg hne, if_neg z, if_neg y]; exact (st.2 hne).2
  · rw [if_neg hne, if_neg z, if_pos y]; exact (st.2 hne).1
  · rw [if_neg hne, if_pos z]
  · rw [if_pos hz]
theorem op_least (I : Inv c h) (hc : c ≤ 600) {a b q : Int} : Call 60 M_L_least [vR 0 (-1), vI a, vI b, vI q] h (fun r h1 => Call 60 M_M_least [vR 12 (-1), vI a, vI b, vI q] h1 (Two c r)) := by
  obtain ⟨g, t, x, lw, hx, m, i⟩ := I
  have nb := i.1.ok.nb
  have bad : (¬ (0 ≤ a ∧ a < gn g) ∨ ¬ (0 ≤ b ∧ b < gn g) ∨ ¬ (-1 ≤ q ∧ q ≤ 40)) → Call 60 M_M_least [vR 12 (-1), vI a, vI b, vI q] h (Two c (-1)) := fun hn => mLeast (by decide) m.1 m.2.2.2 (fun h2 f2 => ⟨by rw [if_pos hn], ask hx m (i.up (by omega)) f2⟩)
  refine c_L_least 59 (by decide) (lAre (by decide) i.1 (fun a0 a1 b0 b1 => br1 ⟨fun z => bad (by omega), fun q0 => ⟨fun q1 => kSteps (by decide) i hc (fun h1 i1 fr1 f1 => kWays (by decide) i1 fr1 (fun h2 i2 fr2 w2 _ f2 => ?_)), fun z => bad (by omega)⟩⟩) (fun hn => br0 (bad (by omega))))
  have l2 := i2.laid fr2
  have m2 := (m.fr f1).fr f2
  have ok := i2.1.ok
  have go : ∀ (r : Int) (h3 : AH), InvM g t x lw h3 → InvC (c + 1) g t x lw h3 → r = (if wd g lw a b = -1 then -2 else leastA g lw a b q) → Call 60 M_M_least [vR 12 (-1), vI a, vI b, vI q] h3 (Two c r) := fun r h3 m3 i3 hr => mLeast (by decide) m3.1 m3.2.2.2 (fun h4 f4 => ⟨by rw [if_neg (by omega)]; exact hr, ask hx m3 i3 f4⟩)
  refine cIsWay' (by decide) ok w2.1 a0 a1 b0 b1 (fun hw => br1' ⟨fun z => cLengthOf (by decide) ok w2.1 a0 a1 b0 b1 hw ⟨fun y => ⟨fun hle => cWordAt (by decide) i2.1 l2 w2.1 b0 b1 hw (by omega) hle (go _ h2 m2 i2 ?_), fun hlt => go _ h2 m2 i2 ?_⟩, fun y => go _ h2 m2 i2 ?_⟩, fun z => cWCost' (by decide) ok w2.1 a0 a1 b0 b1 hw (go _ h2 m2 i2 ?_)⟩) (fun hn => br0' (go _ h2 m2 i2 ?_))
  · rw [if_neg hw]; unfold leastA; rw [if_neg z, if_neg y, if_pos hle]
  · rw [if_neg hw]; unfold leastA; rw [if_neg z, if_neg y, if_neg (by omega)]
  · rw [if_neg hw]; unfold leastA; rw [if_neg z, if_pos y]
  · rw [if_neg hw]; unfold leastA; rw [if_pos z]
  · rw [if_pos hn]
theorem op_howMany (I : Inv c h) (hc : c ≤ 600) {a b : Int} : Call 60 M_L_howMany [vR 0 (-1), vI a, vI b] h (fun r h1 => Call 60 M_M_howMany [vR 12 (-1), vI a, vI b] h1 (Two c r)) := by
  obtain ⟨g, t, x, lw, hx, m, i⟩ := I
  refine c_L_howMany 59 (by decide) (lAre (by decide) i.1 (fun a0 a1 b0 b1 => br1' (kSteps (by decide) i hc (fun h1 i1 fr1 f1 => kWays (by decide) i1 fr1 (fun h2 i2 fr2 w2 _ f2 => ?_)))) (fun hn => br0' (mHowMany (by decide) m.1 m.2.2.2 (fun h2 f2 => ⟨by rw [if_pos (by omega)], ask hx m (i.up (by omega)) f2⟩))))
  have l2 := i2.laid fr2
  have m2 := (m.fr f1).fr f2
  refine cIsWay' (by decide) i2.1.ok w2.1 a0 a1 b0 b1 (fun hw => br1 (cCountLeast (by decide) i2.1 l2 w2.1 a0 a1 b0 b1 hw (fun h3 f3 => ?_))) (fun hn => br0 (mHowMany (by decide) m2.1 m2.2.2.2 (fun h3 f3 => ⟨by rw [if_neg (by omega), if_pos hn], ask hx m2 i2 f3⟩)))
  have m3 := m2.fr f3.c
  have i3 : InvC (c + 1) g t x lw h3 := kTape i2 f3 (i2.2.1.fr f3) (by rw [f3.i 0]; exact i2.2.2.1) (by decide) (by decide)
  exact mHowMany (by decide) m3.1 m3.2.2.2 (fun h4 f4 => ⟨by rw [if_neg (by omega), if_neg hw], ask hx m3 i3 f4⟩)
theorem op_without (I : Inv c h) (hc : c ≤ 600) {a b : Int} : Call 60 M_L_without [vR 0 (-1), vI a, vI b] h (fun r h1 => Call 60 M_M_without [vR 12 (-1), vI a, vI b] h1 (Two c r)) := by
  obtain ⟨g, t, x, lw, hx, m, i⟩ := I
  refine c_L_without 59 (by decide) (lAre (by decide) i.1 (fun a0 a1 b0 b1 => br1' (kSteps (by decide) i hc (fun h1 i1 fr1 f1 => kReach (by decide) i1 fr1 (fun h2 i2 fr2 w2 _ f2 => ?_)))) (fun hn => br0' (mWithoutB (by decide) m.1 m.2.2.2 (fun h2 f2 _ => ⟨rfl, ask hx m (i.up (by omega)) f2⟩) (fun h2 _ a0 a1 b0 b1 => absurd ⟨⟨a0, a1⟩, b0, b1⟩ hn) (fun h2 N _ a0 a1 b0 b1 => absurd ⟨⟨a0, a1⟩, b0, b1⟩ hn))))
  have l2 := i2.laid fr2
  have m2 := (m.fr f1).fr f2
  refine cReaches (by decide) i2.1.ok w2.1 a0 a1 b0 b1 (fun hh => br1 (cNeeded (by decide) i2.1 l2 w2.1 a0 a1 b0 b1 hh (fun N hN => mWithoutB (by decide) m2.1 m2.2.2.2 (fun h3 _ z => by omega) (fun h3 _ _ _ _ _ z => absurd hh z) (fun h3 N' f3 _ _ _ _ _ hN' => ⟨by rw [hN.uniq hN'], ask hx m2 i2 f3⟩)))) (fun hn => br0 (mWithoutB (by decide) m2.1 m2.2.2.2 (fun h3 _ z => by omega) (fun h3 f3 _ _ _ _ _ => ⟨rfl, ask hx m2 i2 f3⟩) (fun h3 N' f3 _ _ _ _ z => absurd z hn)))
theorem op_heap (I : Inv c h) (hc : c ≤ 600) {a : Int} : Call 60 M_L_heap [vR 0 (-1), vI a] h (fun r h1 => Call 60 M_M_heap [vR 12 (-1), vI a] h1 (Two c r)) := by
  obtain ⟨g, t, x, lw, hx, m, i⟩ := I
  have nb := i.1.ok.nb
  refine c_L_heap 59 (by decide) (wHas (by decide) i.1 (fun a0 a1 => br1' (wIsUsed (by decide) i.1 (fun _ _ hu => br1' (kSteps (by decide) i hc (fun h1 i1 fr1 f1 => kReach (by decide) i1 fr1 (fun h2 i2 fr2 w2 _ f2 => ⟨ib (by omega), ?_⟩)))) (fun hn => br0' (mHeap (by decide) m.1 m.2.2.2 (fun z => absurd ⟨a0, a1⟩ z) (fun _ _ _ => ⟨rfl, fin2 hx m (i.up (by omega))⟩) (fun h2 v _ _ hu => absurd ⟨a0, a1, hu⟩ hn))))) (fun hn => br0' (mHeap (by decide) m.1 m.2.2.2 (fun _ => ⟨rfl, fin2 hx m (i.up (by omega))⟩) (fun a0 a1 => absurd ⟨a0, a1⟩ hn) (fun h2 v a0 a1 => absurd ⟨a0, a1⟩ hn))))
  have m2 := (m.fr f1).fr f2
  exact mHeap (by decide) m2.1 m2.2.2.2 (fun z => absurd ⟨a0, a1⟩ z) (fun _ _ z => absurd hu z) (fun h3 v _ _ _ hv f3 => ⟨(w2.2.1 a a0 a1 hu).uniq hv, ask hx m2 i2 f3⟩)
theorem op_heaps (I : Inv c h) (hc : c ≤ 600) : Call 60 M_L_heaps [vR 0 (-1)] h (fun r h1 => Call 60 M_M_heaps [vR 12 (-1)] h1 (Two c r)) := by
  obtain ⟨g, t, x, lw, hx, m, i⟩ := I
  refine c_L_heaps 59 (by decide) (kSteps (by decide) i hc (fun h1 i1 fr1 f1 => kReach (by decide) i1 fr1 (fun h2 i2 fr2 w2 _ f2 => ?_)))
  have m2 := (m.fr f1).fr f2
  exact mHeaps (by decide) m2.1 m2.2.2.2 (fun h3 f3 => ⟨w2.2.2, ask hx m2 i2 f3⟩)
theorem op_far (I : Inv c h) (hc : c ≤ 600) {q : Int} : Call 60 M_L_far [vR 0 (-1), vI q] h (fun r h1 => Call 60 M_M_far [vR 12 (-1), vI q] h1 (Two c r)) := by
  obtain ⟨g, t, x, lw, hx, m, i⟩ := I
  have bad : ¬ (0 ≤ q ∧ q ≤ 2) → Call 60 M_M_far [vR 12 (-1), vI q] h (Two c (-1)) := fun hn => mFar (by decide) m.1 m.2.2.2 (fun _ => ⟨rfl, fin2 hx m (i.up (by omega))⟩) (fun h2 _ _ _ a b => absurd ⟨a, b⟩ hn)
  refine c_L_far 59 (by decide) ⟨fun z => bad (by omega), fun q0 => ⟨fun q1 => kSteps (by decide) i hc (fun h1 i1 fr1 f1 => kWays (by decide) i1 fr1 (fun h2 i2 fr2 w2 _ f2 => ?_)), fun z => bad (by omega)⟩⟩
  have m2 := (m.fr f1).fr f2
  have go : ∀ r, r = (if h2.1 7 9 = -1 then -2 else if q = 0 then h2.1 7 11 else if q = 1 then h2.1 7 9 else h2.1 7 10) → Call 60 M_M_far [vR 12 (-1), vI q] h2 (Two c r) := fun r hr => mFar (by decide) m2.1 m2.2.2.2 (fun z => absurd ⟨q0, q1⟩ z) (fun h3 c' f' t' _ _ hf f3 => ⟨by
    obtain ⟨e1, e2, e3⟩ := w2.2.uniq hf
    rw [hr, e1, e2, e3], ask hx m2 i2 f3⟩)
  refine ⟨fun hne => ⟨fun z => ⟨fun y => go _ ?_, fun y => go _ ?_⟩, fun z => go _ ?_⟩, fun hz => go _ ?_⟩
  · rw [if_neg hne, if_neg z, if_neg y]
  · rw [if_neg hne, if_neg z, if_pos y]
  · rw [if_neg hne, if_pos z]
  · rw [if_pos hz]
theorem used0 {g : G} {h : AH} (r : RepCW g h) : h.2.1 2 8 = 0 ↔ ∀ w, 0 ≤ w → w < gn g → ¬ us g w := by
  obtain ⟨⟨ok, _⟩, U, ⟨u1, u2⟩, u3⟩ := r
  have nb := ok.nb
  rw [u3]
  constructor
  · intro z w w0 w1 hu
    have := (u2 w.toNat (by omega)).mpr ⟨by omega, by rw [Int.toNat_of_nonneg w0]; exact hu⟩
    rw [show U = 0 by omega, Nat.zero_testBit] at this
    exact absurd this (by decide)
  · intro z
    apply Classical.byContradiction
    intro hn
    obtain ⟨j, hj⟩ := bit_some (N := U) (by omega)
    have := (u2 j (bit40 u1 hj)).mp hj
    exact z j (by omega) this.1 this.2
theorem op_between (I : Inv c h) (hc : c ≤ 600) {q : Int} : Call 60 M_L_between [vR 0 (-1), vI q] h (fun r h1 => Call 60 M_M_between [vR 12 (-1), vI q] h1 (Two c r)) := by
  obtain ⟨g, t, x, lw, hx, m, i⟩ := I
  have bad : ¬ (0 ≤ q ∧ q ≤ 1) → Call 60 M_M_between [vR 12 (-1), vI q] h (Two c (-1)) := fun hn => mBetween (by decide) m.1 m.2.2.2 (fun _ => ⟨rfl, fin2 hx m (i.up (by omega))⟩) (fun h2 _ _ a b => absurd ⟨a, b⟩ hn)
  refine c_L_between 59 (by decide) ⟨fun z => bad (by omega), fun q0 => ⟨fun q1 => ⟨fun hne => kSteps (by decide) i hc (fun h1 i1 fr1 f1 => kWays (by decide) i1 fr1 (fun h2 i2 fr2 w2 e2 f2 => kBusiest (by decide) i2 fr2 w2 e2 (fun h3 i3 b3 f3 => ?_))), fun hz => ?_⟩, fun z => bad (by omega)⟩⟩
  · have m3 := ((m.fr f1).fr f2).fr f3
    have hnu : h3.1 7 12 ≠ -1 := fun z => by
      rcases b3 with ⟨_, b⟩ | ⟨b, _⟩
      · exact hne ((used0 i.1).mpr b)
      · omega
    have go : ∀ r, r = (if q = 0 then h3.1 7 12 else h3.1 7 13) → Call 60 M_M_between [vR 12 (-1), vI q] h3 (Two c r) := fun r hr => mBetween (by decide) m3.1 m3.2.2.2 (fun z => absurd ⟨q0, q1⟩ z) (fun h4 w' t' _ _ hb f4 => ⟨by
      have u := b3.uniq hb
      rw [if_neg (by rw [← u.1]; exact hnu), hr, u.1, u.2 hnu], ask hx m3 i3 f4⟩)
    exact ⟨fun z => go _ (by rw [if_neg z]), fun z => go _ (by rw [if_pos z])⟩
  · refine mBetween (by decide) m.1 m.2.2.2 (fun z => absurd ⟨q0, q1⟩ z) (fun h4 w' t' _ _ hb f4 => ⟨?_, ask hx m (i.up (by omega)) f4⟩)
    rcases hb with ⟨b, _⟩ | ⟨b, b2, _⟩
    · rw [if_pos b]
    · exact absurd b2 ((used0 i.1).mp hz w' b.1 b.2)
theorem op_walks (I : Inv c h) (hc : c ≤ 600) {a b q : Int} : Call 60 M_L_walks [vR 0 (-1), vI a, vI b, vI q] h (fun r h1 => Call 60 M_M_walks [vR 12 (-1), vI a, vI b, vI q] h1 (Two c r)) := by
  obtain ⟨g, t, x, lw, hx, m, i⟩ := I
  have bad : (¬ (0 ≤ a ∧ a < gn g) ∨ ¬ (0 ≤ b ∧ b < gn g) ∨ ¬ (0 ≤ q ∧ q ≤ 10)) → Call 60 M_M_walks [vR 12 (-1), vI a, vI b, vI q] h (Two c (-1)) := fun hn => mWalks (by decide) m.1 m.2.2.2 (fun _ => ⟨rfl, fin2 hx m (i.up (by omega))⟩) (fun _ _ _ _ _ _ _ => by omega) (fun h2 _ _ _ _ _ _ _ _ => by omega)
  have zero : 0 ≤ a → a < gn g → 0 ≤ b → b < gn g → 0 ≤ q → q ≤ 10 → (¬ us g a ∨ ¬ us g b) → Call 60 M_M_walks [vR 12 (-1), vI a, vI b, vI q] h (Two c 0) := fun a0 a1 b0 b1 q0 q1 hn => mWalks (by decide) m.1 m.2.2.2 (fun z => by omega) (fun _ _ _ _ _ _ _ => ⟨rfl, fin2 hx m (i.up (by omega))⟩) (fun h2 _ _ _ _ _ _ u1 u2 => by
    rcases hn with z | z
    · exact absurd u1 z
    · exact absurd u2 z)
  refine c_L_walks 59 (by decide) (lAre (by decide) i.1 (fun a0 a1 b0 b1 => br1 ⟨fun z => bad (by omega), fun q0 => ⟨fun q1 => wIsUsed (by decide) i.1 (fun _ _ ua => br1 (wIsUsed (by decide) i.1 (fun _ _ ub => br1' (kSteps (by decide) i hc (fun h1 i1 fr1 f1 => cCountWalks (by decide) i1.1 (i1.laid fr1) a0 a1 b0 b1 q0 q1 (fun h2 f2 => ?_)))) (fun hn => br0' (zero a0 a1 b0 b1 q0 q1 (Or.inr (fun z => hn ⟨b0, b1, z⟩)))))) (fun hn => br0 (zero a0 a1 b0 b1 q0 q1 (Or.inl (fun z => hn ⟨a0, a1, z⟩)))), fun z => bad (by omega)⟩⟩) (fun hn => br0 (bad (by omega))))
  have m2 := (m.fr f1).fr f2.c
  have i2 : InvC (c + 1) g t x lw h2 := kTape i1 f2 (i1.2.1.fr f2) (by rw [f2.i 0]; exact i1.2.2.1) (by decide) (by decide)
  exact mWalks (by decide) m2.1 m2.2.2.2 (fun z => by omega) (fun _ _ _ _ _ _ z => by
    rcases z with z | z
    · exact absurd ua z
    · exact absurd ub z) (fun h3 _ _ _ _ _ _ _ _ f3 => ⟨rfl, ask hx m2 i2 f3⟩)
theorem op_farBy (I : Inv c h) (hc : c ≤ 600) {a b : Int} : Call 60 M_L_farBy [vR 0 (-1), vI a, vI b] h (fun r h1 => Call 60 M_M_farBy [vR 12 (-1), vI a, vI b] h1 (Two c r)) := by
  obtain ⟨g, t, x, lw, hx, m, i⟩ := I
  refine c_L_farBy 59 (by decide) (lAre (by decide) i.1 (fun a0 a1 b0 b1 => br1 (cApart (by decide) i.1 a0 a1 b0 b1 (fun h1 f1 => ?_))) (fun hn => br0 (mFarBy (by decide) m.1 (fun _ => ⟨rfl, fin2 hx m (i.up (by omega))⟩) (fun h2 a0 a1 b0 b1 => absurd ⟨⟨a0, a1⟩, b0, b1⟩ hn))))
  have m1 := m.fr f1.c
  have i1 : InvC (c + 1) g t x lw h1 := kTape (i.up (by omega)) f1 (i.2.1.fr f1) (by rw [f1.i 0]; exact i.2.2.1) (by decide) (by decide)
  exact mFarBy (by decide) m1.1 (fun z => absurd ⟨⟨a0, a1⟩, b0, b1⟩ z) (fun h2 _ _ _ _ f2 => ⟨rfl, ask hx m1 i1 f2⟩)
theorem op_square (I : Inv c h) (hc : c ≤ 600) {n q : Int} : Call 60 M_L_square [vR 0 (-1), vI n, vI q] h (fun r h1 => Call 60 M_M_square [vR 12 (-1), vI n, vI q] h1 (Two c r)) := by
  obtain ⟨g, t, x, lw, hx, m, i⟩ := I
  have bad : ¬ (2 ≤ n ∧ n ≤ 4 ∧ -1 ≤ q ∧ q < n) → Call 60 M_M_square [vR 12 (-1), vI n, vI q] h (Two c (-1)) := fun hn => mSquare (by decide) m.1 (fun _ => ⟨rfl, fin2 hx m (i.up (by omega))⟩) (fun h2 z => absurd z hn)
  refine c_L_square 59 (by decide) ⟨fun z => bad (by omega), fun n0 => ⟨fun z => bad (by omega), fun n1 => ⟨fun z => bad (by omega), fun q0 => ⟨fun q1 => kSquares (by decide) i (by omega) n1 (fun h1 i1 a1 f1 => ?_), fun z => bad (by omega)⟩⟩⟩⟩
  have m1 := m.fr f1
  have i1' := i1.up (show c ≤ c + 1 by omega)
  have go : ∀ r, r = sqAns g n q → Call 60 M_M_square [vR 12 (-1), vI n, vI q] h1 (Two c r) := fun r hr => mSquare (by decide) m1.1 (fun z => absurd ⟨n0, n1, q0, q1⟩ z) (fun h2 _ f2 => ⟨hr, ask hx m1 i1' f2⟩)
  refine ⟨fun hq => ⟨fun hz => ⟨ib (by omega), go _ ?_⟩, fun hz => go _ ?_⟩, fun hq => go _ ?_⟩
  · unfold sqAns
    rw [if_neg hq, if_neg (by rw [← a1.1]; exact hz)]
    exact a1.2 (by rw [← a1.1]; exact hz) q (by omega) q1
  · unfold sqAns
    rw [if_neg hq, if_pos (by rw [← a1.1]; exact hz)]
  · unfold sqAns
    rw [if_pos hq]; exact a1.1
theorem op_draw (I : Inv c h) (hc : c ≤ 600) {w n q : Int} : Call 60 M_L_draw [vR 0 (-1), vI w, vI n, vI q] h (fun r h1 => Call 60 M_M_draw [vR 12 (-1), vI w, vI n, vI q] h1 (Two c r)) := by
  obtain ⟨g, t, x, lw, hx, m, i⟩ := I
  have bad : ¬ ((0 ≤ w ∧ w < gn g) ∧ (1 ≤ n ∧ n ≤ 60) ∧ 0 ≤ q ∧ q ≤ 1) → Call 60 M_M_draw [vR 12 (-1), vI w, vI n, vI q] h (Two c (-1)) := fun hn => mDraw (by decide) m.1 m.2.2.2 m.2.2.1 hx (fun _ => ⟨rfl, fin2 hx m (i.up (by omega))⟩) (fun z => absurd z hn) (fun h2 z => absurd z hn)
  refine c_L_draw 59 (by decide) (wHas (by decide) i.1 (fun w0 w1 => br1 ⟨fun z => bad (by omega), fun n0 => ⟨fun z => bad (by omega), fun n1 => ⟨fun z => bad (by omega), fun q0 => ⟨fun q1 => wIsUsed (by decide) i.1 (fun _ _ hu => br1' (kSteps (by decide) i hc (fun h1 i1 fr1 f1 => ?_))) (fun hn => br0' ?_), fun z => bad (by omega)⟩⟩⟩⟩) (fun hn => br0 (bad (fun z => hn z.1))))
  · have W : (0 ≤ w ∧ w < gn g) ∧ (1 ≤ n ∧ n ≤ 60) ∧ 0 ≤ q ∧ q ≤ 1 := ⟨⟨w0, w1⟩, ⟨n0, n1⟩, q0, q1⟩
    refine cDrawLoop (by decide) i1.1 (i1.laid fr1) i1.2.2.1 hx w0 w1 (by omega) n1 (fun h2 e2 f2 => ?_)
    have m2 := (m.fr f1).fr f2.c
    have i2 : InvC (c + 1) g t (drI g lw x w n.toNat).1 lw h2 := kTape i1 f2 (i1.2.1.fr f2) e2 (by decide) (by decide)
    refine mDraw (by decide) m2.1 m2.2.2.2 m2.2.2.1 hx (fun z => absurd W z) (fun _ z => absurd hu z) (fun h3 _ _ e3 f3 => ⟨rfl, fin2 (drI_b hx w0 w1 n.toNat).1 ⟨m2.1.fr f3, m2.2.1.fr f3, e3, m2.2.2.2.fr f3⟩ (i2.fr f3.m)⟩)
  · exact mDraw (by decide) m.1 m.2.2.2 m.2.2.1 hx (fun z => absurd ⟨⟨w0, w1⟩, ⟨n0, n1⟩, q0, q1⟩ z) (fun _ _ => ⟨rfl, fin2 hx m (i.up (by omega))⟩) (fun h2 _ hu => absurd ⟨w0, w1, hu⟩ hn)
end OPS2

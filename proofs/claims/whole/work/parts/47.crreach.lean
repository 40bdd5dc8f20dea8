/-! the class: what can be come to -/
theorem TabR.down {g : G} {lw : LW} {m a : Int} {N : Nat} (t : TabR g lw (m + 1) a N) : TabR g lw m a N := ⟨t.1, fun b hb => ⟨(t.2 b hb).1, fun n x h => (t.2 b hb).2 n x (PwI.mono h)⟩⟩
theorem has_trans {g : G} {lw : LW} {a b c : Int} (h : has g lw a b) (k : has g lw b c) : has g lw a c := by
  obtain ⟨n, x, p⟩ := h
  obtain ⟨n2, x2, p2⟩ := k
  exact ⟨n + n2, x + x2, Pw.app p p2⟩
theorem TabR.via {g : G} {lw : LW} {m a : Int} {Na Nm : Nat} (h0 : 0 ≤ m) (h1 : m < 40) (t : TabR g lw m a Na) (tm : TabR g lw m m Nm) (hb : Na.testBit m.toNat = true) : TabR g lw (m + 1) a (Na ||| Nm) := by
  refine ⟨Nat.or_lt_two_pow (n := 40) t.1 tm.1, fun b hb2 => ?_⟩
  have em : ((m.toNat : Nat) : Int) = m := by omega
  rw [Nat.testBit_or, Bool.or_eq_true]
  refine ⟨fun z => ?_, fun n x h => ?_⟩
  · rcases z with z | z
    · exact (t.2 b hb2).1 z
    · have := (t.2 m.toNat (by omega)).1 hb
      rw [em] at this
      exact has_trans this ((tm.2 b hb2).1 z)
  · rcases PwI.by_m (fun a b => (sc_b g lw a b).1) h with q | ⟨n1, x1, n2, x2, q1, q2, q3⟩
    · exact Or.inl ((t.2 b hb2).2 n x q)
    · exact Or.inr ((tm.2 b hb2).2 n2 x2 q2)
theorem TabR.skip {g : G} {lw : LW} {m a : Int} {Na : Nat} (h0 : 0 ≤ m) (h1 : m < 40) (t : TabR g lw m a Na) (hb : ¬ Na.testBit m.toNat = true) : TabR g lw (m + 1) a Na := by
  refine ⟨t.1, fun b hb2 => ⟨(t.2 b hb2).1, fun n x h => ?_⟩⟩
  have em : ((m.toNat : Nat) : Int) = m := by omega
  rcases PwI.by_m (fun a b => (sc_b g lw a b).1) h with q | ⟨n1, x1, n2, x2, q1, q2, q3⟩
  · exact (t.2 b hb2).2 n x q
  · have := (t.2 m.toNat (by omega)).2 n1 x1 (by rw [em]; exact q1)
    exact absurd this hb
theorem TabR.start {g : G} {lw : LW} {a : Int} {N M : Nat} (a0 : 0 ≤ a) (a1 : a < gn g) (hn : gn g ≤ 40) (hN : NextS g lw a N) (hM : M < 1099511627776) (u1 : us g a → ∀ b : Nat, b < 40 → (M.testBit b = true ↔ N.testBit b = true ∨ (b : Int) = a)) (u0 : ¬ us g a → M = 0) : TabR g lw 0 a M := by
  refine ⟨hM, fun b hb => ?_⟩
  by_cases u : us g a
  · refine ⟨fun z => ?_, fun n x h => ?_⟩
    · rcases (u1 u b hb).mp z with q | q
      · have q2 := (hN.2 b hb).mp q
        have hu := sc_us q2.2
        exact ⟨1, 64 * eW g lw a b + 1 + 0, ⟨⟨a0, a1⟩, u⟩, b, 0, q2.2, ⟨rfl, ⟨⟨by omega, q2.1⟩, hu.2⟩, rfl⟩, rfl⟩
      · rw [q]
        exact ⟨0, 0, rfl, ⟨⟨a0, a1⟩, u⟩, rfl⟩
    · refine (u1 u b hb).mpr ?_
      match n, h with
      | 0, h => exact Or.inr h.1.symm
      | 1, h =>
        obtain ⟨_, w, z, q1, ⟨q2, _⟩, q3⟩ := h
        have e1 : w = (b : Int) := q2.1
        have e3 : (UW g) w := q2.2.1
        rw [e1] at q1 e3
        exact Or.inl ((hN.2 b hb).mpr ⟨e3.1.2, q1⟩)
      | n + 2, h =>
        obtain ⟨_, w, z, q1, ⟨q2, q4⟩, q3⟩ := h
        have := (Pw.ends (PwI.pw q2)).1.1
        omega
  · rw [u0 u]
    refine ⟨fun z => by simp at z, fun n x h => ?_⟩
    exact absurd ((Pw.ends (PwI.pw h)).1).2 u
section RR
variable {d : Nat} {g : G} {lw : LW} {h : AH} {K : Int → AH → Prop}
theorem cRReach (hd : 3 < d) (r : RepCW g h) (l : LaidC g lw h) (fresh : h.1 7 14 = h.1 6 10 → ReachC g lw h ∧ HeapsC g lw h ∧ h.1 7 8 = heapsN g lw)
    (k0 : ReachC g lw h → HeapsC g lw h → h.1 7 8 = heapsN g lw → h.1 7 14 = h.1 6 10 → K 0 h)
    (k1 : ∀ h', ReachC g lw h' → HeapsC g lw h' → h'.1 7 8 = heapsN g lw → h'.1 7 14 = h.1 6 10 → Fr [37, 38] [(7, 8), (7, 14)] h h' → K 0 h') : Call d M_Ways_refreshReach [vR 7 (-1)] h K := by
  have nb := r.ok.nb
  refine c_Ways_refreshReach 3 hd ⟨fun c => ?_, fun c => k0 (fresh c).1 (fresh c).2.1 (fresh c).2.2 c⟩
  have f0 : Fr [37, 38] [(7, 8), (7, 14)] h (wI h 7 14 (h.1 6 10)) := Fr.wI (Or.inr (by decide))
  have fin : ∀ hh, (∀ a, 0 ≤ a → a < gn g → ∃ N : Nat, hh.2.1 37 a = (N : Int) ∧ TabR g lw (gn g) a N) → Fr [37] [] (wI h 7 14 (h.1 6 10)) hh → Call 3 M_Ways_findHeaps [vR 7 (-1)] hh (fun _ h1 => K 0 h1) := by
    intro hh t f
    have rc : ReachC g lw hh := fun a a0 a1 => by
      obtain ⟨N, n1, n2, n3⟩ := t a a0 a1
      exact ⟨N, n1, n2, fun b hb => ⟨(n3 b hb).1, fun ⟨n, x, p⟩ => (n3 b hb).2 n x (Pw.pwI (fun v hv => hv.1.2) p)⟩⟩
    refine cFindHeaps (by decide) ((r.fr f0).fr f) rc (fun h4 q4 c4 f4 => k1 h4 (fun a a0 a1 => ?_) q4 c4 ?_ ((f0.trans (f.mono (by decide) (by decide))).trans (f4.mono (by decide) (by decide))))
    · rw [f4.l 37]; exact rc a a0 a1
    · rw [f4.f 7 14, f.f 7 14]; exact rI_eq
  have round : ∀ m : Nat, ∀ (m0 v3 : Int) (hh : AH), 0 ≤ m0 → m0 < gn g → 0 ≤ v3 → v3 ≤ gn g → (gn g - m0) * 41 - v3 < m →
      (∀ a, 0 ≤ a → a < gn g → ∃ N : Nat, hh.2.1 37 a = (N : Int) ∧ TabR g lw m0 a N ∧ (a < v3 → TabR g lw (m0 + 1) a N)) → Fr [37] [] (wI h 7 14 (h.1 6 10)) hh → A_Ways_refreshReach_90 3 K (gn g) m0 v3 hh := by
    intro m
    induction m with
    | zero => intro m0 v3 hh x1 x2 x3 x4 e; omega
    | succ m ih =>
      intro m0 v3 hh x1 x2 x3 x4 e t f
      refine s_Ways_refreshReach_90 ⟨fun c2 => ⟨ii (by omega), ?_⟩, fun c2 => ?_⟩
      · have tm : ∀ a, 0 ≤ a → a < gn g → ∃ N : Nat, hh.2.1 37 a = (N : Int) ∧ TabR g lw (m0 + 1) a N := fun a a0 a1 => by
          obtain ⟨N, n1, n2, n3⟩ := t a a0 a1
          exact ⟨N, n1, n3 (by omega)⟩
        refine s_Ways_refreshReach_83 ⟨fun c3 => fin hh (by have e9 : m0 + 1 = gn g := by omega
                                                            rw [e9] at tm; exact tm) f, fun c3 => ih (m0 + 1) 0 hh (by omega) c3 (by omega) (by omega) (by omega) (fun a a0 a1 => ?_) f⟩
        obtain ⟨N, n1, n2⟩ := tm a a0 a1
        exact ⟨N, n1, n2, fun z => by omega⟩
      · obtain ⟨Na, p1, p2, p3⟩ := t v3 x3 c2
        obtain ⟨Nm, q1, q2, q3⟩ := t m0 x1 x2
        refine c_Ways_reaches 0 (by decide) ⟨ib (by omega), ?_⟩
        have em : m0 = ((m0.toNat : Nat) : Int) := by omega
        have eb : land (lushr (hh.2.1 37 v3) m0) 1 = if Na.testBit m0.toNat = true then 1 else 0 := by
          rw [p1]
          have := bit_and p2.1 (w := m0.toNat) (by omega)
          rw [← em] at this
          exact this
        rw [eb]
        by_cases hb : Na.testBit m0.toNat = true
        · rw [if_pos hb]
          have orl : lor (hh.2.1 37 v3) (hh.2.1 37 m0) = ((Na ||| Nm : Nat) : Int) := by
            rw [p1, q1]
            have := p2.1
            have := q2.1
            exact lor_nat (by omega) (by omega)
          refine br1 (br1 ⟨ib (by omega), ib (by omega), ii (by omega), ?_⟩)
          rw [orl]
          refine ih m0 (v3 + 1) _ x1 x2 (by omega) (by omega) (by omega) (fun a a0 a1 => ?_) (f.trans (Fr.wL (Or.inl (by decide))))
          by_cases ha : a = v3
          · subst ha
            have tn := TabR.via x1 (by omega) p2 q2 hb
            exact ⟨Na ||| Nm, rL_eq, tn.down, fun _ => tn⟩
          · obtain ⟨N, n1, n2, n3⟩ := t a a0 a1
            exact ⟨N, by rw [rL_nk ha]; exact n1, n2, fun z => n3 (by omega)⟩
        · rw [if_neg hb]
          refine br0 (br0 ⟨ii (by omega), ih m0 (v3 + 1) hh x1 x2 (by omega) (by omega) (by omega) (fun a a0 a1 => ?_) f⟩)
          by_cases ha : a = v3
          · subst ha
            exact ⟨Na, p1, p2, fun _ => TabR.skip x1 (by omega) p2 hb⟩
          · obtain ⟨N, n1, n2, n3⟩ := t a a0 a1
            exact ⟨N, n1, n2, fun z => n3 (by omega)⟩
  have start : ∀ m : Nat, ∀ (v2 : Int) (hh : AH), 0 ≤ v2 → v2 ≤ gn g → gn g - v2 < m →
      (∀ a, 0 ≤ a → a < v2 → ∃ N : Nat, hh.2.1 37 a = (N : Int) ∧ TabR g lw 0 a N) → Fr [37] [] (wI h 7 14 (h.1 6 10)) hh → A_Ways_refreshReach_36 3 K (gn g) v2 hh := by
    intro m
    induction m with
    | zero => intro v2 hh x1 x2 e; omega
    | succ m ih =>
      intro v2 hh x1 x2 e t f
      have rr := (r.fr f0).fr f
      have ll := (l.fr f0).fr f
      refine s_Ways_refreshReach_36 ⟨fun c2 => s_Ways_refreshReach_83 ⟨fun c3 => fin hh (fun a a0 a1 => by omega) f, fun c3 => round ((gn g) * 41 + 1).toNat 0 0 hh (by decide) c3 (by decide) (by omega) (by omega) (fun a a0 a1 => ?_) f⟩, fun c2 => ?_⟩
      · obtain ⟨N, n1, n2⟩ := t a a0 (by omega)
        exact ⟨N, n1, n2, fun z => by omega⟩
      · obtain ⟨⟨N, n1, n2⟩, -⟩ := ll v2 x1 c2
        have put : ∀ M : Nat, TabR g lw 0 v2 M → A_Ways_refreshReach_36 3 K (gn g) (v2 + 1) (wL hh 37 v2 (M : Int)) := fun M hM => ih (v2 + 1) _ (by omega) (by omega) (by omega) (fun a a0 a1 => by
          by_cases ha : a = v2
          · subst ha
            exact ⟨M, rL_eq, hM⟩
          · rw [rL_nk ha]
            exact t a a0 (by omega)) (f.trans (Fr.wL (Or.inl (by decide))))
        refine wIsUsed (by decide) rr (fun _ _ u => br1 ⟨ib (by omega), ii (by omega), ?_⟩) (fun nu => br0 ⟨ib (by omega), ii (by omega), put 0 (TabR.start x1 c2 nb.2 n1 (by decide) (fun z => absurd ⟨x1, c2, z⟩ nu) (fun _ => rfl))⟩)
        have ev : v2 = ((v2.toNat : Nat) : Int) := by omega
        have bo := bit_or n1.1 (w := v2.toNat) (by omega)
        rw [← ev] at bo
        rw [n2, bo.1]
        exact put _ (TabR.start x1 c2 nb.2 n1 bo.2 (fun _ b hb => by rw [bit_or_test]; exact ⟨fun z => z.imp id (fun q => by omega), fun z => z.imp id (fun q => by omega)⟩) (fun z => absurd u z))
  have e26 : (wI h 7 14 (h.1 6 10)).1 2 6 = gn g := (r.fr f0).n
  have := start ((gn g).toNat + 1) 0 (wI h 7 14 (h.1 6 10)) (by decide) (by omega) (by omega) (fun a a0 a1 => by omega) Fr.refl
  rw [r.n]
  exact this
end RR

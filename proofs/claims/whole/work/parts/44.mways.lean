/-! the ways of both: what is told of a step's cost -/
noncomputable abbrev eW (g : G) (lw : LW) : Int → Int → Int := fun a b => (sc g lw a b).1
abbrev UW (g : G) : Int → Prop := fun v => (0 ≤ v ∧ v < gn g) ∧ us g v
theorem sc_spec (g : G) (lw : LW) (a b : Int) : sc g lw a b = (0, 0, 0) ∨ StepIs g lw a b (sc g lw a b) := by
  by_cases hx : ∃ s, StepIs g lw a b s
  · obtain ⟨s, hs⟩ := hx
    rw [sc_of hs]
    exact Or.inr hs
  · unfold sc
    rw [dif_neg hx]
    exact Or.inl rfl
theorem sc_b (g : G) (lw : LW) (a b : Int) : 0 ≤ (sc g lw a b).1 ∧ (sc g lw a b).1 ≤ 99 := by
  rcases sc_spec g lw a b with z | z
  · rw [z]; exact ⟨Int.le_refl 0, by decide⟩
  · rcases z with ⟨z1, _⟩ | ⟨_, _, _, _, z5, _⟩
    · omega
    · rw [← z5]; exact cst_b _ _ _ _ _ _
theorem sc_us {g : G} {lw : LW} {a b : Int} (h : (sc g lw a b).1 ≠ 0) : us g a ∧ us g b := by
  rcases sc_spec g lw a b with z | z
  · rw [z] at h; exact absurd rfl h
  · rcases z with ⟨z1, _⟩ | ⟨z1, z2, _⟩
    · exact absurd z1 h
    · exact ⟨z1, z2⟩
theorem isCh_self {g : G} {a κ i : Int} : ¬ isCh g a a κ i := by
  rintro (z | z | z | z)
  · exact z.2.2.2.1 rfl
  · omega
  · omega
  · exact z.2.2.2.1 z.2.2.2.2.1
theorem sc_self (g : G) (lw : LW) (a : Int) : sc g lw a a = (0, 0, 0) := sc_none (Or.inr (fun κ i => isCh_self))
theorem PwI.mono {e : Int → Int → Int} {U : Int → Prop} {m : Int} : ∀ {n : Nat} {a b x : Int}, PwI e U m a b n x → PwI e U (m + 1) a b n x
  | 0, a, b, x, h => h
  | n + 1, a, b, x, h => by
    obtain ⟨h0, w, z, h1, ⟨h2, h3⟩, h4⟩ := h
    exact ⟨h0, w, z, h1, ⟨PwI.mono h2, h3.imp id (fun q => by omega)⟩, h4⟩
theorem TabI.down {e : Int → Int → Int} {U : Int → Prop} {m B a b x : Int} (t : TabI e U (m + 1) B a b x) : TabI e U m B a b x := ⟨t.1, t.2.1, fun n y h hy => t.2.2 n y (PwI.mono h) hy⟩
theorem TabI.nn {e : Int → Int → Int} {U : Int → Prop} {m B a b x : Int} (he : ∀ a b, 0 ≤ e a b) (hB : 0 ≤ B) (t : TabI e U m B a b x) : 0 ≤ x ∧ x ≤ B := by
  refine ⟨?_, t.2.1⟩
  by_cases hx : x < B
  · obtain ⟨n, h⟩ := t.1 hx
    exact (Pw.weight he h).1
  · omega
/-- the table at first -/
theorem TabI.start {g : G} {lw : LW} {B a b x : Int} (a0 : 0 ≤ a) (a1 : a < gn g) (b0 : 0 ≤ b) (b1 : b < gn g) (hB : 6337 < B) (h0 : a = b → us g a → x = 0) (h1 : ¬ (a = b ∧ us g a) → x = if (sc g lw a b).1 = 0 then B else 64 * (sc g lw a b).1 + 1) : TabI (eW g lw) (UW g) 0 B a b x := by
  have cb := sc_b g lw a b
  by_cases hc : a = b ∧ us g a
  · have hx := h0 hc.1 hc.2
    rw [hx]
    refine ⟨fun _ => ⟨0, hc.1, ⟨⟨a0, a1⟩, hc.2⟩, rfl⟩, by omega, fun n y h hy => (Pw.weight (fun a b => (sc_b g lw a b).1) (PwI.pw h)).1⟩
  · have hx := h1 hc
    by_cases hz : (sc g lw a b).1 = 0
    · rw [if_pos hz] at hx
      refine ⟨fun q => by omega, by omega, fun n y h hy => ?_⟩
      match n, h with
      | 0, h => exact absurd ⟨h.1, h.2.1.2⟩ hc
      | 1, h =>
        obtain ⟨_, w, z, q1, ⟨q2, _⟩, q3⟩ := h
        have : w = b := q2.1
        rw [this] at q1
        exact absurd hz q1
      | n + 2, h =>
        obtain ⟨_, w, z, q1, ⟨q2, q4⟩, q3⟩ := h
        have := (Pw.ends (PwI.pw q2)).1.1
        omega
    · rw [if_neg hz] at hx
      have hu := sc_us hz
      refine ⟨fun _ => ⟨1, ⟨⟨a0, a1⟩, hu.1⟩, b, 0, hz, ⟨rfl, ⟨⟨b0, b1⟩, hu.2⟩, rfl⟩, by rw [hx]; show 64 * (sc g lw a b).1 + 1 = 64 * (sc g lw a b).1 + 1 + 0; omega⟩, by omega, fun n y h hy => ?_⟩
      match n, h with
      | 0, h => exact absurd ⟨h.1, h.2.1.2⟩ hc
      | 1, h =>
        obtain ⟨_, w, z, q1, ⟨q2, _⟩, q3⟩ := h
        have e1 : w = b := q2.1
        have e2 : z = 0 := q2.2.2
        rw [e1, e2] at q3
        have q5 : y = 64 * (sc g lw a b).1 + 1 + 0 := q3
        omega
      | n + 2, h =>
        obtain ⟨_, w, z, q1, ⟨q2, q4⟩, q3⟩ := h
        have := (Pw.ends (PwI.pw q2)).1.1
        omega
/-- a way's least weight as a table has it; B: there is none -/
def WayIs (g : G) (lw : LW) (B a b x : Int) : Prop := (x = B ∧ NoWay (eW g lw) (UW g) a b) ∨ (x < B ∧ IsD (eW g lw) (UW g) a b x)
def WaysM (g : G) (lw : LW) (h : AH) : Prop := ∀ a b, 0 ≤ a → a < gn g → 0 ≤ b → b < gn g → WayIs g lw 1000000000 a b (h.1 81 (40 * a + b))
section MW
variable {d : Nat} {g : G} {lw : LW} {h : AH} {K : Int → AH → Prop}
theorem LaidM.fr {L : List Nat} {F : List (Nat × Int)} {h' : AH} (r : LaidM g lw h) (f : Fr L F h h') (h1 : (∀ o ∈ [78, 79, 80], o ∉ L) := by decide) (h2 : (∀ o ∈ [78, 79, 80], o ∉ F.map Prod.fst) := by decide) : LaidM g lw h' := by
  intro a b a0 a1 b0 b1
  have q := r a b a0 a1 b0 b1
  unfold StM at *
  rw [f.i 78 (h1 _ (by decide)) (h2 _ (by decide)), f.i 79 (h1 _ (by decide)) (h2 _ (by decide)), f.i 80 (h1 _ (by decide)) (h2 _ (by decide))]
  exact q
theorem mIsStep (hd : 0 < d) {a b : Int} (r : RepM g h) (l : LaidM g lw h) (a0 : 0 ≤ a) (a1 : a < gn g) (b0 : 0 ≤ b) (b1 : b < gn g) (kT : (sc g lw a b).1 ≠ 0 → K 1 h) (kF : (sc g lw a b).1 = 0 → K 0 h) : Call d M_M_isStep [vR 12 (-1), vI a, vI b] h K := by
  have nb := r.ok.nb
  have cb := sc_b g lw a b
  refine c_M_isStep 0 hd ⟨ii (by omega), ii (by omega), ib (by omega), ?_⟩
  rw [(l a b a0 a1 b0 b1).1]
  refine ⟨fun c => kF ?_, fun c => kT (fun z => ?_)⟩
  · by_cases hz : (sc g lw a b).1 = 0
    · exact hz
    · rw [if_neg hz] at c; omega
  · rw [if_pos z] at c; omega
theorem mStepWay (hd : 1 < d) {a b : Int} (r : RepM g h) (l : LaidM g lw h) (a0 : 0 ≤ a) (a1 : a < gn g) (b0 : 0 ≤ b) (b1 : b < gn g) (k : K (if (sc g lw a b).1 = 0 then 1000000000 else 64 * (sc g lw a b).1 + 1) h) : Call d M_M_stepWay [vR 12 (-1), vI a, vI b] h K := by
  have nb := r.ok.nb
  have cb := sc_b g lw a b
  refine c_M_stepWay 1 hd (mIsStep (by decide) r l a0 a1 b0 b1 (fun hz => br1 ?_) (fun hz => br0 ?_))
  · have e := (l a b a0 a1 b0 b1).1
    rw [if_neg hz] at e k
    rw [e]
    exact ⟨ii (by omega), ii (by omega), ib (by omega), ii (by omega), ii (by omega), k⟩
  · rw [if_pos hz] at k
    exact k
theorem mLaysWays (hd : 5 < d) (r : RepM g h) (rl : RepML lw h) (k : ∀ h', WaysM g lw h' → LaidM g lw h' → Fr [76, 77, 78, 79, 80, 81] [] h h' → K 0 h') : Call d M_M_laysWays [vR 12 (-1)] h K := by
  have nb := r.ok.nb
  have he : ∀ a b, 0 ≤ eW g lw a b := fun a b => (sc_b g lw a b).1
  refine c_M_laysWays 5 hd (mLaysSteps (by decide) r rl (fun hs ls fs => ?_))
  have fs' : Fr [76, 77, 78, 79, 80, 81] [] h hs := fs.mono (by decide) (by decide)
  have fin : ∀ hh, (∀ a b, 0 ≤ a → a < gn g → 0 ≤ b → b < gn g → TabI (eW g lw) (UW g) (gn g) 1000000000 a b (hh.1 81 (40 * a + b))) → Fr [81] [] hs hh → K 0 hh := fun hh t f => k hh (fun a b a0 a1 b0 b1 => (t a b a0 a1 b0 b1).done nb.2 (by decide) (fun a b => sc_b g lw a b) (fun v hv => hv.1) (Int.le_refl _)) (ls.fr f) (fs'.trans (f.mono (by decide) (by decide)))
  have round : ∀ m : Nat, ∀ (m0 v2 v3 : Int) (hh : AH), 0 ≤ m0 → m0 < gn g → 0 ≤ v2 → v2 < gn g → 0 ≤ v3 → v3 ≤ gn g → (gn g - m0) * 1681 - v2 * 41 - v3 < m →
      (∀ a b, 0 ≤ a → a < gn g → 0 ≤ b → b < gn g → TabI (eW g lw) (UW g) m0 1000000000 a b (hh.1 81 (40 * a + b)) ∧ ((a < v2 ∨ (a = v2 ∧ b < v3)) → TabI (eW g lw) (UW g) (m0 + 1) 1000000000 a b (hh.1 81 (40 * a + b)))) → Fr [81] [] hs hh → A_M_laysWays_92 5 K m0 v2 v3 hh := by
    intro m
    induction m with
    | zero => intro m0 v2 v3 hh x1 x2 x3 x4 x5 x6 e; omega
    | succ m ih =>
      intro m0 v2 v3 hh x1 x2 x3 x4 x5 x6 e t f
      have rr := (r.fr fs').fr f
      refine s_M_laysWays_92 ?_
      rw [rr.n]
      refine ⟨fun c => ⟨ii (by omega), s_M_laysWays_82 ?_⟩, fun c => ?_⟩
      · rw [rr.n]
        refine ⟨fun c2 => ⟨ii (by omega), s_M_laysWays_72 ?_⟩, fun c2 => ih m0 (v2 + 1) 0 hh x1 x2 (by omega) c2 (by omega) (by omega) (by omega) (fun a b a0 a1 b0 b1 => ⟨(t a b a0 a1 b0 b1).1, fun z => (t a b a0 a1 b0 b1).2 (by omega)⟩) f⟩
        rw [rr.n]
        have tm : ∀ a b, 0 ≤ a → a < gn g → 0 ≤ b → b < gn g → TabI (eW g lw) (UW g) (m0 + 1) 1000000000 a b (hh.1 81 (40 * a + b)) := fun a b a0 a1 b0 b1 => (t a b a0 a1 b0 b1).2 (by omega)
        refine ⟨fun c3 => fin hh (by have e9 : m0 + 1 = gn g := by omega
                                     rw [e9] at tm; exact tm) f, fun c3 => s_M_laysWays_82 ?_⟩
        rw [rr.n]
        exact ⟨fun c4 => by omega, fun c4 => ih (m0 + 1) 0 0 hh (by omega) c3 (by omega) (by omega) (by omega) (by omega) (by omega) (fun a b a0 a1 b0 b1 => ⟨tm a b a0 a1 b0 b1, fun z => by omega⟩) f⟩
      · have t0 := (t v2 v3 x3 x4 x5 c).1
        have t1 := (t v2 m0 x3 x4 x1 x2).1
        have t2 := (t m0 v3 x1 x2 x5 c).1
        have b1 := t1.nn he (by decide)
        have b2 := t2.nn he (by decide)
        have b0 := t0.nn he (by decide)
        refine ⟨ii (by omega), ii (by omega), ib (by omega), ii (by omega), ib (by omega), ii (by omega), ii (by omega), ib (by omega), ?_⟩
        have step : ∀ x', (x' = hh.1 81 (40 * v2 + v3) ∨ (x' = hh.1 81 (40 * v2 + m0) + hh.1 81 (40 * m0 + v3) ∧ hh.1 81 (40 * v2 + m0) < 1000000000 ∧ hh.1 81 (40 * m0 + v3) < 1000000000 ∧ hh.1 81 (40 * v2 + m0) + hh.1 81 (40 * m0 + v3) < 1000000000)) → x' ≤ hh.1 81 (40 * v2 + v3) → (hh.1 81 (40 * v2 + m0) < 1000000000 → hh.1 81 (40 * m0 + v3) < 1000000000 → x' ≤ hh.1 81 (40 * v2 + m0) + hh.1 81 (40 * m0 + v3)) → inI (v3 + 1) ∧ A_M_laysWays_92 5 K m0 v2 (v3 + 1) (wI hh 81 (40 * v2 + v3) x') := by
          intro x' q1 q2 q3
          refine ⟨ii (by omega), ih m0 v2 (v3 + 1) _ x1 x2 x3 x4 (by omega) (by omega) (by omega) (fun a b a0 a1 b0' b1' => ?_) (f.trans (Fr.wI (Or.inl (by decide))))⟩
          by_cases hab : a = v2 ∧ b = v3
          · rw [hab.1, hab.2, rI_eq]
            have tn := TabI.via he t0 t1 t2 q1 q2 q3
            exact ⟨tn.down, fun _ => tn⟩
          · rw [rI_nk (by omega)]
            exact ⟨(t a b a0 a1 b0' b1').1, fun z => (t a b a0 a1 b0' b1').2 (by omega)⟩
        refine mSum (by decide) b1.1 b2.1 (fun hz => mMin (by decide) (step _ ?_ ?_ ?_)) (fun z1 z2 => mMin (by decide) (step _ ?_ ?_ ?_))
        all_goals omega
  have start : ∀ m : Nat, ∀ (v1 v2 : Int) (hh : AH), 0 ≤ v1 → v1 < gn g → 0 ≤ v2 → v2 ≤ gn g → (gn g - v1) * 41 - v2 < m →
      (∀ a b, 0 ≤ a → a < gn g → 0 ≤ b → b < gn g → (a < v1 ∨ (a = v1 ∧ b < v2)) → TabI (eW g lw) (UW g) 0 1000000000 a b (hh.1 81 (40 * a + b))) → Fr [81] [] hs hh → A_M_laysWays_16 5 K v1 v2 hh := by
    intro m
    induction m with
    | zero => intro v1 v2 hh x1 x2 x3 x4 e; omega
    | succ m ih =>
      intro v1 v2 hh x1 x2 x3 x4 e t f
      have rr := (r.fr fs').fr f
      have ll := ls.fr f
      refine s_M_laysWays_16 ?_
      rw [rr.n]
      refine ⟨fun c => ⟨ii (by omega), s_M_laysWays_6 ?_⟩, fun c => ⟨ii (by omega), ii (by omega), ?_⟩⟩
      · rw [rr.n]
        refine ⟨fun c2 => s_M_laysWays_72 ?_, fun c2 => ih (v1 + 1) 0 hh (by omega) c2 (by omega) (by omega) (by omega) (fun a b a0 a1 b0 b1 z => t a b a0 a1 b0 b1 (by omega)) f⟩
        rw [rr.n]
        refine ⟨fun c3 => by omega, fun c3 => s_M_laysWays_82 ?_⟩
        rw [rr.n]
        exact ⟨fun c4 => by omega, fun c4 => round ((gn g) * 1681 + 1).toNat 0 0 0 hh (by decide) c3 (by decide) c3 (by decide) (by omega) (by omega) (fun a b a0 a1 b0 b1 => ⟨t a b a0 a1 b0 b1 (by omega), fun z => by omega⟩) f⟩
      · have put : ∀ x, TabI (eW g lw) (UW g) 0 1000000000 v1 v2 x → A_M_laysWays_16 5 K v1 (v2 + 1) (wI hh 81 (40 * v1 + v2) x) := by
          intro x hx
          refine ih v1 (v2 + 1) _ x1 x2 (by omega) (by omega) (by omega) (fun a b a0 a1 b0 b1 z => ?_) (f.trans (Fr.wI (Or.inl (by decide))))
          by_cases hab : a = v1 ∧ b = v2
          · rw [hab.1, hab.2, rI_eq]; exact hx
          · rw [rI_nk (by omega)]
            exact t a b a0 a1 b0 b1 (by omega)
        have other : ¬ (v1 = v2 ∧ us g v1) → A_M_laysWays_51 5 K v1 v2 (40 * v1 + v2) hh := fun hn => s_M_laysWays_51 (mStepWay (by decide) rr ll x1 x2 x3 c ⟨ib (by omega), ii (by omega), put _ (TabI.start x1 x2 x3 c (by decide) (fun z1 z2 => absurd ⟨z1, z2⟩ hn) (fun _ => rfl))⟩)
        refine ⟨fun c2 => other (fun z => c2 z.1), fun c2 => mIsUsed (by decide) rr x1 x2 (fun ua => br1 ⟨ib (by omega), ii (by omega), put 0 (TabI.start x1 x2 x3 c (by decide) (fun _ _ => rfl) (fun z => absurd ⟨c2, ua⟩ z))⟩) (fun nu => br0 (other (fun z => nu z.2)))⟩
  refine s_M_laysWays_6 ?_
  have rr := r.fr fs'
  rw [rr.n]
  refine ⟨fun c => s_M_laysWays_72 ?_, fun c => start ((gn g) * 41 + 1).toNat 0 0 hs (by decide) c (by decide) (by omega) (by omega) (fun a b a0 a1 b0 b1 z => by omega) Fr.refl⟩
  rw [rr.n]
  exact ⟨fun c2 => fin hs (fun a b a0 a1 => by omega) Fr.refl, fun c2 => by omega⟩
end MW

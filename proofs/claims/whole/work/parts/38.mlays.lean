/-! the reference lays the steps -/
theorem fac_in {g : G} (r : OkG g) {a b κ i : Int} (a0 : 0 ≤ a) (a1 : a < gn g) (b0 : 0 ≤ b) (b1 : b < gn g) (hκ : 0 ≤ κ ∧ κ ≤ 3) (hi : 0 ≤ i ∧ i ≤ 8) (hc : isCh g a b κ i) : ∀ j, j < 9 → inI (fac g a b κ i j) := by
  have nb := r.nb
  have la := r.lb a0 a1
  have lb := r.lb b0 b1
  have ka := r.kb a0 a1
  have kb := r.kb b0 b1
  intro j hj
  match j, hj with
  | 0, _ => exact ii (by show _ ≤ κ ∧ κ < _; omega)
  | 1, _ => exact ii (by show _ ≤ i ∧ i < _; omega)
  | 2, _ =>
    show inI (if κ = 1 then 26 else gt g a i)
    split
    · exact ii (by decide)
    · have t := r.tb a0 a1 hi.1 (by rcases hc with z | z | z | z <;> omega)
      exact ii (by omega)
  | 3, _ =>
    show inI (if κ = 2 then 26 else if κ = 3 then gt g a (i + 1) else gt g b i)
    split
    · exact ii (by decide)
    · split
      · have t := r.tb a0 a1 (k := i + 1) (by omega) (by rcases hc with z | z | z | z <;> omega)
        exact ii (by omega)
      · have t := r.tb b0 b1 hi.1 (by rcases hc with z | z | z | z <;> omega)
        exact ii (by omega)
  | 4, _ => exact ii (by show _ ≤ gl g a ∧ gl g a < _; omega)
  | 5, _ => exact ii (by show _ ≤ gk g a ∧ gk g a < _; omega)
  | 6, _ => exact ii (by show _ ≤ gk g b ∧ gk g b < _; omega)
  | 7, _ => exact ii (by show _ ≤ a ∧ a < _; omega)
  | 8, _ => exact ii (by show _ ≤ b ∧ b < _; omega)
  | j + 9, hj => omega
/-- the best of those CHANGES for which B holds: what it costs (a thousand millions: there is none), kind, place -/
def SInv (g : G) (lw : LW) (a b : Int) (B : Int → Int → Prop) (x k p : Int) : Prop :=
  (x = 1000000000 ∧ ∀ κ i, B κ i → isCh g a b κ i → cst g lw a b κ i = 0) ∨
  (x ≠ 0 ∧ x ≤ 99 ∧ B k p ∧ isCh g a b k p ∧ cst g lw a b k p = x ∧ ∀ κ i, B κ i → isCh g a b κ i → cst g lw a b κ i ≠ 0 → x < cst g lw a b κ i ∨ (x = cst g lw a b κ i ∧ (k < κ ∨ (k = κ ∧ p ≤ i))))
def Bf (v4 v5 : Int) : Int → Int → Prop := fun κ i => κ < v4 ∨ (κ = v4 ∧ i < v5)
theorem SInv.skip {g : G} {lw : LW} {a b v4 v5 x k p : Int} (s : SInv g lw a b (Bf v4 v5) x k p) (hn : isCh g a b v4 v5 → cst g lw a b v4 v5 = 0) : SInv g lw a b (Bf v4 (v5 + 1)) x k p := by
  have key : ∀ κ i, Bf v4 (v5 + 1) κ i → Bf v4 v5 κ i ∨ (κ = v4 ∧ i = v5) := fun κ i h => by
    unfold Bf at *
    omega
  rcases s with ⟨s1, s2⟩ | ⟨s1, s2, s3, s4, s5, s6⟩
  · refine Or.inl ⟨s1, fun κ i hb hc => ?_⟩
    rcases key κ i hb with z | ⟨rfl, rfl⟩
    · exact s2 κ i z hc
    · exact hn hc
  · refine Or.inr ⟨s1, s2, by unfold Bf at *; omega, s4, s5, fun κ i hb hc h0 => ?_⟩
    rcases key κ i hb with z | ⟨rfl, rfl⟩
    · exact s6 κ i z hc h0
    · exact absurd (hn hc) h0
theorem SInv.less {g : G} {lw : LW} {a b v4 v5 x k p : Int} (s : SInv g lw a b (Bf v4 v5) x k p) (hc : isCh g a b v4 v5) (h0 : cst g lw a b v4 v5 ≠ 0) (hl : cst g lw a b v4 v5 < x) : SInv g lw a b (Bf v4 (v5 + 1)) (cst g lw a b v4 v5) v4 v5 := by
  have key : ∀ κ i, Bf v4 (v5 + 1) κ i → Bf v4 v5 κ i ∨ (κ = v4 ∧ i = v5) := fun κ i h => by
    unfold Bf at *
    omega
  refine Or.inr ⟨h0, (cst_b g lw a b v4 v5).2, by unfold Bf; omega, hc, rfl, fun κ i hb hc2 h1 => ?_⟩
  rcases key κ i hb with z | ⟨rfl, rfl⟩
  · rcases s with ⟨s1, s2⟩ | ⟨s1, s2, s3, s4, s5, s6⟩
    · exact absurd (s2 κ i z hc2) h1
    · have := s6 κ i z hc2 h1
      omega
  · exact Or.inr ⟨rfl, Or.inr ⟨rfl, Int.le_refl _⟩⟩
theorem SInv.more {g : G} {lw : LW} {a b v4 v5 x k p : Int} (s : SInv g lw a b (Bf v4 v5) x k p) (hl : x ≤ cst g lw a b v4 v5) : SInv g lw a b (Bf v4 (v5 + 1)) x k p := by
  have key : ∀ κ i, Bf v4 (v5 + 1) κ i → Bf v4 v5 κ i ∨ (κ = v4 ∧ i = v5) := fun κ i h => by
    unfold Bf at *
    omega
  have cb := cst_b g lw a b v4 v5
  rcases s with ⟨s1, s2⟩ | ⟨s1, s2, s3, s4, s5, s6⟩
  · omega
  · refine Or.inr ⟨s1, s2, by unfold Bf at *; omega, s4, s5, fun κ i hb hc h0 => ?_⟩
    rcases key κ i hb with z | ⟨rfl, rfl⟩
    · exact s6 κ i z hc h0
    · unfold Bf at s3
      omega
theorem SInv.step {g : G} {lw : LW} {a b x k p : Int} (ua : us g a) (ub : us g b) (s : SInv g lw a b (Bf 4 0) x k p) (hb : ∀ κ i, isCh g a b κ i → κ ≤ 3) : (x = 1000000000 → sc g lw a b = (0, 0, 0)) ∧ (x ≠ 1000000000 → sc g lw a b = (x, k, p)) := by
  have hB : ∀ κ i, isCh g a b κ i → Bf 4 0 κ i := fun κ i h => Or.inl (by have := hb κ i h; omega)
  rcases s with ⟨s1, s2⟩ | ⟨s1, s2, s3, s4, s5, s6⟩
  · exact ⟨fun _ => sc_of (Or.inl ⟨rfl, rfl, fun _ _ κ i h => s2 κ i (hB κ i h) h⟩), fun z => absurd s1 z⟩
  · exact ⟨fun z => by omega, fun _ => sc_of (Or.inr ⟨ua, ub, s1, s4, s5, fun κ i h h0 => s6 κ i (hB κ i h) h h0⟩)⟩
theorem sc_none {g : G} {lw : LW} {a b : Int} (h : ¬ (us g a ∧ us g b) ∨ ∀ κ i, ¬ isCh g a b κ i) : sc g lw a b = (0, 0, 0) := by
  refine sc_of (Or.inl ⟨rfl, rfl, fun ua ub κ i hc => ?_⟩)
  rcases h with z | z
  · exact absurd ⟨ua, ub⟩ z
  · exact absurd hc (z κ i)
/-- the STEP from a to b, as the reference holds it -/
def StM (g : G) (lw : LW) (h : AH) (a b : Int) : Prop := h.1 78 (40 * a + b) = (if (sc g lw a b).1 = 0 then 1000000000 else (sc g lw a b).1) ∧ ((sc g lw a b).1 ≠ 0 → h.1 79 (40 * a + b) = (sc g lw a b).2.1 ∧ h.1 80 (40 * a + b) = (sc g lw a b).2.2)
def LaidM (g : G) (lw : LW) (h : AH) : Prop := ∀ a b, 0 ≤ a → a < gn g → 0 ≤ b → b < gn g → StM g lw h a b
def at3 (x : Int) (h h' : AH) : Prop := ∀ y, y ≠ x → h'.1 78 y = h.1 78 y ∧ h'.1 79 y = h.1 79 y ∧ h'.1 80 y = h.1 80 y
section ML
variable {d : Nat} {g : G} {lw : LW} {h : AH} {K : Int → AH → Prop}
theorem mMayNear (hd : 0 < d) {a b : Int} (r : RepM g h) (a0 : 0 ≤ a) (a1 : a < gn g) (b0 : 0 ≤ b) (b1 : b < gn g) (kT : gl g a - gl g b < 2 → gl g b - gl g a < 2 → K 1 h) (kF : ¬ (gl g a - gl g b < 2 ∧ gl g b - gl g a < 2) → K 0 h) : Call d M_M_mayNear [vR 12 (-1), vI a, vI b] h K := by
  have nb := r.ok.nb
  have la := r.ok.lb a0 a1
  have lb := r.ok.lb b0 b1
  refine c_M_mayNear 0 hd ?_
  rw [r.l a0 a1, r.l b0 b1]
  exact ⟨ib (by omega), ib (by omega), ii (by omega), fun c => kF (by omega), fun c => ⟨ii (by omega), fun c2 => kF (by omega), fun c2 => kT c c2⟩⟩
theorem mFeels (hd : 1 < d) {a b κ i : Int} (r : RepM g h) (a0 : 0 ≤ a) (a1 : a < gn g) (b0 : 0 ≤ b) (b1 : b < gn g) (hκ : 0 ≤ κ ∧ κ ≤ 3) (hi : 0 ≤ i ∧ i ≤ 8) (hc : isCh g a b κ i) (k : ∀ h', FacM (fac g a b κ i) h' → Fr [77] [] h h' → K 0 h') : Call d M_M_feels [vR 12 (-1), vI a, vI b, vI κ, vI i] h K := by
  have nb := r.ok.nb
  refine c_M_feels 1 hd ?_
  have f0 : Fr [77] [] h (wI (wI h 77 0 κ) 77 1 i) := (Fr.wI (Or.inl (by decide))).trans (Fr.wI (Or.inl (by decide)))
  have tail2 : ∀ (hh : AH) (y : Int), Fr [77] [] h hh → hh.1 77 0 = κ → hh.1 77 1 = i → hh.1 77 2 = fac g a b κ i 2 → y = fac g a b κ i 3 → A_M_feels_77 1 K a b 3 y hh := by
    intro hh y f q0 q1 q2 hy
    have r' := r.fr f
    refine s_M_feels_77 ⟨ib (by decide), ib (by omega), ib (by omega), k _ ?_ ?_⟩
    · intro j hj
      have e58 : hh.1 58 a = gl g a := r'.l a0 a1
      have e60 : hh.1 60 a = gk g a := r'.k a0 a1
      have e60b : hh.1 60 b = gk g b := r'.k b0 b1
      match j, hj with
      | 0, _ => simp [wI]; exact q0
      | 1, _ => simp [wI]; exact q1
      | 2, _ => simp [wI]; exact q2
      | 3, _ => simp [wI]; exact hy
      | 4, _ => simp [wI]; exact e58
      | 5, _ => simp [wI]; exact e60
      | 6, _ => simp [wI]; exact e60b
      | 7, _ => simp [wI]; rfl
      | 8, _ => simp [wI]; rfl
      | j + 9, hj => omega
    · refine f.trans ?_
      exact (((((Fr.wI (Or.inl (by decide))).trans (Fr.wI (Or.inl (by decide)))).trans (Fr.wI (Or.inl (by decide)))).trans (Fr.wI (Or.inl (by decide)))).trans (Fr.wI (Or.inl (by decide)))).trans (Fr.wI (Or.inl (by decide)))
  have tail1 : ∀ (x : Int), x = fac g a b κ i 2 → A_M_feels_37 1 K a b κ i 2 x (wI (wI h 77 0 κ) 77 1 i) := by
    intro x hx
    have f1 : Fr [77] [] h (wI (wI (wI h 77 0 κ) 77 1 i) 77 2 x) := f0.trans (Fr.wI (Or.inl (by decide)))
    have g0 : (wI (wI (wI h 77 0 κ) 77 1 i) 77 2 x).1 77 0 = κ := by simp [wI]
    have g1 : (wI (wI (wI h 77 0 κ) 77 1 i) 77 2 x).1 77 1 = i := by simp [wI]
    have g2 : (wI (wI (wI h 77 0 κ) 77 1 i) 77 2 x).1 77 2 = fac g a b κ i 2 := by rw [rI_eq]; exact hx
    refine s_M_feels_37 ⟨ib (by decide), fun c => ⟨fun c2 => ?_, fun c2 => ?_⟩, fun c => tail2 _ _ f1 g0 g1 g2 ?_⟩
    · refine mLetter (by decide) (r.fr f1) b0 b1 hi.1 (by rcases hc with z | z | z | z <;> omega) (tail2 _ _ f1 g0 g1 g2 ?_)
      show _ = if κ = 2 then 26 else if κ = 3 then gt g a (i + 1) else gt g b i
      rw [if_neg c, if_neg c2]
    · have hl : i + 1 < gl g a := by rcases hc with z | z | z | z <;> omega
      refine ⟨ii (by omega), mLetter (by decide) (r.fr f1) a0 a1 (by omega) hl (tail2 _ _ f1 g0 g1 g2 ?_)⟩
      show _ = if κ = 2 then 26 else if κ = 3 then gt g a (i + 1) else gt g b i
      rw [if_neg c, if_pos c2]
    · show _ = if κ = 2 then 26 else if κ = 3 then gt g a (i + 1) else gt g b i
      rw [if_pos c]
  refine ⟨fun c => mLetter (by decide) (r.fr f0) a0 a1 hi.1 (by rcases hc with z | z | z | z <;> omega) (tail1 _ ?_), fun c => tail1 _ ?_⟩
  · show _ = if κ = 1 then 26 else gt g a i
    rw [if_neg c]
  · show _ = if κ = 1 then 26 else gt g a i
    rw [if_pos c]
theorem mLaysStep (hd : 3 < d) {a b : Int} (r : RepM g h) (rl : RepML lw h) (a0 : 0 ≤ a) (a1 : a < gn g) (b0 : 0 ≤ b) (b1 : b < gn g) (ua : us g a) (ub : us g b) (k : ∀ h', StM g lw h' a b → at3 (40 * a + b) h h' → Fr [76, 77, 78, 79, 80] [] h h' → K 0 h') : Call d M_M_laysStep [vR 12 (-1), vI a, vI b] h K := by
  have nb := r.ok.nb
  have lb := r.ok.lb b0 b1
  have la := r.ok.lb a0 a1
  refine c_M_laysStep 3 hd ⟨ii (by omega), ii (by omega), ib (by omega), ?_⟩
  have hchk : ∀ κ i, isCh g a b κ i → 0 ≤ κ ∧ κ ≤ 3 ∧ 0 ≤ i ∧ i ≤ 8 := fun κ i hc => by rcases hc with z | z | z | z <;> omega
  have f0 : Fr [76, 77, 78, 79, 80] [] h (wI h 78 (40 * a + b) 1000000000) := Fr.wI (Or.inl (by decide))
  have key : ∀ m : Nat, ∀ (v4 v5 : Int) (hh : AH), 0 ≤ v4 → v4 ≤ 3 → 0 ≤ v5 → v5 ≤ 9 → (4 - v4) * 10 - v5 < m → SInv g lw a b (Bf v4 v5) (hh.1 78 (40 * a + b)) (hh.1 79 (40 * a + b)) (hh.1 80 (40 * a + b)) → at3 (40 * a + b) h hh → Fr [76, 77, 78, 79, 80] [] h hh → A_M_laysStep_27 3 K a b (40 * a + b) v4 v5 hh := by
    intro m
    induction m with
    | zero => intro v4 v5 hh x1 x2 x3 x4 e; omega
    | succ m ih =>
      intro v4 v5 hh x1 x2 x3 x4 e s t f
      have rr := r.fr f
      have rrl := rl.fr f
      refine s_M_laysStep_27 ⟨fun c => ⟨ii (by omega), ?_⟩, fun c => ?_⟩
      · have s2 : SInv g lw a b (Bf (v4 + 1) 0) (hh.1 78 (40 * a + b)) (hh.1 79 (40 * a + b)) (hh.1 80 (40 * a + b)) := by
          have cb : ∀ κ i, isCh g a b κ i → Bf (v4 + 1) 0 κ i → Bf v4 v5 κ i := fun κ i hc hb => by
            have := hchk κ i hc
            unfold Bf at *
            omega
          rcases s with ⟨s1, s2⟩ | ⟨s1, s2, s3, s4, s5, s6⟩
          · exact Or.inl ⟨s1, fun κ i hb hc => s2 κ i (cb κ i hc hb) hc⟩
          · exact Or.inr ⟨s1, s2, by unfold Bf at *; omega, s4, s5, fun κ i hb hc h0 => s6 κ i (cb κ i hc hb) hc h0⟩
        refine s_M_laysStep_18 ⟨fun c2 => ?_, fun c2 => ih (v4 + 1) 0 hh (by omega) (by omega) (by omega) (by omega) (by omega) s2 t f⟩
        have e3 : v4 + 1 = 4 := by omega
        rw [e3] at s2
        have q := s2.step ua ub (fun κ i hc => (hchk κ i hc).2.1)
        refine k hh ?_ t f
        unfold StM
        by_cases hx : hh.1 78 (40 * a + b) = 1000000000
        · rw [q.1 hx]
          exact ⟨by rw [if_pos rfl]; exact hx, fun z => absurd rfl z⟩
        · rw [q.2 hx]
          have hne : hh.1 78 (40 * a + b) ≠ 0 := by
            rcases s2 with ⟨s1, _⟩ | ⟨s1, _⟩
            · omega
            · exact s1
          exact ⟨by rw [if_neg hne], fun _ => ⟨rfl, rfl⟩⟩
      · refine mIsChange (by decide) rr a0 a1 b0 b1 ⟨x1, x2⟩ ⟨x3, by omega⟩ (fun hc => br1' ?_) (fun hc => br0' ⟨ii (by omega), ih v4 (v5 + 1) hh x1 x2 (by omega) (by omega) (by omega) (s.skip (fun z => absurd z hc)) t f⟩)
        refine mFeels (by decide) rr a0 a1 b0 b1 ⟨x1, x2⟩ ⟨x3, by omega⟩ hc (fun h2 q2 f2 => ?_)
        refine mCostOf (by decide) (fac_in r.ok a0 a1 b0 b1 ⟨x1, x2⟩ ⟨x3, by omega⟩ hc) (rrl.fr f2) q2 (fun h3 f3 => ⟨ib (by omega), ?_⟩)
        have f23 : Fr [76, 77, 78, 79, 80] [] hh h3 := (f2.mono (by decide) (by decide)).trans (f3.mono (by decide) (by decide))
        have e78 : ∀ y, h3.1 78 y = hh.1 78 y := fun y => by rw [f3.i 78, f2.i 78]
        have e79 : ∀ y, h3.1 79 y = hh.1 79 y := fun y => by rw [f3.i 79, f2.i 79]
        have e80 : ∀ y, h3.1 80 y = hh.1 80 y := fun y => by rw [f3.i 80, f2.i 80]
        have t3 : at3 (40 * a + b) h h3 := fun y hy => by rw [e78, e79, e80]; exact t y hy
        have ce : costL (fac g a b v4 v5) lw none = cst g lw a b v4 v5 := rfl
        rw [e78, ce]
        have cb := cst_b g lw a b v4 v5
        refine ⟨fun c2 => ⟨ii (by omega), ?_⟩, fun c2 => ⟨ii (by omega), ih v4 (v5 + 1) h3 x1 x2 (by omega) (by omega) (by omega) ?_ t3 (f.trans f23)⟩⟩
        · by_cases h0 : cst g lw a b v4 v5 = 0
          · rw [if_pos h0] at c2
            exfalso
            rcases s with ⟨s1, _⟩ | ⟨_, s1, _⟩ <;> omega
          · rw [if_neg h0] at c2 ⊢
            refine ih v4 (v5 + 1) _ x1 x2 (by omega) (by omega) (by omega) ?_ (fun y hy => ?_) ((f.trans f23).trans (((Fr.wI (Or.inl (by decide))).trans (Fr.wI (Or.inl (by decide)))).trans (Fr.wI (Or.inl (by decide)))))
            · have g78 : (wI (wI (wI h3 78 (40 * a + b) (cst g lw a b v4 v5)) 79 (40 * a + b) v4) 80 (40 * a + b) v5).1 78 (40 * a + b) = cst g lw a b v4 v5 := by simp [wI]
              have g79 : (wI (wI (wI h3 78 (40 * a + b) (cst g lw a b v4 v5)) 79 (40 * a + b) v4) 80 (40 * a + b) v5).1 79 (40 * a + b) = v4 := by simp [wI]
              have g80 : (wI (wI (wI h3 78 (40 * a + b) (cst g lw a b v4 v5)) 79 (40 * a + b) v4) 80 (40 * a + b) v5).1 80 (40 * a + b) = v5 := by simp [wI]
              rw [g78, g79, g80]
              exact s.less hc h0 c2
            · have q := t3 y hy
              have g78 : (wI (wI (wI h3 78 (40 * a + b) (cst g lw a b v4 v5)) 79 (40 * a + b) v4) 80 (40 * a + b) v5).1 78 y = h3.1 78 y := by simp [wI, hy]
              have g79 : (wI (wI (wI h3 78 (40 * a + b) (cst g lw a b v4 v5)) 79 (40 * a + b) v4) 80 (40 * a + b) v5).1 79 y = h3.1 79 y := by simp [wI, hy]
              have g80 : (wI (wI (wI h3 78 (40 * a + b) (cst g lw a b v4 v5)) 79 (40 * a + b) v4) 80 (40 * a + b) v5).1 80 y = h3.1 80 y := by simp [wI, hy]
              rw [g78, g79, g80]
              exact q
        · rw [e78, e79, e80]
          by_cases h0 : cst g lw a b v4 v5 = 0
          · exact s.skip (fun _ => h0)
          · rw [if_neg h0] at c2
            exact s.more c2
  refine s_M_laysStep_18 ⟨fun c => absurd c (by decide), fun _ => key 41 0 0 _ (by decide) (by decide) (by decide) (by decide) (by decide) ?_ (fun y hy => ?_) f0⟩
  · rw [rI_eq]
    exact Or.inl ⟨rfl, fun κ i hb hc => by have := hchk κ i hc; unfold Bf at hb; omega⟩
  · exact ⟨rI_nk hy, rI_ne (by decide), rI_ne (by decide)⟩
theorem mLaysSteps (hd : 4 < d) (r : RepM g h) (rl : RepML lw h) (k : ∀ h', LaidM g lw h' → Fr [76, 77, 78, 79, 80] [] h h' → K 0 h') : Call d M_M_laysSteps [vR 12 (-1)] h K := by
  have nb := r.ok.nb
  refine c_M_laysSteps 4 hd ?_
  have key : ∀ m : Nat, ∀ (v1 v2 : Int) (hh : AH), 0 ≤ v1 → v1 < gn g → 0 ≤ v2 → v2 ≤ gn g → (gn g - v1) * 41 - v2 < m → (∀ a b, 0 ≤ a → a < gn g → 0 ≤ b → b < gn g → (a < v1 ∨ (a = v1 ∧ b < v2)) → StM g lw hh a b) → Fr [76, 77, 78, 79, 80] [] h hh → A_M_laysSteps_12 4 K v1 v2 hh := by
    intro m
    induction m with
    | zero => intro v1 v2 hh x1 x2 x3 x4 e; omega
    | succ m ih =>
      intro v1 v2 hh x1 x2 x3 x4 e s f
      have rr := r.fr f
      refine s_M_laysSteps_12 ?_
      rw [rr.n]
      refine ⟨fun c => ⟨ii (by omega), s_M_laysSteps_2 ?_⟩, fun c => ⟨ii (by omega), ii (by omega), ib (by omega), ?_⟩⟩
      · rw [rr.n]
        refine ⟨fun c2 => k hh (fun a b a0 a1 b0 b1 => s a b a0 a1 b0 b1 (by omega)) f, fun c2 => ih (v1 + 1) 0 hh (by omega) c2 (by omega) (by omega) (by omega) (fun a b a0 a1 b0 b1 z => s a b a0 a1 b0 b1 (by omega)) f⟩
      have fw : Fr [76, 77, 78, 79, 80] [] h (wI hh 78 (40 * v1 + v2) 1000000000) := f.trans (Fr.wI (Or.inl (by decide)))
      have rw' := r.fr fw
      have old : ∀ h', (∀ y, y ≠ 40 * v1 + v2 → h'.1 78 y = hh.1 78 y ∧ h'.1 79 y = hh.1 79 y ∧ h'.1 80 y = hh.1 80 y) → StM g lw h' v1 v2 → ∀ a b, 0 ≤ a → a < gn g → 0 ≤ b → b < gn g → (a < v1 ∨ (a = v1 ∧ b < v2 + 1)) → StM g lw h' a b := by
        intro h' hy hs a b a0 a1 b0 b1 z
        by_cases hab : a = v1 ∧ b = v2
        · rw [hab.1, hab.2]; exact hs
        · have q := s a b a0 a1 b0 b1 (by omega)
          have q2 := hy (40 * a + b) (by omega)
          unfold StM at *
          rw [q2.1, q2.2.1, q2.2.2]
          exact q
      have none' : sc g lw v1 v2 = (0, 0, 0) → StM g lw (wI hh 78 (40 * v1 + v2) 1000000000) v1 v2 := by
        intro hz
        unfold StM
        rw [hz]
        exact ⟨by rw [if_pos rfl]; exact rI_eq, fun z => absurd rfl z⟩
      have stay : ∀ y, y ≠ 40 * v1 + v2 → (wI hh 78 (40 * v1 + v2) 1000000000).1 78 y = hh.1 78 y ∧ (wI hh 78 (40 * v1 + v2) 1000000000).1 79 y = hh.1 79 y ∧ (wI hh 78 (40 * v1 + v2) 1000000000).1 80 y = hh.1 80 y := fun y hy => ⟨rI_nk hy, rI_ne (by decide), rI_ne (by decide)⟩
      have go1 : sc g lw v1 v2 = (0, 0, 0) → A_M_laysSteps_12 4 K v1 (v2 + 1) (wI hh 78 (40 * v1 + v2) 1000000000) := fun hz => ih v1 (v2 + 1) _ x1 x2 (by omega) (by omega) (by omega) (old _ stay (none' hz)) fw
      refine ⟨fun c2 => ⟨ii (by omega), go1 (sc_none (Or.inr (fun κ i hc => ?_)))⟩, fun c2 => ?_⟩
      · subst c2
        rcases hc with z | z | z | z
        · exact z.2.2.2.1 rfl
        · omega
        · omega
        · exact z.2.2.2.1 z.2.2.2.2.1
      refine mIsUsed (by decide) rw' x1 x2 (fun ua => br1 ?_) (fun nu => br0 ⟨ii (by omega), go1 (sc_none (Or.inl (fun z => nu z.1)))⟩)
      refine mIsUsed (by decide) rw' x3 c (fun ub => br1 ?_) (fun nu => br0 ⟨ii (by omega), go1 (sc_none (Or.inl (fun z => nu z.2)))⟩)
      refine mMayNear (by decide) rw' x1 x2 x3 c (fun n1 n2 => br1 ?_) (fun nn => br0 ⟨ii (by omega), go1 (sc_none (Or.inr (fun κ i hc => by rcases hc with z | z | z | z <;> omega)))⟩)
      refine mLaysStep (by decide) rw' (rl.fr fw) x1 x2 x3 c ua ub (fun h2 hs2 ha2 f2 => ⟨ii (by omega), ih v1 (v2 + 1) h2 x1 x2 (by omega) (by omega) (by omega) (old h2 (fun y hy => ?_) hs2) (fw.trans f2)⟩)
      have q := ha2 y hy
      have q2 := stay y hy
      exact ⟨q.1.trans q2.1, q.2.1.trans q2.2.1, q.2.2.trans q2.2.2⟩
  refine s_M_laysSteps_2 ?_
  rw [r.n]
  exact ⟨fun c => k h (fun a b a0 a1 => by omega) Fr.refl, fun c => key ((gn g) * 41 + 1).toNat 0 0 h (by decide) (by omega) (by decide) (by omega) (by omega) (fun a b a0 a1 b0 b1 z => by omega) Fr.refl⟩
end ML

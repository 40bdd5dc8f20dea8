/-- the STEPS as the class holds them -/
def NextS (g : G) (lw : LW) (a : Int) (N : Nat) : Prop := N < 1099511627776 ∧ ∀ w : Nat, w < 40 → (N.testBit w = true ↔ (w : Int) < gn g ∧ (sc g lw a w).1 ≠ 0)
def StC (g : G) (lw : LW) (h : AH) (a b : Int) : Prop := h.2.2 33 a b = (sc g lw a b).1 ∧ ((sc g lw a b).1 ≠ 0 → h.2.2 30 a b = (sc g lw a b).2.1 ∧ h.2.2 34 a b = (sc g lw a b).2.2)
def LaidC (g : G) (lw : LW) (h : AH) : Prop := ∀ a, 0 ≤ a → a < gn g → (∃ N : Nat, NextS g lw a N ∧ h.2.1 35 a = (N : Int)) ∧ ∀ b, 0 ≤ b → b < gn g → StC g lw h a b
theorem LaidC.fr {g : G} {lw : LW} {L : List Nat} {F : List (Nat × Int)} {h h' : AH} (r : LaidC g lw h) (f : Fr L F h h') (h1 : (∀ o ∈ [30, 33, 34, 35], o ∉ L) := by decide) (h2 : (∀ o ∈ [30, 33, 34, 35], o ∉ F.map Prod.fst) := by decide) : LaidC g lw h' := by
  intro a a0 a1
  obtain ⟨⟨N, n1, n2⟩, s⟩ := r a a0 a1
  refine ⟨⟨N, n1, by rw [f.l 35 (h1 _ (by decide)) (h2 _ (by decide))]; exact n2⟩, fun b b0 b1 => ?_⟩
  have q := s b b0 b1
  unfold StC at *
  rw [f.r 30 (h1 _ (by decide)) (h2 _ (by decide)), f.r 33 (h1 _ (by decide)) (h2 _ (by decide)), f.r 34 (h1 _ (by decide)) (h2 _ (by decide))]
  exact q
/-- in a run of like letters all facts but the place are the same -/
theorem fac_run {g : G} {a b κ i : Int} (h1 : isCh g a b κ i) (h2 : isCh g a b κ (i + 1)) : ∀ j : Nat, j ≠ 1 → fac g a b κ (i + 1) j = fac g a b κ i j := by
  rcases h1 with z | z | z | z
  · obtain ⟨z1, z2, z3, z4, z5⟩ := z
    rcases h2 with y | y | y | y
    · exact absurd (y.2.2.2.2 i z3.1 z3.2 (Or.inl (by omega))) z4
    all_goals omega
  · obtain ⟨z1, z2, z3, z4⟩ := z
    rcases h2 with y | y | y | y
    · omega
    · have q1 := z4 i z3.1 (by omega)
      have q2 := y.2.2.2 i z3.1 (by omega)
      rw [if_neg (by omega)] at q1
      rw [if_pos (by omega)] at q2
      intro j hj
      match j with
      | 0 => rfl
      | 1 => exact absurd rfl hj
      | 2 => show (if κ = 1 then 26 else _) = (if κ = 1 then 26 else _); rw [if_pos z1, if_pos z1]
      | 3 =>
        show (if κ = 2 then 26 else if κ = 3 then _ else gt g b (i + 1)) = (if κ = 2 then 26 else if κ = 3 then _ else gt g b i)
        rw [if_neg (by omega), if_neg (by omega), if_neg (by omega), if_neg (by omega), ← q1, q2]
      | 4 => rfl
      | 5 => rfl
      | 6 => rfl
      | 7 => rfl
      | j + 8 => rfl
    all_goals omega
  · obtain ⟨z1, z2, z3, z4⟩ := z
    rcases h2 with y | y | y | y
    · omega
    · omega
    · have q1 := z4 i z3.1 (by omega)
      have q2 := y.2.2.2 i z3.1 (by omega)
      rw [if_neg (by omega)] at q1
      rw [if_pos (by omega)] at q2
      intro j hj
      match j with
      | 0 => rfl
      | 1 => exact absurd rfl hj
      | 2 => show (if κ = 1 then 26 else gt g a (i + 1)) = (if κ = 1 then 26 else gt g a i); rw [if_neg (by omega), if_neg (by omega), ← q1, q2]
      | 3 =>
        show (if κ = 2 then 26 else _) = (if κ = 2 then 26 else _)
        rw [if_pos z1, if_pos z1]
      | 4 => rfl
      | 5 => rfl
      | 6 => rfl
      | 7 => rfl
      | j + 8 => rfl
    · omega
  · obtain ⟨z1, z2, z3, z4, z5, z6, z7⟩ := z
    rcases h2 with y | y | y | y
    · omega
    · omega
    · omega
    · have q := y.2.2.2.2.2.2 i z3.1 (by omega) (Or.inl (by omega))
      exact absurd (q.trans z6.symm) z4
theorem fac_runs {g : G} {a b κ f l : Int} (h : ∀ i, f ≤ i → i ≤ l → isCh g a b κ i) : ∀ m : Nat, f + m ≤ l → ∀ j : Nat, j ≠ 1 → fac g a b κ (f + m) j = fac g a b κ f j
  | 0, _, j, _ => by rw [show f + ((0 : Nat) : Int) = f by omega]
  | m + 1, hm, j, hj => by
    have e : f + ((m + 1 : Nat) : Int) = (f + (m : Int)) + 1 := by omega
    rw [e, fac_run (h (f + m) (by omega) (by omega)) (h (f + m + 1) (by omega) (by omega)) j hj]
    exact fac_runs h m (by omega) j hj
section CS
variable {d : Nat} {g : G} {lw : LW} {h : AH} {K : Int → AH → Prop}
theorem cCostOf (hd : 3 < d) {f : Nat → Int} (hf : ∀ j, j < 9 → inI (f j)) (r : RepCL lw h) (q : FacC f h) (k : ∀ h', Fr [24] [(3, 8), (3, 9)] h h' → K (costL f lw none) h') : Call d M_LawCode_costOfNamed [vR 3 (-1)] h K := cCostOf2 hd r q k
theorem cLetterIn (hd : 0 < d) {w i : Int} (r : RepW0 g h) (w0 : 0 ≤ w) (w1 : w < gn g) (i0 : 0 ≤ i) (i1 : i < gl g w) (k : K (gt g w i) h) : Call d M_Steps_letterIn [vR 6 (-1), vI w, vI i] h K := by
  have nb := r.1.nb
  have lb := r.1.lb w0 w1
  refine c_Steps_letterIn 0 hd ⟨fun c => by omega, fun c => ⟨fun c2 => by omega, fun c2 => ⟨ib (by omega), ib (by omega), ?_⟩⟩⟩
  rw [r.t w0 w1 i0 i1]
  exact k
theorem cNameChange (hd : 1 < d) {a b κ i : Int} (r : RepW0 g h) (a0 : 0 ≤ a) (a1 : a < gn g) (b0 : 0 ≤ b) (b1 : b < gn g) (e1 : h.2.2 30 a b = κ) (e2 : h.2.2 31 a b = i) (hκ : 0 ≤ κ ∧ κ ≤ 3) (hi : 0 ≤ i ∧ i ≤ 8) (hc : isCh g a b κ i) (k : ∀ h', (∀ j : Nat, j < 9 → j ≠ 1 → h'.1 23 j = fac g a b κ i j) → Fr [23] [] h h' → K 0 h') : Call d M_Steps_nameChange [vR 6 (-1), vI a, vI b] h K := by
  have nb := r.1.nb
  refine c_Steps_nameChange 1 hd ?_
  rw [e1, e2]
  have f0 : Fr [23] [] h (wI h 23 0 κ) := Fr.wI (Or.inl (by decide))
  have tail2 : ∀ (hh : AH) (y : Int), Fr [23] [] h hh → hh.1 23 0 = κ → hh.1 23 2 = fac g a b κ i 2 → y = fac g a b κ i 3 → A_Steps_nameChange_74 1 K a b 3 y hh := by
    intro hh y f q0 q2 hy
    have r' := r.fr f
    refine s_Steps_nameChange_74 ⟨ib (by decide), ib (by omega), ib (by omega), k _ ?_ ?_⟩
    · intro j hj hj1
      have e58 : hh.1 15 a = gl g a := r'.l a0 a1
      have e60 : hh.1 17 a = gk g a := r'.k a0 a1
      have e60b : hh.1 17 b = gk g b := r'.k b0 b1
      match j, hj with
      | 0, _ => simp [wI]; exact q0
      | 1, _ => exact absurd rfl hj1
      | 2, _ => simp [wI]; exact q2
      | 3, _ => simp [wI]; exact hy
      | 4, _ => simp [wI]; exact e58
      | 5, _ => simp [wI]; exact e60
      | 6, _ => simp [wI]; exact e60b
      | 7, _ => simp [wI]; rfl
      | 8, _ => simp [wI]; rfl
      | j + 9, hj => omega
    · refine f.trans ?_
      exact (((((Fr.wI (Or.inl (by decide))).trans (Fr.wI (Or.inl (by decide)))).trans (Fr.wI (Or.inl (by decide)))).trans (Fr.wI (Or.inl (by decide)))).trans (Fr.wI (Or.inl (by decide)))).trans (Fr.wI (Or.inl (by decide)))
  have tail1 : ∀ (x : Int), x = fac g a b κ i 2 → A_Steps_nameChange_53 1 K a b κ i 2 x (wI h 23 0 κ) := by
    intro x hx
    have f1 : Fr [23] [] h (wI (wI h 23 0 κ) 23 2 x) := f0.trans (Fr.wI (Or.inl (by decide)))
    have g0 : (wI (wI h 23 0 κ) 23 2 x).1 23 0 = κ := by simp [wI]
    have g2 : (wI (wI h 23 0 κ) 23 2 x).1 23 2 = fac g a b κ i 2 := by rw [rI_eq]; exact hx
    refine s_Steps_nameChange_53 ⟨ib (by decide), fun c => cLetterIn (by decide) (r.fr f1) b0 b1 hi.1 (by rcases hc with z | z | z | z <;> omega) (tail2 _ _ f1 g0 g2 ?_), fun c => tail2 _ _ f1 g0 g2 ?_⟩
    · show _ = if κ = 2 then 26 else if κ = 3 then gt g a (i + 1) else gt g b i
      rw [if_neg c]
      by_cases c2 : κ = 3
      · rw [if_pos c2]
        rcases hc with z | z | z | z
        · omega
        · omega
        · omega
        · exact z.2.2.2.2.2.1.symm
      · rw [if_neg c2]
    · show _ = if κ = 2 then 26 else if κ = 3 then gt g a (i + 1) else gt g b i
      rw [if_pos c]
  refine ⟨ib (by omega), ib (by omega), fun c => cLetterIn (by decide) (r.fr f0) a0 a1 hi.1 (by rcases hc with z | z | z | z <;> omega) (tail1 _ ?_), fun c => tail1 _ ?_⟩
  · show _ = if κ = 1 then 26 else gt g a i
    rw [if_neg c]
  · show _ = if κ = 1 then 26 else gt g a i
    rw [if_pos c]
end CS

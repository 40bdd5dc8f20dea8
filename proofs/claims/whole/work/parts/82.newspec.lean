/-! a new word that joins most -/
/-- the row f of n letters is one change from the word w -/
def NearR (g : G) (w n : Int) (f : Int → Int) : Prop :=
  (gl g w = n ∧ ∃ i, (0 ≤ i ∧ i < n) ∧ f i ≠ gt g w i ∧ ∀ k, 0 ≤ k → k < n → k ≠ i → f k = gt g w k) ∨
  (gl g w = n ∧ ∃ i, (0 ≤ i ∧ i + 1 < n) ∧ gt g w i ≠ gt g w (i + 1) ∧ f i = gt g w (i + 1) ∧ f (i + 1) = gt g w i ∧ ∀ k, 0 ≤ k → k < n → k ≠ i → k ≠ i + 1 → f k = gt g w k) ∨
  (n = gl g w + 1 ∧ ∃ p, (0 ≤ p ∧ p < n) ∧ ∀ k, 0 ≤ k → k < gl g w → gt g w k = f (if k < p then k else k + 1)) ∨
  (n = gl g w - 1 ∧ ∃ p, (0 ≤ p ∧ p < gl g w) ∧ ∀ k, 0 ≤ k → k < n → f k = gt g w (if k < p then k else k + 1))
/-- how many used words it joins, how many heaps -/
noncomputable def jW (g : G) (n : Int) (f : Int → Int) : Int := cnt (fun w => us g w ∧ NearR g w n f) (gn g).toNat
noncomputable def jH (g : G) (lw : LW) (n : Int) (f : Int → Int) : Int := cnt (fun v => ∃ w, (0 ≤ w ∧ w < gn g) ∧ us g w ∧ NearR g w n f ∧ HeapIs g lw w v) (gn g).toNat
/-- a row that can be told: letters, not a word, by a used word -/
def NewOk (g : G) (n : Int) (f : Int → Int) : Prop := (1 ≤ n ∧ n ≤ 8) ∧ okF f n.toNat ∧ (∀ w, 0 ≤ w → w < gn g → ¬ same g w n f) ∧ ∃ w, (0 ≤ w ∧ w < gn g) ∧ us g w ∧ NearR g w n f
/-- the best of them: most heaps, then most words, then the first -/
def BestN (g : G) (lw : LW) (n : Int) (f : Int → Int) : Prop := NewOk g n f ∧ ∀ n' f', NewOk g n' f' → jH g lw n' f' < jH g lw n f ∨ (jH g lw n' f' = jH g lw n f ∧ (jW g n' f' < jW g n f ∨ (jW g n' f' = jW g n f ∧ keyN f n.toNat ≤ keyN f' n'.toNat)))
def NewA (g : G) (lw : LW) (q r : Int) : Prop := ((∀ w, 0 ≤ w → w < gn g → ¬ us g w) ∧ r = -2) ∨ ∃ n f, BestN g lw n f ∧ r = (if q = 0 then jH g lw n f else if q = 1 then jW g n f else if q = 2 then n else if q - 10 < n then f (q - 10) else -1)
theorem NewA.uniq {g : G} {lw : LW} {q r r' : Int} (hq : (0 ≤ q ∧ q ≤ 2) ∨ (10 ≤ q ∧ q ≤ 17)) (h : NewA g lw q r) (k : NewA g lw q r') : r = r' := by
  rcases h with ⟨h1, h2⟩ | ⟨n, f, h1, h2⟩
  · rcases k with ⟨k1, k2⟩ | ⟨n', f', k1, k2⟩
    · rw [h2, k2]
    · obtain ⟨w, w1, w2, _⟩ := k1.1.2.2.2
      exact absurd w2 (h1 w w1.1 w1.2)
  · rcases k with ⟨k1, k2⟩ | ⟨n', f', k1, k2⟩
    · obtain ⟨w, w1, w2, _⟩ := h1.1.2.2.2
      exact absurd w2 (k1 w w1.1 w1.2)
    · have a := h1.2 n' f' k1.1
      have b := k1.2 n f h1.1
      have e1 : jH g lw n f = jH g lw n' f' := by omega
      have e2 : jW g n f = jW g n' f' := by omega
      have e3 : keyN f n.toNat = keyN f' n'.toNat := by omega
      have c := h1.1.1
      have c' := k1.1.1
      have q1 := key_inj (by omega) (by omega) h1.1.2.1 k1.1.2.1 e3
      have en : n = n' := by omega
      rw [h2, k2, e1, e2, ← en]
      by_cases z0 : q = 0
      · rw [if_pos z0, if_pos z0]
      · rw [if_neg z0, if_neg z0]
        by_cases z1 : q = 1
        · rw [if_pos z1, if_pos z1]
        · rw [if_neg z1, if_neg z1]
          by_cases z2 : q = 2
          · rw [if_pos z2, if_pos z2]
          · rw [if_neg z2, if_neg z2]
            by_cases z3 : q - 10 < n
            · rw [if_pos z3, if_pos z3]
              exact q1.2 (q - 10) (by omega) (by omega)
            · rw [if_neg z3, if_neg z3]

/-! the class: all kinds; its law's code; the steps -/
/-- the kinds of all twos below n -/
def KUpTo (g : G) (n : Int) (h : AH) : Prop := ∀ a b, 0 ≤ a → a < n → 0 ≤ b → b < n → KAt g h a b
theorem KAt.same {g : G} {h h' : AH} {a b : Int} (q : KAt g h a b) (e : h'.2.2 30 a b = h.2.2 30 a b ∧ h'.2.2 31 a b = h.2.2 31 a b ∧ h'.2.2 32 a b = h.2.2 32 a b) : KAt g h' a b := by
  unfold KAt at *
  rw [e.1, e.2.1, e.2.2]
  exact q
theorem KUpTo.fr {g : G} {n : Int} {L : List Nat} {F : List (Nat × Int)} {h h' : AH} (r : KUpTo g n h) (f : Fr L F h h') (h1 : (∀ o ∈ [30, 31, 32], o ∉ L) := by decide) (h2 : (∀ o ∈ [30, 31, 32], o ∉ F.map Prod.fst) := by decide) : KUpTo g n h' := fun a b a0 a1 b0 b1 => (r a b a0 a1 b0 b1).same ⟨f.r 30 (h1 _ (by decide)) (h2 _ (by decide)) _ _, f.r 31 (h1 _ (by decide)) (h2 _ (by decide)) _ _, f.r 32 (h1 _ (by decide)) (h2 _ (by decide)) _ _⟩
/-- CHANGES depend on the letters of the two words alone -/
theorem isCh_congr {g g' : G} {a b κ i : Int} (la : gl g' a = gl g a) (lb : gl g' b = gl g b) (ta : ∀ k, 0 ≤ k → k < gl g a → gt g' a k = gt g a k) (tb : ∀ k, 0 ≤ k → k < gl g b → gt g' b k = gt g b k) (h : isCh g a b κ i) : isCh g' a b κ i := by
  rcases h with z | z | z | z
  · obtain ⟨z1, z2, z3, z4, z5⟩ := z
    refine Or.inl ⟨z1, by omega, by omega, ?_, fun k k0 k1 hk => ?_⟩
    · rw [ta i z3.1 z3.2, tb i z3.1 (by omega)]; exact z4
    · rw [ta k k0 (by omega), tb k k0 (by omega)]; exact z5 k k0 (by omega) hk
  · obtain ⟨z1, z2, z3, z4⟩ := z
    refine Or.inr (Or.inl ⟨z1, by omega, by omega, fun k k0 k1 => ?_⟩)
    rw [ta k k0 (by omega), z4 k k0 (by omega)]
    exact (tb _ (by split <;> omega) (by split <;> omega)).symm
  · obtain ⟨z1, z2, z3, z4⟩ := z
    refine Or.inr (Or.inr (Or.inl ⟨z1, by omega, by omega, fun k k0 k1 => ?_⟩))
    rw [tb k k0 (by omega), z4 k k0 (by omega)]
    exact (ta _ (by split <;> omega) (by split <;> omega)).symm
  · obtain ⟨z1, z2, z3, z4, z5, z6, z7⟩ := z
    refine Or.inr (Or.inr (Or.inr ⟨z1, by omega, by omega, ?_, ?_, ?_, fun k k0 k1 hk => ?_⟩))
    · rw [ta i z3.1 (by omega), ta (i + 1) (by omega) z3.2]; exact z4
    · rw [ta i z3.1 (by omega), tb (i + 1) (by omega) (by omega)]; exact z5
    · rw [ta (i + 1) (by omega) z3.2, tb i z3.1 (by omega)]; exact z6
    · rw [ta k k0 (by omega), tb k k0 (by omega)]; exact z7 k k0 (by omega) hk
theorem KAt.congr {g g' : G} {h : AH} {a b : Int} (q : KAt g h a b) (la : gl g' a = gl g a) (lb : gl g' b = gl g b) (ta : ∀ k, 0 ≤ k → k < gl g a → gt g' a k = gt g a k) (tb : ∀ k, 0 ≤ k → k < gl g b → gt g' b k = gt g b k) : KAt g' h a b := by
  have e : ∀ κ i, isCh g' a b κ i ↔ isCh g a b κ i := fun κ i => ⟨isCh_congr la.symm lb.symm (fun k k0 k1 => (ta k k0 (by omega)).symm) (fun k k0 k1 => (tb k k0 (by omega)).symm), isCh_congr la lb ta tb⟩
  unfold KAt KindIs at *
  simp only [e]
  exact q
section CJ
variable {d : Nat} {g : G} {h : AH} {K : Int → AH → Prop}
theorem cFindChange (hd : 2 < d) {a b : Int} (r : RepW0 g h) (a0 : 0 ≤ a) (a1 : a < gn g) (b0 : 0 ≤ b) (b1 : b < gn g) (kk : ∀ h', KAt g h' a b → ats a b h h' → Fr [30, 31, 32] [] h h' → K 0 h') : Call d M_Steps_findChange [vR 6 (-1), vI a, vI b] h K := by
  have nb := r.1.nb
  have la := r.1.lb a0 a1
  have lb := r.1.lb b0 b1
  refine c_Steps_findChange 2 hd ?_
  rw [r.l a0 a1, r.l b0 b1]
  have f0 : Fr [30, 31, 32] [] h (wR h 30 a b (-1)) := Fr.wR (by decide)
  have t0 : ats a b h (wR h 30 a b (-1)) := fun x y hxy => ⟨rR_nk hxy, rR_nk hxy, rR_nk hxy⟩
  have e0 : (wR h 30 a b (-1)).2.2 30 a b = -1 := by simp [wR]
  have comb : ∀ h', KAt g h' a b → ats a b (wR h 30 a b (-1)) h' → Fr [30, 31, 32] [] (wR h 30 a b (-1)) h' → K 0 h' := fun h' q1 q2 q3 => kk h' q1 (fun x y hxy => ⟨(q2 x y hxy).1.trans (t0 x y hxy).1, (q2 x y hxy).2.1.trans (t0 x y hxy).2.1, (q2 x y hxy).2.2.trans (t0 x y hxy).2.2⟩) (f0.trans q3)
  refine ⟨ib (by omega), ib (by omega), ii (by omega), fun c => ⟨fun c2 => ?_, fun c2 => ⟨fun c3 => ?_, fun c3 => ?_⟩⟩, fun c => ?_⟩
  · exact s_Steps_findChange_52 (cOfLength (by decide) (r.fr f0) a0 a1 b0 b1 rfl (Or.inl c2) e0 comb)
  · exact kk _ (Or.inl ⟨e0, fun κ i hc => by rcases hc with z | z | z | z <;> omega⟩) t0 f0
  · exact s_Steps_findChange_52 (cOfLength (by decide) (r.fr f0) a0 a1 b0 b1 rfl (Or.inr c3) e0 comb)
  · exact cOfLike (by decide) (r.fr f0) a0 a1 b0 b1 (by omega) e0 comb
theorem cJoinLast (hd : 3 < d) (r : RepW0 g h) (hn : 1 ≤ gn g) (q : KUpTo g (gn g - 1) h) (kk : ∀ h', KUpTo g (gn g) h' → Fr [30, 31, 32] [] h h' → K 0 h') : Call d M_Steps_joinLast [vR 6 (-1)] h K := by
  have nb := r.1.nb
  refine c_Steps_joinLast 3 hd ?_
  rw [r.2.1.1]
  refine ⟨ii (by omega), ?_⟩
  have key : ∀ m : Nat, ∀ (v : Int) (hh : AH), 0 ≤ v → v ≤ gn g → gn g - v < m → KUpTo g (gn g - 1) hh → (∀ w, 0 ≤ w → w < v → KAt g hh w (gn g - 1) ∧ KAt g hh (gn g - 1) w) → Fr [30, 31, 32] [] h hh → A_Steps_joinLast_12 3 K (gn g - 1) v hh := by
    intro m
    induction m with
    | zero => intro v hh x y e; omega
    | succ m ih =>
      intro v hh x y e s t f
      have rr := r.fr f
      refine s_Steps_joinLast_12 ⟨fun c => kk hh (fun a b a0 a1 b0 b1 => ?_) f, fun c => ⟨fun c2 => by omega, fun c2 => ?_⟩⟩
      · by_cases ha : a = gn g - 1
        · rw [ha]; exact (t b b0 (by omega)).2
        · by_cases hb : b = gn g - 1
          · rw [hb]; exact (t a a0 (by omega)).1
          · exact s a b a0 (by omega) b0 (by omega)
      · refine cFindChange (by decide) rr x (by omega) (by omega) (by omega) (fun h1 k1 t1 f1 => cFindChange (by decide) (rr.fr f1) (by omega) (by omega) x (by omega) (fun h2 k2 t2 f2 => ⟨ii (by omega), ih (v + 1) h2 (by omega) (by omega) (by omega) (fun a b a0 a1 b0 b1 => ?_) (fun w w0 w1 => ?_) ((f.trans f1).trans f2)⟩))
        · have q1 := (s a b a0 a1 b0 b1).same (t1 a b (by omega))
          exact q1.same (t2 a b (by omega))
        · by_cases hw : w = v
          · subst hw
            refine ⟨?_, k2⟩
            by_cases hl : w = gn g - 1
            · have := k2
              rw [← hl] at this ⊢
              exact this
            · exact k1.same (t2 _ _ (by omega))
          · have q1 := t w w0 (by omega)
            exact ⟨(q1.1.same (t1 _ _ (by omega))).same (t2 _ _ (by omega)), (q1.2.same (t1 _ _ (by omega))).same (t2 _ _ (by omega))⟩
  exact key ((gn g).toNat + 1) 0 h (by decide) (by omega) (by omega) q (fun w w0 w1 => by omega) Fr.refl
end CJ

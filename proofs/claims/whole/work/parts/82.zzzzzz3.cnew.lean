/-! the class' new words: the table is emptied -/
/-- the rows of the class' table, as emptyRows needs them -/
def RowsC (h : AH) : Prop := (0 ≤ h.1 8 7 ∧ h.1 8 7 ≤ 16000) ∧ (∀ i, 0 ≤ i → i < h.1 8 7 → 0 ≤ h.1 43 i ∧ h.1 43 i < 32768) ∧ ∀ s, 0 ≤ s → s < 32768 → h.1 42 s ≠ 0 → ∃ i, 0 ≤ i ∧ i < h.1 8 7 ∧ h.1 43 i = s
theorem RowsC.fr {L : List Nat} {F : List (Nat × Int)} {h h' : AH} (r : RowsC h) (f : Fr L F h h') (h1 : (∀ o ∈ [8, 42, 43], o ∉ L) := by decide) (h2 : (∀ o ∈ [42, 43], o ∉ F.map Prod.fst) := by decide) (h3 : ((8 : Nat), (7 : Int)) ∉ F := by decide) : RowsC h' := by
  have e8 := f.f 8 7 (h1 _ (by decide)) h3
  have e42 : ∀ k, h'.1 42 k = h.1 42 k := fun k => f.i 42 (h1 _ (by decide)) (h2 _ (by decide)) k
  have e43 : ∀ k, h'.1 43 k = h.1 43 k := fun k => f.i 43 (h1 _ (by decide)) (h2 _ (by decide)) k
  unfold RowsC
  simp only [e8, e42, e43]
  exact r
theorem TabN.rows {h : AH} (t : TabN h) : RowsC h := ⟨t.1, fun i i0 i1 => (t.2.1 i i0 i1).1, fun s s0 s1 z => ⟨h.1 42 s - 1, by have := t.2.2.1 s s0 s1 z; omega, by have := t.2.2.1 s s0 s1 z; omega, (t.2.2.1 s s0 s1 z).2⟩⟩
section CN3
variable {d : Nat} {h : AH} {Q : Int → AH → Prop}
theorem cEmptyRows (hd : 0 < d) (rc : RowsC h) (k : ∀ h', TabN h' → h'.1 8 7 = 0 → Fr [42] [(8, 7)] h h' → Q 0 h') : Call d M_NewWords_emptyRows [vR 8 (-1)] h Q := by
  obtain ⟨c1, c2, c3⟩ := rc
  refine c_NewWords_emptyRows 0 hd ?_
  have key : ∀ (m : Nat) (v : Int) (hh : AH), (m : Int) = h.1 8 7 - v → 0 ≤ v → Fr [42] [] h hh → (∀ s, 0 ≤ s → s < 32768 → hh.1 42 s ≠ 0 → ∃ i, v ≤ i ∧ i < h.1 8 7 ∧ h.1 43 i = s) → A_NewWords_emptyRows_2 0 Q v hh := by
    intro m
    induction m with
    | zero =>
      intro v hh e v0 ff c
      have e7 : hh.1 8 7 = h.1 8 7 := ff.f 8 7
      have fin : Q 0 (wI hh 8 7 0) := by
        refine k _ ⟨?_, ?_, ?_, ?_, ?_⟩ rI_eq ((ff.mono (by decide) (by decide)).trans (Fr.wI (Or.inr (by decide))))
        · rw [rI_eq]; decide
        · intro r r0 r1; rw [rI_eq] at r1; omega
        · intro s s0 s1 z
          rw [rI_ne (by decide)] at z
          obtain ⟨i, i0, i1, _⟩ := c s s0 s1 z
          omega
        · intro r r' r0 r1; rw [rI_eq] at r1; omega
        · intro r r0 r1; rw [rI_eq] at r1; omega
      exact s_NewWords_emptyRows_2 ⟨fun _ => fin, fun z => by omega⟩
    | succ m ih =>
      intro v hh e v0 ff c
      have e7 : hh.1 8 7 = h.1 8 7 := ff.f 8 7
      have e43 : hh.1 43 v = h.1 43 v := ff.i 43 (by decide) (by decide) v
      have vb := c2 v v0 (by omega)
      refine s_NewWords_emptyRows_2 ⟨fun z => by omega, fun _ => ⟨fun z => by omega, fun _ => ⟨ib (by omega), ib (by omega), ii (by omega), ?_⟩⟩⟩
      refine ih (v + 1) _ (by omega) (by omega) (ff.trans (Fr.wI (Or.inl (by decide)))) (fun s s0 s1 z => ?_)
      by_cases q : s = hh.1 43 v
      · rw [q, rI_eq] at z
        exact absurd rfl z
      · rw [rI_nk q] at z
        obtain ⟨i, i0, i1, i2⟩ := c s s0 s1 z
        exact ⟨i, by
          by_cases q2 : i = v
          · rw [q2] at i2
            omega
          · omega, i1, i2⟩
  exact key (h.1 8 7).toNat 0 h (by omega) (Int.le_refl 0) Fr.refl (fun s s0 s1 z => c3 s s0 s1 z)
end CN3

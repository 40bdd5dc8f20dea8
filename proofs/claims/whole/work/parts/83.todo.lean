/-! contracts that are still to be proved -/
def NewC (g : G) (lw : LW) (h : AH) : Prop := (∃ w, 0 ≤ w ∧ w < gn g ∧ us g w) → ∃ n f, BestN g lw n f ∧ h.1 8 8 = jH g lw n f ∧ h.1 8 9 = jW g n f ∧ h.2.1 8 10 = (keyN f n.toNat : Int)
/-- the rows of the class' table, as emptyRows needs them -/
def RowsC (h : AH) : Prop := (0 ≤ h.1 8 7 ∧ h.1 8 7 ≤ 16000) ∧ (∀ i, 0 ≤ i → i < h.1 8 7 → 0 ≤ h.1 43 i ∧ h.1 43 i < 32768) ∧ ∀ s, 0 ≤ s → s < 32768 → h.1 42 s ≠ 0 → ∃ i, 0 ≤ i ∧ i < h.1 8 7 ∧ h.1 43 i = s
theorem RowsC.fr {L : List Nat} {F : List (Nat × Int)} {h h' : AH} (r : RowsC h) (f : Fr L F h h') (h1 : (∀ o ∈ [8, 42, 43], o ∉ L) := by decide) (h2 : (∀ o ∈ [42, 43], o ∉ F.map Prod.fst) := by decide) (h3 : ((8 : Nat), (7 : Int)) ∉ F := by decide) : RowsC h' := by
  have e8 := f.f 8 7 (h1 _ (by decide)) h3
  have e42 : ∀ k, h'.1 42 k = h.1 42 k := fun k => f.i 42 (h1 _ (by decide)) (h2 _ (by decide)) k
  have e43 : ∀ k, h'.1 43 k = h.1 43 k := fun k => f.i 43 (h1 _ (by decide)) (h2 _ (by decide)) k
  unfold RowsC
  simp only [e8, e42, e43]
  exact r
section TODO
variable {d : Nat} {g : G} {lw : LW} {t : Tp} {h : AH} {K : Int → AH → Prop}
theorem cNewRefresh (hd : 9 < d) (r : RepCW g h) (rc : RowsC h) (w : ReachC g lw h) (hp : HeapsC g lw h) (fresh : h.1 8 11 = h.1 6 10 → NewC g lw h) (k : ∀ h', NewC g lw h' → RowsC h' → h'.1 8 11 = h.1 6 10 → Fr [42, 43, 44, 45] [(8, 7), (8, 8), (8, 9), (8, 10), (8, 11)] h h' → K 0 h') : Call d M_NewWords_refresh [vR 8 (-1)] h K := by
  sorry
end TODO

/-! contracts that are still to be proved -/
def NewC (g : G) (lw : LW) (h : AH) : Prop := (∃ w, 0 ≤ w ∧ w < gn g ∧ us g w) → ∃ n f, BestN g lw n f ∧ h.1 8 8 = jH g lw n f ∧ h.1 8 9 = jW g n f ∧ h.2.1 8 10 = (keyN f n.toNat : Int)
section TODO
variable {d : Nat} {g : G} {lw : LW} {t : Tp} {h : AH} {K : Int → AH → Prop}
theorem cNewRefresh (hd : 9 < d) (r : RepCW g h) (rc : RowsC h) (w : ReachC g lw h) (hp : HeapsC g lw h) (fresh : h.1 8 11 = h.1 6 10 → NewC g lw h) (k : ∀ h', NewC g lw h' → RowsC h' → h'.1 8 11 = h.1 6 10 → Fr [42, 43, 44, 45] [(8, 7), (8, 8), (8, 9), (8, 10), (8, 11)] h h' → K 0 h') : Call d M_NewWords_refresh [vR 8 (-1)] h K := by
  sorry
end TODO

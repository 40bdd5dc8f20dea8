/-! all rows about a word -/
def DW (g : G) (w x : Int) : Prop := (dRep g w (gl g w) 0 x ∨ (gl g w < 8 ∧ dIns g w (gl g w + 1) 0 x)) ∨ dSh g w (gl g w) x
def TW (g : G) (v : Int) (h : AH) : Prop := TabN h ∧ (∀ x, HasK h x ↔ ∃ w, (0 ≤ w ∧ w < v) ∧ us g w ∧ DW g w x) ∧ (∀ x b, 0 ≤ b → (Jn h x b ↔ b < v ∧ us g b ∧ DW g b x)) ∧ h.1 8 7 ≤ 398 * v
theorem JS.seq {h0 h1 h2 : AH} {w B B' : Int} {D D' : Int → Prop} (j : JS h0 w D B h1) (j' : JS h1 w D' B' h2) : JS h0 w (fun x => D x ∨ D' x) (B + B') h2 := by
  refine ⟨j'.1, fun x => by rw [j'.2.1, j.2.1, or_assoc], fun x b b0 => ?_, by have := j.2.2.2.1; have := j'.2.2.2.1; omega, j.2.2.2.2.trans j'.2.2.2.2⟩
  rw [j'.2.2.1 x b b0, j.2.2.1 x b b0]
  constructor
  · rintro ((y | y) | y)
    · exact Or.inl y
    · exact Or.inr ⟨Or.inl y.1, y.2⟩
    · exact Or.inr ⟨Or.inr y.1, y.2⟩
  · rintro (y | ⟨y | y, y2⟩)
    · exact Or.inl (Or.inl y)
    · exact Or.inl (Or.inr ⟨y, y2⟩)
    · exact Or.inr ⟨y, y2⟩
theorem TW.skip {g : G} {v : Int} {h : AH} (t : TW g v h) (u : ¬ us g v) : TW g (v + 1) h := by
  refine ⟨t.1, fun x => ?_, fun x b b0 => ?_, by have := t.2.2.2; omega⟩
  · rw [t.2.1 x]
    constructor
    · rintro ⟨w, a, b, c⟩
      exact ⟨w, by omega, b, c⟩
    · rintro ⟨w, a, b, c⟩
      by_cases z : w = v
      · rw [z] at b; exact absurd b u
      · exact ⟨w, by omega, b, c⟩
  · rw [t.2.2.1 x b b0]
    constructor
    · rintro ⟨a, b2, c⟩
      exact ⟨by omega, b2, c⟩
    · rintro ⟨a, b2, c⟩
      refine ⟨?_, b2, c⟩
      apply Classical.byContradiction
      intro zz
      rw [show b = v by omega] at b2
      exact u b2
theorem TW.step {g : G} {v : Int} {h h' : AH} (v0 : 0 ≤ v) (t : TW g v h) (u : us g v) (j : JS h v (DW g v) 398 h') : TW g (v + 1) h' := by
  refine ⟨j.1, fun x => ?_, fun x b b0 => ?_, by have := t.2.2.2; have := j.2.2.2.1; omega⟩
  · rw [j.2.1 x, t.2.1 x]
    constructor
    · rintro (⟨w, a, b, c⟩ | y)
      · exact ⟨w, by omega, b, c⟩
      · exact ⟨v, by omega, u, y⟩
    · rintro ⟨w, a, b, c⟩
      by_cases z : w = v
      · rw [z] at c; exact Or.inr c
      · exact Or.inl ⟨w, by omega, b, c⟩
  · rw [j.2.2.1 x b b0, t.2.2.1 x b b0]
    constructor
    · rintro (⟨a, b, c⟩ | ⟨c, e⟩)
      · exact ⟨by omega, b, c⟩
      · rw [e]; exact ⟨by omega, u, c⟩
    · rintro ⟨a, a2, c⟩
      by_cases z : b = v
      · rw [z] at c; exact Or.inr ⟨c, z⟩
      · exact Or.inl ⟨by omega, a2, c⟩
section CNE
variable {d : Nat} {g : G} {h : AH}
theorem cAboutW {P : AH → Prop} (hd : 3 < d) {w : Int} (r : RepCW g h) (t : TabN h) (w0 : 0 ≤ w) (w1 : w < gn g) (room : h.1 8 7 + 398 ≤ 16000) (k : ∀ h', JS h w (DW g w) 398 h' → P h') : Call d M_NewWords_joinOtherLetters [vR 8 (-1), vI w] h (fun _ h5 => Call d M_NewWords_joinPutIn [vR 8 (-1), vI w] h5 (fun _ h6 => Call d M_NewWords_joinShorterAndChangedAbout [vR 8 (-1), vI w] h6 (fun _ h7 => P h7))) := by
  have lb := r.1.1.lb w0 w1
  refine cOther (by omega) r t w0 w1 (by omega) (fun h1 t1 k1 j1 c1 f1 => ?_)
  have js1 : JS h w (dRep g w (gl g w) 0) (25 * gl g w + 1) h1 := ⟨t1, k1, j1, by omega, f1⟩
  refine cPutIn (by omega) (r.fr f1) t1 w0 w1 (by split <;> omega) (fun h2 js2 => ?_)
  have js3 := js1.seq js2
  have bd : 25 * gl g w + 1 + (if gl g w < 8 then 26 * (gl g w + 1) else 0) + 2 * gl g w ≤ 398 := by split <;> omega
  have b2 := js3.2.2.2.1
  refine cShort (by omega) (r.fr js3.2.2.2.2) js2.1 w0 w1 (by omega) (fun h3 js4 => ?_)
  exact k h3 ((js3.seq js4).congr (fun x => Iff.rfl) bd)
end CNE
/-! of which rows these are the keys -/
section CNF
variable {g : G} {w n : Int} {f : Int → Int}
theorem DW.form (ok : OkG g) (w0 : 0 ≤ w) (w1 : w < gn g) {x : Int} (q : DW g w x) : ∃ (n : Int) (f : Int → Int), (1 ≤ n ∧ n ≤ 8) ∧ okF f n.toNat ∧ x = (keyN f n.toNat : Int) := by
  have lb := ok.lb w0 w1
  have tb : ∀ k, 0 ≤ k → k < gl g w → 0 ≤ gt g w k ∧ gt g w k ≤ 25 := fun k a b => ok.tb w0 w1 a b
  rcases q with (⟨i, c, ib', cb, _, e⟩ | ⟨l8, i, c, ib', cb, _, e⟩) | ⟨i, ib', ⟨l1, e⟩ | ⟨l1, e⟩⟩
  · refine ⟨gl g w, repR g w i c, by omega, fun k a b => ?_, e⟩
    unfold repR
    split
    · omega
    · exact tb k a (by omega)
  · refine ⟨gl g w + 1, insR g w i c, by omega, fun k a b => ?_, ?_⟩
    · unfold insR
      split
      · exact tb k a (by omega)
      · split
        · omega
        · exact tb (k - 1) (by omega) (by omega)
    · rw [show (gl g w + 1).toNat = (gl g w).toNat + 1 by omega]
      exact e
  · refine ⟨gl g w - 1, delR g w i, by omega, fun k a b => ?_, ?_⟩
    · unfold delR
      split
      · exact tb k a (by omega)
      · exact tb (k + 1) (by omega) (by omega)
    · rw [show (gl g w - 1).toNat = (gl g w).toNat - 1 by omega]
      exact e
  · refine ⟨gl g w, swpR g w i, by omega, fun k a b => ?_, e⟩
    unfold swpR
    split
    · exact tb _ (by omega) (by omega)
    · split
      · exact tb _ (by omega) (by omega)
      · exact tb k a (by omega)
theorem DW.near (ok : OkG g) (w0 : 0 ≤ w) (w1 : w < gn g) (n0 : 1 ≤ n ∧ n ≤ 8) (okf : okF f n.toNat) : DW g w (keyN f n.toNat : Int) ↔ NearR g w n f ∨ same g w n f := by
  have lb := ok.lb w0 w1
  have tb : ∀ k, 0 ≤ k → k < gl g w → 0 ≤ gt g w k ∧ gt g w k ≤ 25 := fun k a b => ok.tb w0 w1 a b
  constructor
  · rintro ((⟨i, c, ib', cb, _, e⟩ | ⟨l8, i, c, ib', cb, _, e⟩) | ⟨i, ib', ⟨l1, e⟩ | ⟨l1, e⟩⟩)
    · have okr : okF (repR g w i c) (gl g w).toNat := fun k a b => by
        unfold repR
        split
        · omega
        · exact tb k a (by omega)
      have q := key_inj (by omega) (by omega) okf okr (Int.ofNat.inj e)
      have en : gl g w = n := by omega
      by_cases z : c = gt g w i
      · refine Or.inr ⟨en, fun k k0 k1 => ?_⟩
        rw [q.2 k k0 (by omega)]
        unfold repR
        by_cases zk : k = i
        · rw [if_pos zk, zk, z]
        · rw [if_neg zk]
      · refine Or.inl (Or.inl ⟨en, i, by omega, ?_, fun k k0 k1 nk => ?_⟩)
        · rw [q.2 i ib'.1 (by omega)]
          unfold repR
          rw [if_pos rfl]
          exact z
        · rw [q.2 k k0 (by omega)]
          unfold repR
          rw [if_neg nk]
    · have okr : okF (insR g w i c) ((gl g w).toNat + 1) := fun k a b => by
        unfold insR
        split
        · exact tb k a (by omega)
        · split
          · omega
          · exact tb (k - 1) (by omega) (by omega)
      have q := key_inj (by omega) (by omega) okf okr (Int.ofNat.inj e)
      refine Or.inl (Or.inr (Or.inr (Or.inl ⟨by omega, i, by omega, fun k k0 k1 => ?_⟩)))
      by_cases zk : k < i
      · rw [if_pos zk, q.2 k k0 (by omega)]
        unfold insR
        rw [if_pos zk]
      · rw [if_neg zk, q.2 (k + 1) (by omega) (by omega)]
        unfold insR
        rw [if_neg (by omega), if_neg (by omega), show k + 1 - 1 = k by omega]
    · have okr : okF (delR g w i) ((gl g w).toNat - 1) := fun k a b => by
        unfold delR
        split
        · exact tb k a (by omega)
        · exact tb (k + 1) (by omega) (by omega)
      have q := key_inj (by omega) (by omega) okf okr (Int.ofNat.inj e)
      refine Or.inl (Or.inr (Or.inr (Or.inr ⟨by omega, i, by omega, fun k k0 k1 => ?_⟩)))
      exact q.2 k k0 (by omega)
    · have okr : okF (swpR g w i) (gl g w).toNat := fun k a b => by
        unfold swpR
        split
        · exact tb _ (by omega) (by omega)
        · split
          · exact tb _ (by omega) (by omega)
          · exact tb k a (by omega)
      have q := key_inj (by omega) (by omega) okf okr (Int.ofNat.inj e)
      have en : gl g w = n := by omega
      by_cases z : gt g w i = gt g w (i + 1)
      · refine Or.inr ⟨en, fun k k0 k1 => ?_⟩
        rw [q.2 k k0 (by omega)]
        unfold swpR
        by_cases zk : k = i
        · rw [if_pos zk, zk, z]
        · rw [if_neg zk]
          by_cases zk2 : k = i + 1
          · rw [if_pos zk2, zk2, z]
          · rw [if_neg zk2]
      · refine Or.inl (Or.inr (Or.inl ⟨en, i, by omega, z, ?_, ?_, fun k k0 k1 nk nk2 => ?_⟩))
        · rw [q.2 i ib'.1 (by omega)]
          unfold swpR
          rw [if_pos rfl]
        · rw [q.2 (i + 1) (by omega) (by omega)]
          unfold swpR
          rw [if_neg (by omega), if_pos rfl]
        · rw [q.2 k k0 (by omega)]
          unfold swpR
          rw [if_neg nk, if_neg nk2]
  · have go : ∀ (m : Int) (e : Int → Int), n = m → (∀ k, 0 ≤ k → k < n → f k = e k) → (keyN f n.toNat : Int) = (keyN e m.toNat : Int) := fun m e en ee => by
      rw [← en, key_ext (n := n) (by omega) ee]
    rintro ((⟨en, i, ib', df, ex⟩ | ⟨en, i, ib', df, e1, e2, ex⟩ | ⟨en, i, ib', ex⟩ | ⟨en, i, ib', ex⟩) | ⟨en, ex⟩)
    · have fb := okf i ib'.1 (by omega)
      refine Or.inl (Or.inl ⟨i, f i, by omega, by omega, Or.inl (by omega), go (gl g w) _ en.symm (fun k k0 k1 => ?_)⟩)
      unfold repR
      by_cases zk : k = i
      · rw [if_pos zk, zk]
      · rw [if_neg zk]; exact ex k k0 k1 zk
    · refine Or.inr ⟨i, by omega, Or.inr ⟨by omega, go (gl g w) _ en.symm (fun k k0 k1 => ?_)⟩⟩
      unfold swpR
      by_cases zk : k = i
      · rw [if_pos zk, zk]; exact e1
      · rw [if_neg zk]
        by_cases zk2 : k = i + 1
        · rw [if_pos zk2, zk2]; exact e2
        · rw [if_neg zk2]; exact ex k k0 k1 zk zk2
    · have fb := okf i ib'.1 (by omega)
      refine Or.inl (Or.inr ⟨by omega, i, f i, by omega, by omega, Or.inl (by omega), ?_⟩)
      have := go (gl g w + 1) (insR g w i (f i)) en (fun k k0 k1 => by
        unfold insR
        by_cases zk : k < i
        · rw [if_pos zk, ex k k0 (by omega), if_pos zk]
        · rw [if_neg zk]
          by_cases zk2 : k = i
          · rw [if_pos zk2, zk2]
          · rw [if_neg zk2, ex (k - 1) (by omega) (by omega), if_neg (by omega), show k - 1 + 1 = k by omega])
      rw [show (gl g w + 1).toNat = (gl g w).toNat + 1 by omega] at this
      exact this
    · refine Or.inr ⟨i, by omega, Or.inl ⟨by omega, ?_⟩⟩
      have := go (gl g w - 1) (delR g w i) en (fun k k0 k1 => ex k k0 k1)
      rw [show (gl g w - 1).toNat = (gl g w).toNat - 1 by omega] at this
      exact this
    · have b := tb 0 (Int.le_refl 0) (by omega)
      refine Or.inl (Or.inl ⟨0, gt g w 0, by omega, by omega, Or.inl (by omega), go (gl g w) _ en.symm (fun k k0 k1 => ?_)⟩)
      unfold repR
      by_cases zk : k = 0
      · rw [if_pos zk, zk]; exact (ex 0 (Int.le_refl 0) (by omega)).symm
      · rw [if_neg zk]; exact (ex k k0 k1).symm
end CNF

/-! the class joins the rows with a letter put in -/
abbrev FRj (h h' : AH) : Prop := Fr [42, 43, 44, 45] [((8 : Nat), (7 : Int))] h h'
def JS (h0 : AH) (w : Int) (D : Int → Prop) (B : Int) (h : AH) : Prop := TabN h ∧ (∀ x, HasK h x ↔ HasK h0 x ∨ D x) ∧ (∀ x b, 0 ≤ b → (Jn h x b ↔ Jn h0 x b ∨ (D x ∧ b = w))) ∧ h.1 8 7 ≤ h0.1 8 7 + B ∧ FRj h0 h
theorem JS.start {h : AH} {w : Int} (t : TabN h) : JS h w (fun _ => False) 0 h := ⟨t, fun _ => ⟨Or.inl, fun y => y.elim id False.elim⟩, fun _ _ _ => ⟨Or.inl, fun y => y.elim id (fun z => z.1.elim)⟩, by omega, Fr.refl⟩
theorem JS.congr {h0 h : AH} {w B B' : Int} {D D' : Int → Prop} (j : JS h0 w D B h) (e : ∀ x, D x ↔ D' x) (b : B ≤ B') : JS h0 w D' B' h := ⟨j.1, fun x => by rw [← e]; exact j.2.1 x, fun x b b0 => by rw [← e]; exact j.2.2.1 x b b0, by have := j.2.2.2.1; omega, j.2.2.2.2⟩
section CNA
variable {d : Nat} {g : G} {h0 h : AH} {Q : Int → AH → Prop}
theorem JS.join (hd : 1 < d) {w B k : Int} {D : Int → Prop} (j : JS h0 w D B h) (w0 : 0 ≤ w) (w1 : w < 40) (room : h0.1 8 7 + B < 16000) (kk : ∀ h', JS h0 w (fun x => D x ∨ x = k) (B + 1) h' → FRj h h' → Q 0 h') : Call d M_NewWords_join [vR 8 (-1), vL k, vI w] h Q := by
  obtain ⟨t, hk, hj, ct, ff⟩ := j
  refine cJoin hd t w0 w1 (Or.inl (by omega)) (fun h' t' hk' hj' _ le' f' => kk h' ⟨t', fun x => by rw [hk', hk, or_assoc], fun x b b0 => ?_, by omega, ff.trans f'⟩ f')
  rw [hj' x b b0, hj x b b0]
  constructor
  · rintro ((y | y) | y)
    · exact Or.inl y
    · exact Or.inr ⟨Or.inl y.1, y.2⟩
    · exact Or.inr ⟨Or.inr y.1, y.2⟩
  · rintro (y | ⟨y | y, y2⟩)
    · exact Or.inl (Or.inl y)
    · exact Or.inl (Or.inr ⟨y, y2⟩)
    · exact Or.inr ⟨y, y2⟩
theorem key_low {f : Int → Int} {n : Nat} (hn : n ≤ 8) (ok : okF f n) : keyN f n &&& 1099511627775 = lk f n := by
  have hl := (key_lt hn ok).1
  have e : keyN f n &&& (2 ^ 40 - 1) = keyN f n % 2 ^ 40 := Nat.and_two_pow_sub_one_eq_mod _ 40
  have e2 : keyN f n &&& 1099511627775 = keyN f n % 1099511627776 := e
  rw [e2]
  unfold keyN
  omega
theorem cLettersOf (hd : 0 < d) {w : Int} (r : RepCW g h) (w0 : 0 ≤ w) (w1 : w < gn g) (k : Q (lk (gt g w) (gl g w).toNat : Int) h) : Call d M_NewWords_lettersOf [vR 8 (-1), vI w] h Q := by
  have nb := r.1.1.nb
  have lb := r.1.1.lb w0 w1
  have okw : okF (gt g w) (gl g w).toNat := fun k a b => r.1.1.tb w0 w1 a (by omega)
  have kb := (key_lt (f := gt g w) (n := (gl g w).toNat) (by omega) okw).2
  refine c_NewWords_lettersOf 0 hd ⟨ib (by omega), ?_⟩
  rw [(r.1.2.2 w w0 w1).1.2.2.2.2]
  have e := land_nat (a := gkey g w) (b := 1099511627775) (Nat.lt_trans kb (by decide)) (by decide)
  have e : land (gkey g w : Int) 1099511627775 = ((gkey g w &&& 1099511627775 : Nat) : Int) := e
  rw [e]
  unfold gkey
  rw [key_low (by omega) okw]
  exact k
/-- a mask: the low s bits -/
theorem maskLow {X s : Nat} (hX : X < 1099511627776) (hs : s ≤ 40) : land (X : Int) (w64 (lshl 1 (s : Int) - 1)) = ((X % 2 ^ s : Nat) : Int) := by
  have p : 2 ^ s ≤ 2 ^ 40 := Nat.pow_le_pow_right (by decide) hs
  have p0 : 0 < 2 ^ s := Nat.pow_pos (by decide)
  have e1 := lshl_nat (a := 1) (s := s) (by rw [Nat.one_shiftLeft]; exact Nat.lt_of_le_of_lt p (by decide)) (by omega)
  rw [Nat.one_shiftLeft] at e1
  have e1 : lshl 1 (s : Int) = ((2 ^ s : Nat) : Int) := e1
  have p40 : (2 : Nat) ^ 40 = 1099511627776 := by decide
  rw [e1]
  generalize hq : 2 ^ s = q at *
  have e2 : w64 ((q : Int) - 1) = ((q - 1 : Nat) : Int) := by
    rw [show (q : Int) - 1 = ((q - 1 : Nat) : Int) by omega]
    exact w64n (by omega)
  rw [e2, land_nat (Nat.lt_trans hX (by decide)) (by omega), ← hq, Nat.and_two_pow_sub_one_eq_mod]
theorem keyOf_eq {f : Int → Int} {n : Nat} (hn : n ≤ 8) (ok : okF f n) : lor (lshl (n : Int) 40) (lk f n : Int) = (keyN f n : Int) := by
  have hl := (key_lt hn ok).1
  have e1 := lshl_nat (a := n) (s := 40) (by rw [Nat.shiftLeft_eq]; omega) (by decide)
  have e1 : lshl (n : Int) 40 = ((n <<< 40 : Nat) : Int) := e1
  rw [e1, lor_nat (by rw [Nat.shiftLeft_eq]; omega) (Nat.lt_trans hl (by decide))]
  have e2 : n <<< 40 ||| lk f n = keyN f n := by
    rw [Nat.shiftLeft_eq, Nat.mul_comm n]
    rw [← Nat.two_pow_add_eq_or_of_lt (show lk f n < 2 ^ 40 from hl)]
    unfold keyN
    omega
  rw [e2]
end CNA

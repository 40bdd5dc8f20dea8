/-! joinShorterAndChangedAbout -/
def kDel (g : G) (w i : Int) : Int := (keyN (delR g w i) ((gl g w).toNat - 1) : Int)
def kSwp (g : G) (w i : Int) : Int := (keyN (swpR g w i) (gl g w).toNat : Int)
def dSh (g : G) (w i x : Int) : Prop := ∃ i', (0 ≤ i' ∧ i' < i) ∧ ((1 < gl g w ∧ x = kDel g w i') ∨ (i' + 1 < gl g w ∧ x = kSwp g w i'))
section CND
variable {d : Nat} {g : G} {h0 h : AH} {Q : Int → AH → Prop}
theorem dSh_i {w i x : Int} (i0 : 0 ≤ i) : dSh g w (i + 1) x ↔ (dSh g w i x ∨ (1 < gl g w ∧ x = kDel g w i)) ∨ (i + 1 < gl g w ∧ x = kSwp g w i) := by
  constructor
  · rintro ⟨i', a, e⟩
    by_cases z : i' = i
    · rw [z] at e
      rcases e with e | e
      · exact Or.inl (Or.inr e)
      · exact Or.inr e
    · exact Or.inl (Or.inl ⟨i', by omega, e⟩)
  · rintro ((⟨i', a, e⟩ | e) | e)
    · exact ⟨i', by omega, e⟩
    · exact ⟨i, by omega, Or.inl e⟩
    · exact ⟨i, by omega, Or.inr e⟩
theorem cShort (hd : 2 < d) {w : Int} (r : RepCW g h) (t : TabN h) (w0 : 0 ≤ w) (w1 : w < gn g) (room : h.1 8 7 + 2 * gl g w ≤ 16000) (k : ∀ h', JS h w (dSh g w (gl g w)) (2 * gl g w) h' → Q 0 h') : Call d M_NewWords_joinShorterAndChangedAbout [vR 8 (-1), vI w] h Q := by
  have nb := r.1.1.nb
  have lb := r.1.1.lb w0 w1
  have tb : ∀ k, 0 ≤ k → k < gl g w → 0 ≤ gt g w k ∧ gt g w k ≤ 25 := fun k a b => r.1.1.tb w0 w1 a b
  have okw : okF (gt g w) (gl g w).toNat := fun k a b => tb k a (by omega)
  have lkb := (key_lt (f := gt g w) (n := (gl g w).toNat) (by omega) okw).1
  have kb := (key_lt (f := gt g w) (n := (gl g w).toNat) (by omega) okw).2
  refine c_NewWords_joinShorterAndChangedAbout 2 hd ⟨ib (by omega), ?_⟩
  rw [(r.1.2.2 w w0 w1).1.1]
  have key : ∀ (m : Nat) (i : Int) (hh : AH), (m : Int) = gl g w - i → 0 ≤ i → JS h w (dSh g w i) (2 * i) hh → A_NewWords_joinShorterAndChangedAbout_12 2 Q w (gl g w) i hh := by
    intro m
    induction m with
    | zero =>
      intro i hh e i0 js
      have ei : i = gl g w := by omega
      rw [ei] at js
      rw [ei]
      exact s_NewWords_joinShorterAndChangedAbout_12 ⟨fun _ => k hh js, fun z => by omega⟩
    | succ m ih =>
      intro i hh e i0 js
      have i1 : i < gl g w := by omega
      have rr := r.fr js.2.2.2.2
      have es : 5 * (gl g w - 1 - i) = ((5 * ((gl g w).toNat - 1 - i.toNat) : Nat) : Int) := by omega
      have hi : i.toNat < (gl g w).toNat := by omega
      -- the two that change places
      have second : ∀ hh, JS h w (fun x => dSh g w i x ∨ (1 < gl g w ∧ x = kDel g w i)) (2 * i + 1) hh → A_NewWords_joinShorterAndChangedAbout_76 2 Q w (gl g w) i ((5 * ((gl g w).toNat - 1 - i.toNat) : Nat) : Int) hh := fun hh js => by
        have rr := r.fr js.2.2.2.2
        refine s_NewWords_joinShorterAndChangedAbout_76 ⟨ii (by omega), fun z => ih (i + 1) hh (by omega) (by omega) (js.congr (fun x => ?_) (by omega)), fun z => ?_⟩
        · rw [dSh_i i0]
          exact ⟨Or.inl, fun y => y.elim id (fun y => by omega)⟩
        · refine cLettersOf (by decide) rr w0 w1 (cLettersOf (by decide) rr w0 w1 ⟨ii (by omega), ib (by omega), ?_⟩)
          rw [(rr.1.2.2 w w0 w1).1.2.2.2.2]
          have hn8 : (gl g w).toNat ≤ 8 := by omega
          have hi2 : i.toNat + 1 < (gl g w).toNat := by omega
          have lu := low_u (f := gt g w) (n := (gl g w).toNat) (s := 5 * ((gl g w).toNat - 1 - i.toNat)) hn8 okw (by omega) (by omega)
          have sk := swp_key (f := gt g w) (n := (gl g w).toNat) (i := i.toNat) hn8 okw hi2
          rw [← lu] at sk
          have ef : keyN (fun k => if k = (i.toNat : Int) then gt g w ((i.toNat : Int) + 1) else if k = (i.toNat : Int) + 1 then gt g w (i.toNat : Int) else gt g w k) (gl g w).toNat = keyN (swpR g w i) (gl g w).toNat := by
            rw [Int.toNat_of_nonneg i0]
            rfl
          rw [ef] at sk
          have s35 : 5 * ((gl g w).toNat - 1 - i.toNat) ≤ 35 := by omega
          have s5 : 5 ≤ 5 * ((gl g w).toNat - 1 - i.toNat) := by omega
          have gk : gkey g w = keyN (gt g w) (gl g w).toNat := rfl
          rw [← gk] at sk kb
          generalize hS : 5 * ((gl g w).toNat - 1 - i.toNat) = S at *
          rw [show (S : Int) - 5 = ((S - 5 : Nat) : Int) by omega]
          have a1 := lushr_nat (a := lk (gt g w) (gl g w).toNat) (s := S) (Nat.lt_trans lkb (by decide)) (by omega)
          have a2 := lushr_nat (a := lk (gt g w) (gl g w).toNat) (s := S - 5) (Nat.lt_trans lkb (by decide)) (by omega)
          have b1 : lk (gt g w) (gl g w).toNat >>> S < 1099511627776 := Nat.lt_of_le_of_lt (Nat.shiftRight_le _ _) lkb
          have b2 : lk (gt g w) (gl g w).toNat >>> (S - 5) < 1099511627776 := Nat.lt_of_le_of_lt (Nat.shiftRight_le _ _) lkb
          rw [a1, a2, lxor_nat (Nat.lt_trans b1 (by decide)) (Nat.lt_trans b2 (by decide))]
          have b3 : lk (gt g w) (gl g w).toNat >>> S ^^^ lk (gt g w) (gl g w).toNat >>> (S - 5) < 2 ^ 40 := Nat.xor_lt_two_pow b1 b2
          have a3 := land_nat (a := lk (gt g w) (gl g w).toNat >>> S ^^^ lk (gt g w) (gl g w).toNat >>> (S - 5)) (b := 31) (Nat.lt_trans b3 (by decide)) (by decide)
          have a3 : land ((lk (gt g w) (gl g w).toNat >>> S ^^^ lk (gt g w) (gl g w).toNat >>> (S - 5) : Nat) : Int) 31 = (((lk (gt g w) (gl g w).toNat >>> S ^^^ lk (gt g w) (gl g w).toNat >>> (S - 5)) &&& 31 : Nat) : Int) := a3
          rw [a3]
          have ub : (lk (gt g w) (gl g w).toNat >>> S ^^^ lk (gt g w) (gl g w).toNat >>> (S - 5)) &&& 31 ≤ 31 := Nat.and_le_right
          generalize (lk (gt g w) (gl g w).toNat >>> S ^^^ lk (gt g w) (gl g w).toNat >>> (S - 5)) &&& 31 = U at *
          have shb : ∀ q, q ≤ 35 → U <<< q < 1099511627776 := fun q hq => by
            rw [Nat.shiftLeft_eq]
            have h2 : U * 2 ^ q ≤ 31 * 2 ^ 35 := Nat.mul_le_mul ub (Nat.pow_le_pow_right (by decide) hq)
            exact Nat.lt_of_le_of_lt h2 (by decide)
          have c1 := shb S s35
          have c2 := shb (S - 5) (by omega)
          have kb2 : gkey g w < 2 ^ 44 := Nat.lt_trans kb (by decide)
          have x1 : gkey g w ^^^ U <<< S < 2 ^ 44 := Nat.xor_lt_two_pow kb2 (Nat.lt_trans c1 (by decide))
          rw [lshl_nat (Nat.lt_trans c1 (by decide)) (by omega), lshl_nat (Nat.lt_trans c2 (by decide)) (by omega), lxor_nat (Nat.lt_trans kb2 (by decide)) (Nat.lt_trans c1 (by decide)), lxor_nat (Nat.lt_trans x1 (by decide)) (Nat.lt_trans c2 (by decide)), sk]
          exact JS.join (by decide) js w0 (by omega) (by omega) (fun h' js' _ => ih (i + 1) h' (by omega) (by omega) (js'.congr (fun x => by
            rw [dSh_i i0]
            constructor
            · rintro (y | y)
              · exact Or.inl y
              · exact Or.inr ⟨z, y⟩
            · rintro (y | y)
              · exact Or.inl y
              · exact Or.inr y.2) (by omega)))
      refine s_NewWords_joinShorterAndChangedAbout_12 ⟨fun z => by omega, fun _ => ⟨ii (by omega), ii (by omega), ii (by omega), cLettersOf (by decide) rr w0 w1 (cLettersOf (by decide) rr w0 w1 ⟨ii (by omega), fun z => ?_, fun z => ?_⟩)⟩⟩
      · rw [es]
        exact second hh (js.congr (fun x => ⟨Or.inl, fun y => y.elim id (fun y => by omega)⟩) (by omega))
      · have okd : okF (delR g w i) ((gl g w).toNat - 1) := fun k a b => by
          unfold delR
          split
          · exact tb k a (by omega)
          · exact tb (k + 1) (by omega) (by omega)
        have dk := del_lk (f := gt g w) (n := (gl g w).toNat) (i := i.toNat) okw hi
        have ef : lk (fun k => gt g w (if k < (i.toNat : Int) then k else k + 1)) ((gl g w).toNat - 1) = lk (delR g w i) ((gl g w).toNat - 1) := by
          rw [Int.toNat_of_nonneg i0]
          rfl
        rw [ef] at dk
        have hl := (key_lt (f := delR g w i) (n := (gl g w).toNat - 1) (by omega) okd).1
        have s35 : 5 * ((gl g w).toNat - 1 - i.toNat) ≤ 35 := by omega
        rw [es]
        have second := second
        generalize hS : 5 * ((gl g w).toNat - 1 - i.toNat) = S at *
        rw [show (S : Int) + 5 = ((S + 5 : Nat) : Int) by omega]
        have q1 : (lk (gt g w) (gl g w).toNat >>> (S + 5)) <<< S ≤ lk (delR g w i) ((gl g w).toNat - 1) := by rw [← dk]; exact Nat.left_le_or
        have q2 : lk (gt g w) (gl g w).toNat % 2 ^ S ≤ lk (delR g w i) ((gl g w).toNat - 1) := by rw [← dk]; exact Nat.right_le_or
        refine c_Words_keyOf 1 (by decide) ?_
        rw [lushr_nat (Nat.lt_trans lkb (by decide)) (by omega), lshl_nat (Nat.lt_of_le_of_lt q1 (Nat.lt_trans hl (by decide))) (by omega), maskLow lkb (by omega), lor_nat (Nat.lt_of_le_of_lt q1 (Nat.lt_trans hl (by decide))) (Nat.lt_of_le_of_lt q2 (Nat.lt_trans hl (by decide))), dk, show gl g w - 1 = (((gl g w).toNat - 1 : Nat) : Int) by omega, keyOf_eq (by omega) okd]
        refine JS.join (by decide) js w0 (by omega) (by omega) (fun h' js' _ => ?_)
        have := second h' (js'.congr (fun x => ⟨fun y => y.elim Or.inl (fun y => Or.inr ⟨z, y⟩), fun y => y.elim Or.inl (fun y => Or.inr y.2)⟩) (Int.le_refl _))
        exact this
  exact key (gl g w).toNat 0 h (by omega) (Int.le_refl 0) ((JS.start t).congr (fun x => ⟨False.elim, fun ⟨i', a, _⟩ => by omega⟩) (by omega))
end CND

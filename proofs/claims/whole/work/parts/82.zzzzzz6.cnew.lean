/-! the class joins the rows with one other letter -/
section CN6
variable {d : Nat} {g : G} {h : AH} {Q : Int → AH → Prop}
/-- key of the row of w with the letter c at place i -/
def kRep (g : G) (w i c : Int) : Int := (keyN (repR g w i c) (gl g w).toNat : Int)
def dRep (g : G) (w i c x : Int) : Prop := ∃ i' c', (0 ≤ i' ∧ i' < gl g w) ∧ (0 ≤ c' ∧ c' < 26) ∧ (i' < i ∨ (i' = i ∧ c' < c)) ∧ x = kRep g w i' c'
theorem dRep_c {w i c x : Int} (i0 : 0 ≤ i) (i1 : i < gl g w) (c0 : 0 ≤ c) (c1 : c < 26) : dRep g w i (c + 1) x ↔ dRep g w i c x ∨ x = kRep g w i c := by
  constructor
  · rintro ⟨i', c', a, b, e, e2⟩
    by_cases z : i' = i ∧ c' = c
    · rw [z.1, z.2] at e2; exact Or.inr e2
    · exact Or.inl ⟨i', c', a, b, by omega, e2⟩
  · rintro (⟨i', c', a, b, e, e2⟩ | e)
    · exact ⟨i', c', a, b, by omega, e2⟩
    · exact ⟨i, c, ⟨i0, i1⟩, ⟨c0, c1⟩, by omega, e⟩
theorem dRep_i {w i x : Int} : dRep g w (i + 1) 0 x ↔ dRep g w i 26 x := by
  constructor
  · rintro ⟨i', c', a, b, e, e2⟩
    exact ⟨i', c', a, b, by omega, e2⟩
  · rintro ⟨i', c', a, b, e, e2⟩
    exact ⟨i', c', a, b, by omega, e2⟩
theorem cOther (hd : 2 < d) {w : Int} (r : RepCW g h) (t : TabN h) (w0 : 0 ≤ w) (w1 : w < gn g) (room : h.1 8 7 + 25 * gl g w + 1 ≤ 16000) (k : ∀ h', TabN h' → (∀ x, HasK h' x ↔ HasK h x ∨ dRep g w (gl g w) 0 x) → (∀ x b, 0 ≤ b → (Jn h' x b ↔ Jn h x b ∨ (dRep g w (gl g w) 0 x ∧ b = w))) → h'.1 8 7 ≤ h.1 8 7 + 25 * gl g w + 1 → Fr [42, 43, 44, 45] [(8, 7)] h h' → Q 0 h') : Call d M_NewWords_joinOtherLetters [vR 8 (-1), vI w] h Q := by
  have nb := r.1.1.nb
  have lb := r.1.1.lb w0 w1
  have tb : ∀ k, 0 ≤ k → k < gl g w → 0 ≤ gt g w k ∧ gt g w k ≤ 25 := fun k a b => r.1.1.tb w0 w1 a b
  have okw : okF (gt g w) (gl g w).toNat := fun k a b => tb k a (by omega)
  have own : ∀ i, kRep g w i (gt g w i) = (gkey g w : Int) := fun i => by
    unfold kRep gkey
    rw [key_ext (n := gl g w) (f' := gt g w) (by omega) (fun k a b => by unfold repR; by_cases z : k = i; (rw [if_pos z, z]); (rw [if_neg z]))]
  refine c_NewWords_joinOtherLetters 2 hd ?_
  have key : ∀ (m : Nat) (i : Int) (hh : AH), (m : Int) = gl g w - i → 0 ≤ i → TabN hh → (∀ x, HasK hh x ↔ HasK h x ∨ dRep g w i 0 x) → (∀ x b, 0 ≤ b → (Jn hh x b ↔ Jn h x b ∨ (dRep g w i 0 x ∧ b = w))) → ((i = 0 → hh.1 8 7 ≤ h.1 8 7) ∧ (i ≠ 0 → hh.1 8 7 ≤ h.1 8 7 + 25 * i + 1)) → Fr [42, 43, 44, 45] [(8, 7)] h hh → A_NewWords_joinOtherLetters_2 2 Q w i hh := by
    intro m
    induction m with
    | zero =>
      intro i hh e i0 t1 hk hj ct ff
      have rr := r.fr ff
      refine s_NewWords_joinOtherLetters_2 ⟨ib (by omega), ?_⟩
      rw [(rr.1.2.2 w w0 w1).1.1]
      have ei : i = gl g w := by omega
      refine ⟨fun _ => k hh t1 (by rw [← ei]; exact hk) (by rw [← ei]; exact hj) (by have := ct.2 (by omega); omega) ff, fun z => by omega⟩
    | succ m ih =>
      intro i hh e i0 t1 hk hj ct ff
      have rr := r.fr ff
      have i1 : i < gl g w := by omega
      have ob := tb i i0 i1
      refine s_NewWords_joinOtherLetters_2 ⟨ib (by omega), ?_⟩
      rw [(rr.1.2.2 w w0 w1).1.1, (rr.1.2.2 w w0 w1).1.2.2.2.2]
      refine ⟨fun z => by omega, fun _ => ⟨ii (by omega), ii (by omega), ii (by omega), ?_⟩⟩
      have es : 5 * (gl g w - 1 - i) = ((5 * ((gl g w).toNat - 1 - i.toNat) : Nat) : Int) := by omega
      have s35 : 5 * ((gl g w).toNat - 1 - i.toNat) ≤ 35 := by omega
      have shb : ∀ a : Nat, a < 32 → a <<< (5 * ((gl g w).toNat - 1 - i.toNat)) < 1099511627776 := fun a ha => by
        rw [Nat.shiftLeft_eq]
        have : 2 ^ (5 * ((gl g w).toNat - 1 - i.toNat)) ≤ 2 ^ 35 := Nat.pow_le_pow_right (by decide) s35
        have h2 : a * 2 ^ (5 * ((gl g w).toNat - 1 - i.toNat)) ≤ 31 * 2 ^ 35 := Nat.mul_le_mul (by omega) this
        exact Nat.lt_of_le_of_lt h2 (by decide)
      have kb := (key_lt (f := gt g w) (n := (gl g w).toNat) (by omega) okw).2
      have b1 : lshl 31 (5 * (gl g w - 1 - i)) = ((31 <<< (5 * ((gl g w).toNat - 1 - i.toNat)) : Nat) : Int) := by
        rw [es]
        exact lshl_nat (a := 31) (Nat.lt_trans (shb 31 (by decide)) (by decide)) (by omega)
      have b2 := lminus (x := gkey g w) (y := 31 <<< (5 * ((gl g w).toNat - 1 - i.toNat))) (Nat.lt_trans kb (by decide))
      rw [b1, b2]
      have kq : ∀ c : Int, 0 ≤ c → c < 26 → lor ((gkey g w ^^^ (gkey g w &&& 31 <<< (5 * ((gl g w).toNat - 1 - i.toNat))) : Nat) : Int) (lshl c (5 * (gl g w - 1 - i))) = kRep g w i c := fun c c0 c1 => by
        have e1 := lshl_nat (a := c.toNat) (s := 5 * ((gl g w).toNat - 1 - i.toNat)) (Nat.lt_trans (shb c.toNat (by omega)) (by decide)) (by omega)
        rw [Int.toNat_of_nonneg c0, ← es] at e1
        have xb : gkey g w ^^^ (gkey g w &&& 31 <<< (5 * ((gl g w).toNat - 1 - i.toNat))) < 2 ^ 44 := Nat.xor_lt_two_pow (Nat.lt_trans kb (by decide)) (Nat.lt_of_le_of_lt Nat.and_le_left (Nat.lt_trans kb (by decide)))
        rw [e1, lor_nat (Nat.lt_trans xb (by decide)) (Nat.lt_trans (shb c.toNat (by omega)) (by decide))]
        have := rep_key (f := gt g w) (n := (gl g w).toNat) (i := i.toNat) (c := c.toNat) (by omega) okw (by omega) (by omega)
        rw [Int.toNat_of_nonneg c0, Int.toNat_of_nonneg i0] at this
        unfold gkey kRep
        rw [this]
        rfl
      have inner : ∀ (j : Nat) (c : Int) (hh : AH), (j : Int) = 26 - c → 0 ≤ c → TabN hh → (∀ x, HasK hh x ↔ HasK h x ∨ dRep g w i c x) → (∀ x b, 0 ≤ b → (Jn hh x b ↔ Jn h x b ∨ (dRep g w i c x ∧ b = w))) → ((i = 0 → hh.1 8 7 ≤ h.1 8 7 + c) ∧ (i ≠ 0 → hh.1 8 7 ≤ h.1 8 7 + 25 * i + 1 + c ∧ (gt g w i < c → hh.1 8 7 ≤ h.1 8 7 + 25 * i + c))) → Fr [42, 43, 44, 45] [(8, 7)] h hh → A_NewWords_joinOtherLetters_55 2 Q w i (5 * (gl g w - 1 - i)) ((gkey g w ^^^ (gkey g w &&& 31 <<< (5 * ((gl g w).toNat - 1 - i.toNat))) : Nat) : Int) c hh := by
        intro j
        induction j with
        | zero =>
          intro c hh e c0 t1 hk hj ct ff
          have ec : c = 26 := by omega
          rw [ec] at hk hj ct
          refine s_NewWords_joinOtherLetters_55 ⟨fun _ => ⟨ii (by omega), ih (i + 1) hh (by omega) (by omega) t1 (fun x => by rw [dRep_i]; exact hk x) (fun x b b0 => by rw [dRep_i]; exact hj x b b0) ⟨fun z => by omega, fun _ => ?_⟩ ff⟩, fun z => by omega⟩
          by_cases z : i = 0
          · have := ct.1 z; omega
          · have := (ct.2 z).2 (by omega); omega
        | succ j ihj =>
          intro c hh e c0 t1 hk hj ct ff
          have c1 : c < 26 := by omega
          refine s_NewWords_joinOtherLetters_55 ⟨fun z => by omega, fun _ => ?_⟩
          rw [kq c c0 c1]
          have hown : i ≠ 0 → c = gt g w i → HasK hh (kRep g w i c) := fun z e => by
            rw [hk]
            refine Or.inr ⟨0, gt g w 0, ⟨Int.le_refl 0, by omega⟩, ?_, Or.inl (by omega), by rw [e, own, own]⟩
            have := tb 0 (Int.le_refl 0) (by omega)
            omega
          refine cJoin (by decide) t1 w0 (by omega) ?_ (fun h' t' hk' hj' same' le' f' => ⟨ii (by omega), ihj (c + 1) h' (by omega) (by omega) t' (fun x => by rw [hk', hk, dRep_c i0 i1 c0 c1, or_assoc]) (fun x b b0 => ?_) ⟨fun z => ?_, fun z => ?_⟩ (ff.trans f')⟩)
          · by_cases z : i = 0
            · have := ct.1 z
              exact Or.inl (by omega)
            · have q := ct.2 z
              by_cases z2 : c = gt g w i
              · exact Or.inr (hown z z2)
              · by_cases z3 : gt g w i < c
                · have := q.2 z3
                  exact Or.inl (by omega)
                · have := q.1
                  exact Or.inl (by omega)
          · rw [hj' x b b0, hj x b b0, dRep_c i0 i1 c0 c1]
            constructor
            · rintro ((y | y) | y)
              · exact Or.inl y
              · exact Or.inr ⟨Or.inl y.1, y.2⟩
              · exact Or.inr ⟨Or.inr y.1, y.2⟩
            · rintro (y | ⟨y | y, y2⟩)
              · exact Or.inl (Or.inl y)
              · exact Or.inl (Or.inr ⟨y, y2⟩)
              · exact Or.inr ⟨y, y2⟩
          · have := ct.1 z
            omega
          · have q := ct.2 z
            by_cases z2 : c = gt g w i
            · have := same' (hown z z2)
              exact ⟨by omega, fun _ => by omega⟩
            · exact ⟨by omega, fun y => by have := q.2 (by omega); omega⟩
      exact inner 26 0 hh (by omega) (Int.le_refl 0) t1 hk hj ⟨fun z => by have := ct.1 z; omega, fun z => ⟨by have := ct.2 z; omega, fun y => by omega⟩⟩ ff
  exact key (gl g w).toNat 0 h (by omega) (Int.le_refl 0) t (fun x => ⟨Or.inl, fun y => y.elim id (fun ⟨i', c', a, b, e, _⟩ => by omega)⟩) (fun x b b0 => ⟨Or.inl, fun y => y.elim id (fun ⟨⟨i', c', a, b, e, _⟩, _⟩ => by omega)⟩) ⟨fun _ => Int.le_refl _, fun z => absurd rfl z⟩ Fr.refl
end CN6

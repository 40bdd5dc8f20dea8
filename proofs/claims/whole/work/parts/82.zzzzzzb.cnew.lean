/-! joinPutIn -/
def kIns (g : G) (w i c : Int) : Int := (keyN (insR g w i c) ((gl g w).toNat + 1) : Int)
def dIns (g : G) (w i c x : Int) : Prop := ∃ i' c', (0 ≤ i' ∧ i' ≤ gl g w) ∧ (0 ≤ c' ∧ c' < 26) ∧ (i' < i ∨ (i' = i ∧ c' < c)) ∧ x = kIns g w i' c'
section CNB
variable {d : Nat} {g : G} {h0 h : AH} {Q : Int → AH → Prop}
theorem dIns_c {w i c x : Int} (i0 : 0 ≤ i) (i1 : i ≤ gl g w) (c0 : 0 ≤ c) (c1 : c < 26) : dIns g w i (c + 1) x ↔ dIns g w i c x ∨ x = kIns g w i c := by
  constructor
  · rintro ⟨i', c', a, b, e, e2⟩
    by_cases z : i' = i ∧ c' = c
    · rw [z.1, z.2] at e2; exact Or.inr e2
    · exact Or.inl ⟨i', c', a, b, by omega, e2⟩
  · rintro (⟨i', c', a, b, e, e2⟩ | e)
    · exact ⟨i', c', a, b, by omega, e2⟩
    · exact ⟨i, c, ⟨i0, i1⟩, ⟨c0, c1⟩, by omega, e⟩
theorem dIns_i {w i x : Int} : dIns g w i 26 x ↔ dIns g w (i + 1) 0 x := by
  constructor
  · rintro ⟨i', c', a, b, e, e2⟩
    exact ⟨i', c', a, b, by omega, e2⟩
  · rintro ⟨i', c', a, b, e, e2⟩
    exact ⟨i', c', a, b, by omega, e2⟩
theorem cPutIn (hd : 2 < d) {w : Int} (r : RepCW g h) (t : TabN h) (w0 : 0 ≤ w) (w1 : w < gn g) (room : h.1 8 7 + (if gl g w < 8 then 26 * (gl g w + 1) else 0) ≤ 16000) (k : ∀ h', JS h w (fun x => gl g w < 8 ∧ dIns g w (gl g w + 1) 0 x) (if gl g w < 8 then 26 * (gl g w + 1) else 0) h' → Q 0 h') : Call d M_NewWords_joinPutIn [vR 8 (-1), vI w] h Q := by
  have nb := r.1.1.nb
  have lb := r.1.1.lb w0 w1
  have tb : ∀ k, 0 ≤ k → k < gl g w → 0 ≤ gt g w k ∧ gt g w k ≤ 25 := fun k a b => r.1.1.tb w0 w1 a b
  have okw : okF (gt g w) (gl g w).toNat := fun k a b => tb k a (by omega)
  refine c_NewWords_joinPutIn 2 hd ⟨ib (by omega), ?_⟩
  rw [(r.1.2.2 w w0 w1).1.1]
  refine ⟨fun l8 => ?_, fun l8 => k h (JS.congr (JS.start t) (fun x => ⟨False.elim, fun y => by have := y.1; omega⟩) (by split <;> omega))⟩
  rw [if_pos l8] at room
  have lkb := (key_lt (f := gt g w) (n := (gl g w).toNat) (by omega) okw).1
  have key : ∀ (m : Nat) (i : Int) (hh : AH), (m : Int) = gl g w + 1 - i → 0 ≤ i → JS h w (dIns g w i 0) (26 * i) hh → A_NewWords_joinPutIn_19 2 Q w (gl g w) i hh := by
    intro m
    induction m with
    | zero =>
      intro i hh e i0 js
      have ei : i = gl g w + 1 := by omega
      rw [ei] at js
      exact s_NewWords_joinPutIn_19 ⟨fun _ => k hh (js.congr (fun x => ⟨fun y => ⟨l8, y⟩, fun y => y.2⟩) (by rw [if_pos l8]; omega)), fun z => by omega⟩
    | succ m ih =>
      intro i hh e i0 js
      have i1 : i ≤ gl g w := by omega
      have es : 5 * (gl g w - i) = ((5 * ((gl g w).toNat - i.toNat) : Nat) : Int) := by omega
      refine s_NewWords_joinPutIn_19 ⟨fun z => by omega, fun _ => ⟨ii (by omega), ii (by omega), cLettersOf (by decide) (r.fr js.2.2.2.2) w0 w1 (cLettersOf (by decide) (r.fr js.2.2.2.2) w0 w1 ?_)⟩⟩
      rw [es, maskLow lkb (by omega), lushr_nat (Nat.lt_trans lkb (by decide)) (by omega)]
      have inner : ∀ (j : Nat) (c : Int) (hh : AH), (j : Int) = 26 - c → 0 ≤ c → JS h w (dIns g w i c) (26 * i + c) hh → A_NewWords_joinPutIn_58 2 Q w (gl g w) i ((5 * ((gl g w).toNat - i.toNat) : Nat) : Int) ((lk (gt g w) (gl g w).toNat % 2 ^ (5 * ((gl g w).toNat - i.toNat)) : Nat) : Int) ((lk (gt g w) (gl g w).toNat >>> (5 * ((gl g w).toNat - i.toNat)) : Nat) : Int) c hh := by
        intro j
        induction j with
        | zero =>
          intro c hh e c0 js
          have ec : c = 26 := by omega
          rw [ec] at js
          exact s_NewWords_joinPutIn_58 ⟨fun _ => ⟨ii (by omega), ih (i + 1) hh (by omega) (by omega) (js.congr (fun x => dIns_i) (by omega))⟩, fun z => by omega⟩
        | succ j ihj =>
          intro c hh e c0 js
          have c1 : c < 26 := by omega
          have oki : okF (insR g w i c) ((gl g w).toNat + 1) := fun k a b => by
            unfold insR
            split
            · exact tb k a (by omega)
            · split
              · omega
              · exact tb (k - 1) (by omega) (by omega)
          have ea := ins_lk (f := gt g w) (n := (gl g w).toNat) (i := i.toNat) (c := c.toNat) okw (by omega) (by omega)
          have ef : lk (fun k => if k < (i.toNat : Int) then gt g w k else if k = (i.toNat : Int) then (c.toNat : Int) else gt g w (k - 1)) ((gl g w).toNat + 1) = lk (insR g w i c) ((gl g w).toNat + 1) := by
            rw [Int.toNat_of_nonneg i0, Int.toNat_of_nonneg c0]
            rfl
          rw [ef] at ea
          have hl := (key_lt (f := insR g w i c) (n := (gl g w).toNat + 1) (by omega) oki).1
          generalize hA : lk (gt g w) (gl g w).toNat >>> (5 * ((gl g w).toNat - i.toNat)) = A at *
          generalize hB : lk (gt g w) (gl g w).toNat % 2 ^ (5 * ((gl g w).toNat - i.toNat)) = B at *
          generalize hS : 5 * ((gl g w).toNat - i.toNat) = S at *
          have q2 : (A <<< 5 ||| c.toNat) <<< S ≤ lk (insR g w i c) ((gl g w).toNat + 1) := by rw [← ea]; exact Nat.left_le_or
          have q3 : B ≤ lk (insR g w i c) ((gl g w).toNat + 1) := by rw [← ea]; exact Nat.right_le_or
          have q1 : A <<< 5 ||| c.toNat ≤ (A <<< 5 ||| c.toNat) <<< S := Nat.le_shiftLeft
          have q0 : A <<< 5 ≤ A <<< 5 ||| c.toNat := Nat.left_le_or
          have l1 := lshl_nat (a := A) (s := 5) (by omega) (by decide)
          have l1 : lshl (A : Int) 5 = ((A <<< 5 : Nat) : Int) := l1
          have l2 := lor_nat (a := A <<< 5) (b := c.toNat) (by omega) (by omega)
          rw [Int.toNat_of_nonneg c0] at l2
          have l3 := lshl_nat (a := A <<< 5 ||| c.toNat) (s := S) (by omega) (by omega)
          have l4 := lor_nat (a := (A <<< 5 ||| c.toNat) <<< S) (b := B) (by omega) (by omega)
          refine s_NewWords_joinPutIn_58 ⟨fun z => by omega, fun _ => ⟨ii (by omega), c_Words_keyOf 1 (by decide) ?_⟩⟩
          rw [l1, l2, l3, l4, ea, show gl g w + 1 = (((gl g w).toNat + 1 : Nat) : Int) by omega, keyOf_eq (by omega) oki]
          exact JS.join (by decide) js w0 (by omega) (by omega) (fun h' js' _ => ⟨ii (by omega), ihj (c + 1) h' (by omega) (by omega) (js'.congr (fun x => (dIns_c i0 i1 c0 c1).symm) (by omega))⟩)
      exact inner 26 0 hh (by omega) (Int.le_refl 0) (js.congr (fun _ => Iff.rfl) (by omega))
  exact key ((gl g w).toNat + 1) 0 h (by omega) (Int.le_refl 0) ((JS.start t).congr (fun x => ⟨False.elim, fun ⟨i', c', a, b, e, _⟩ => by omega⟩) (by omega))
end CNB

/-! the class: squares -/
theorem cp_in {h : AH} {o1 o2 n : Nat} {k : Int} (h0 : 0 ≤ k) (h1 : k < n) : (cpI h o1 o2 n).1 o2 k = h.1 o1 k := if_pos ⟨rfl, h0, h1⟩
theorem cp_ne {h : AH} {o1 o2 n o' : Nat} {k : Int} (hne : o' ≠ o2) : (cpI h o1 o2 n).1 o' k = h.1 o' k := if_neg (fun z => hne z.1)
theorem Fr.cpI {L : List Nat} {F : List (Nat × Int)} {h : AH} {o1 o2 n : Nat} (hm : o2 ∈ L) : Fr L F h (cpI h o1 o2 n) := fun o k x y => ⟨if_neg (fun (z : o = o2 ∧ 0 ≤ k ∧ k < (n : Int)) => x (z.1 ▸ hm)), rfl, fun _ => rfl⟩
def AccC (n : Int) (a : Acc) (h : AH) : Prop := h.1 11 7 = a.1 ∧ (a.1 ≠ 0 → ∀ i, 0 ≤ i → i < n → h.1 57 i = a.2 i)
def OpenAt (g : G) (n : Int) (c : Int → Int) (k : Int) (h : AH) : Prop := ∀ col, 0 ≤ col → col < n → ∃ N : Nat, N < 1099511627776 ∧ h.2.1 55 (k * 4 + col) = (N : Int) ∧ ∀ w : Nat, N.testBit w = true ↔ (w : Int) < gn g ∧ isO g n w ∧ ∀ i : Int, 0 ≤ i → i < k → gt g w i = gt g (c i) col
def TabW (g : G) (n v1 v2 : Int) (h : AH) : Prop := ∀ i l, 0 ≤ i → i < n → 0 ≤ l → l < 26 → ∃ N : Nat, N < 1099511627776 ∧ h.2.1 54 (i * 26 + l) = (N : Int) ∧ ∀ w : Nat, N.testBit w = true ↔ ((w : Int) < v1 ∨ ((w : Int) = v1 ∧ i < v2)) ∧ isO g n w ∧ gt g w i = l
section CSQ
variable {d : Nat} {g : G} {h : AH} {K : Int → AH → Prop}
theorem cFindWords (hd : 2 < d) {n : Int} (r : RepCW g h) (n0 : 1 ≤ n) (n1 : n ≤ 4) (e6 : h.1 11 6 = n) (k : ∀ h' (S : Nat), TabW g n (gn g) 0 h' → h'.2.1 11 5 = (S : Int) → S < 1099511627776 → MaskP (fun w => isO g n w) (gn g) S → Fr [54] [(11, 5)] h h' → K 0 h') : Call d M_Squares_findWords [vR 11 (-1)] h K := by
  have nb := r.ok.nb
  refine c_Squares_findWords 2 hd (jFill (by decide) (fun h1 z1 f1 => ?_))
  have f1' : Fr [54] [(11, 5)] h h1 := (Fr.wL (Or.inr (by decide))).trans (f1.mono (by decide) (by decide))
  have q5 : h1.2.1 11 5 = 0 := by rw [f1.l 11]; exact rL_eq
  have E6 : ∀ hh, Fr [54] [(11, 5)] h hh → hh.1 11 6 = n := fun hh ff => by rw [ff.f 11 6]; exact e6
  have loop : ∀ m : Nat, ∀ (v1 : Int) (S : Nat) (hh : AH), 0 ≤ v1 → v1 ≤ gn g → gn g - v1 < m → Fr [54] [(11, 5)] h hh → TabW g n v1 0 hh → hh.2.1 11 5 = (S : Int) → S < 1099511627776 → MaskP (fun w => isO g n w) v1 S → A_Squares_findWords_15 2 K v1 hh := by
    intro m
    induction m with
    | zero => intro v1 S hh x1 x2 e; omega
    | succ m ih =>
      intro v1 S hh x1 x2 e ff tw e5 hS mk
      have rr := r.fr ff
      have ev : v1 = ((v1.toNat : Nat) : Int) := by omega
      refine s_Squares_findWords_15 ?_
      rw [rr.n]
      refine ⟨fun c => k hh S (by rw [show gn g = v1 by omega]; exact tw) e5 hS (mk.full (by omega)) ff, fun c => ?_⟩
      have lb := r.ok.lb x1 c
      have skip : ¬ isO g n v1 → inI (v1 + 1) ∧ A_Squares_findWords_15 2 K (v1 + 1) hh := fun hn => ⟨ii (by omega), ih (v1 + 1) S hh (by omega) (by omega) (by omega) ff (fun i l i0 i1 l0 l1 => by
        obtain ⟨N, a1, a2, a3⟩ := tw i l i0 i1 l0 l1
        refine ⟨N, a1, a2, fun w => ?_⟩
        rw [a3 w]
        constructor
        · rintro ⟨b1, b2, b3⟩
          exact ⟨by omega, b2, b3⟩
        · rintro ⟨b1, b2, b3⟩
          refine ⟨?_, b2, b3⟩
          by_cases z : (w : Int) = v1
          · rw [z] at b2; exact absurd b2 hn
          · omega) e5 hS (mk.skip x1 (by rw [← ev]; exact hn))⟩
      refine wIsUsed (by decide) rr (fun _ _ hu => br1 ⟨ib (by omega), ?_⟩) (fun hn => br0 (skip (fun z => hn ⟨x1, c, z.1⟩)))
      rw [rr.1.l x1 c, E6 hh ff]
      refine ⟨fun z => skip (fun y => z y.2), fun z => ?_⟩
      have lo := lor1 hS x1 (show v1 < 40 by omega)
      rw [e5, lo.1]
      have inner : ∀ m : Nat, ∀ (v2 : Int) (h3 : AH), 0 ≤ v2 → v2 ≤ n → n - v2 < m → Fr [54] [(11, 5)] h h3 → TabW g n v1 v2 h3 → h3.2.1 11 5 = ((S ||| 1 <<< v1.toNat : Nat) : Int) → A_Squares_findWords_67 2 K v1 v2 h3 := by
        intro m
        induction m with
        | zero => intro v2 h3 y1 y2 e; omega
        | succ m ih2 =>
          intro v2 h3 y1 y2 e2 f3 t3 e5'
          refine s_Squares_findWords_67 ?_
          rw [E6 h3 f3]
          have done : n ≤ v2 → inI (v1 + 1) ∧ A_Squares_findWords_15 2 K (v1 + 1) h3 := fun hn => ⟨ii (by omega), ih (v1 + 1) _ h3 (by omega) (by omega) (by omega) f3 (fun i l i0 i1 l0 l1 => by
            obtain ⟨N, a1, a2, a3⟩ := t3 i l i0 i1 l0 l1
            refine ⟨N, a1, a2, fun w => ?_⟩
            rw [a3 w]
            constructor
            · rintro ⟨b1, b2⟩
              exact ⟨by omega, b2⟩
            · rintro ⟨b1, b2⟩
              exact ⟨by omega, b2⟩) e5' lo.2 (mk.put x1 (by rw [← ev]; exact ⟨hu, z⟩))⟩
          refine ⟨fun c2 => done c2, fun c2 => ⟨fun c3 => by omega, fun c3 => ?_⟩⟩
          have rr3 := r.fr f3
          have tb := r.ok.tb x1 c y1 (show v2 < gl g v1 by omega)
          rw [rr3.1.t x1 c y1 (by omega)]
          obtain ⟨N, a1, a2, a3⟩ := t3 v2 (gt g v1 v2) y1 c2 tb.1 (by omega)
          have lo2 := lor1 a1 x1 (show v1 < 40 by omega)
          rw [a2, lo2.1]
          refine ⟨ii (by omega), ib (by omega), ib (by omega), ii (by omega), ib (by omega), ii (by omega), ih2 (v2 + 1) _ (by omega) (by omega) (by omega) (f3.trans (Fr.wL (Or.inl (by decide)))) (fun i l i0 i1 l0 l1 => ?_) (by rw [rL_ne (by decide)]; exact e5')⟩
          by_cases y : i = v2 ∧ l = gt g v1 v2
          · rw [y.1, y.2]
            refine ⟨_, lo2.2, rL_eq, fun w => ?_⟩
            rw [bit_or_test, a3 w]
            constructor
            · rintro (b | b)
              · exact ⟨by omega, b.2⟩
              · have eb : (w : Int) = v1 := by omega
                rw [eb]
                exact ⟨by omega, ⟨hu, z⟩, rfl⟩
            · rintro ⟨b1, b2⟩
              by_cases u : (w : Int) = v1
              · exact Or.inr (by omega)
              · exact Or.inl ⟨by omega, b2⟩
          · rw [rL_nk (ix_ne l0 l1 tb.1 (by omega) y)]
            obtain ⟨N', b1, b2, b3⟩ := t3 i l i0 i1 l0 l1
            refine ⟨N', b1, b2, fun w => ?_⟩
            rw [b3 w]
            constructor
            · rintro ⟨u1, u2⟩
              exact ⟨by omega, u2⟩
            · rintro ⟨u1, u2, u3⟩
              refine ⟨?_, u2, u3⟩
              by_cases u : (w : Int) = v1 ∧ i = v2
              · rw [u.1, u.2] at u3
                exact absurd ⟨u.2, u3.symm⟩ y
              · omega
      exact inner 6 0 _ (by decide) (by omega) (by omega) (ff.trans (Fr.wL (Or.inr (by decide)))) (fun i l i0 i1 l0 l1 => by
        obtain ⟨N, a1, a2, a3⟩ := tw i l i0 i1 l0 l1
        exact ⟨N, a1, by rw [rL_ne (by decide)]; exact a2, a3⟩) rL_eq
  refine loop 41 0 0 h1 (by decide) nb.1 (by omega) f1' (fun i l i0 i1 l0 l1 => ⟨0, by decide, z1 _ (by omega) (by omega), fun w => ?_⟩) q5 (by decide) MaskP.start
  rw [Nat.zero_testBit]
  constructor
  · intro z; exact absurd z (by decide)
  · rintro ⟨z, _⟩; omega
theorem cKeeps (hd : 0 < d) {n w : Int} {k : Nat} {c : Int → Int} (r : RepCW g h) (n0 : 1 ≤ n) (n1 : n ≤ 4) (e6 : h.1 11 6 = n) (tw : TabW g n (gn g) 0 h) (op : OpenAt g n c k h) (hk : (k : Int) < n) (w0 : 0 ≤ w) (w1 : w < gn g) (ho : isO g n w) (kT : ∀ h', CanR g n (updI c k w) ((k : Int) + 1) → OpenAt g n (updI c k w) ((k : Int) + 1) h' → Fr [55] [] h h' → (∀ x, x < (k : Int) * 4 + 4 → h'.2.1 55 x = h.2.1 55 x) → K 1 h') (kF : ∀ h', ¬ CanR g n (updI c k w) ((k : Int) + 1) → Fr [55] [] h h' → (∀ x, x < (k : Int) * 4 + 4 → h'.2.1 55 x = h.2.1 55 x) → K 0 h') : Call d M_Squares_keepsColumnsOpen [vR 11 (-1), vI (k : Int), vI w] h K := by
  have nb := r.ok.nb
  refine c_Squares_keepsColumnsOpen 0 hd ⟨ib (by omega), ?_⟩
  have key : ∀ m : Nat, ∀ (v4 : Int) (hh : AH), 0 ≤ v4 → v4 ≤ n → n - v4 < m → Fr [55] [] h hh → (∀ x, x < (k : Int) * 4 + 4 → hh.2.1 55 x = h.2.1 55 x) → (∀ col, 0 ≤ col → col < v4 → CanC g n (updI c k w) ((k : Int) + 1) col ∧ ∃ N : Nat, N < 1099511627776 ∧ hh.2.1 55 (((k : Int) + 1) * 4 + col) = (N : Int) ∧ ∀ u : Nat, N.testBit u = true ↔ (u : Int) < gn g ∧ isO g n u ∧ ∀ i : Int, 0 ≤ i → i < (k : Int) + 1 → gt g u i = gt g (updI c k w i) col) → A_Squares_keepsColumnsOpen_13 0 K k w v4 hh := by
    intro m
    induction m with
    | zero => intro v4 hh x1 x2 e; omega
    | succ m ih =>
      intro v4 hh x1 x2 e ff s0 s
      have rr := r.fr ff
      refine s_Squares_keepsColumnsOpen_13 ?_
      rw [show hh.1 11 6 = n by rw [ff.i 11]; exact e6]
      refine ⟨fun c2 => kT hh (fun col c0 c1 => (s col c0 (by omega)).1) (fun col c0 c1 => (s col c0 (by omega)).2) ff s0, fun c2 => ?_⟩
      have tb := r.ok.tb w0 w1 x1 (show v4 < gl g w by rw [ho.2]; exact c2)
      rw [rr.1.t w0 w1 x1 (by rw [ho.2]; exact c2)]
      obtain ⟨A, a1, a2, a3⟩ := op v4 x1 c2
      obtain ⟨B, b1, b2, b3⟩ := tw k (gt g w v4) (by omega) hk tb.1 (by omega)
      have lt : A &&& B < 1099511627776 := Nat.lt_of_le_of_lt Nat.and_le_left a1
      rw [s0 ((k : Int) * 4 + v4) (by omega), a2, ff.l 54, b2, land_nat (by omega) (by omega)]
      have bits : ∀ u : Nat, (A &&& B).testBit u = true ↔ (u : Int) < gn g ∧ isO g n u ∧ ∀ i : Int, 0 ≤ i → i < (k : Int) + 1 → gt g u i = gt g (updI c k w i) v4 := fun u => by
        rw [Nat.testBit_and, Bool.and_eq_true, a3 u, b3 u]
        constructor
        · rintro ⟨⟨p1, p2, p3⟩, p4, p5, p6⟩
          refine ⟨p1, p2, fun i i0 i1 => ?_⟩
          by_cases z : i = k
          · rw [show updI c k w i = w from if_pos z, z]; exact p6
          · rw [show updI c k w i = c i from if_neg z]; exact p3 i i0 (by omega)
        · rintro ⟨p1, p2, p3⟩
          refine ⟨⟨p1, p2, fun i i0 i1 => ?_⟩, Or.inl p1, p2, ?_⟩
          · have := p3 i i0 (by omega)
            rw [show updI c k w i = c i from if_neg (by omega)] at this; exact this
          · have := p3 k (by omega) (by omega)
            rw [show updI c k w k = w from if_pos rfl] at this; exact this
      refine ⟨ii (by omega), ii (by omega), ib (by omega), ii (by omega), ⟨ib (by omega), ib (by omega), ii (by omega), ib (by omega), fun z => ?_, fun z => kF hh (fun y => ?_) ff s0⟩⟩
      · refine ⟨ii (by omega), ii (by omega), ii (by omega), ib (by omega), ii (by omega), ih (v4 + 1) _ (by omega) (by omega) (by omega) (ff.trans (Fr.wL (Or.inl (by decide)))) (fun x hx => by rw [rL_nk (by omega)]; exact s0 x hx) (fun col c0 c1 => ?_)⟩
        by_cases y : col = v4
        · rw [y]
          refine ⟨?_, _, lt, rL_eq, bits⟩
          obtain ⟨u, hu⟩ := bit_some (N := A &&& B) (by omega)
          have := (bits u).mp hu
          exact ⟨u, ⟨by omega, this.1⟩, this.2⟩
        · rw [rL_nk (by omega)]; exact s col c0 (by omega)
      · obtain ⟨u, u1, u2, u3⟩ := y v4 x1 c2
        have := (bits u.toNat).mpr ⟨by omega, by rw [Int.toNat_of_nonneg u1.1]; exact u2, by rw [Int.toNat_of_nonneg u1.1]; exact u3⟩
        rw [show A &&& B = 0 by omega, Nat.zero_testBit] at this
        exact absurd this (by decide)
  exact key (n.toNat + 1) 0 h (by decide) (by omega) (by omega) Fr.refl (fun x _ => rfl) (fun col c0 c1 => by omega)
theorem cPutRow {n : Int} (n0 : 1 ≤ n) (n1 : n ≤ 4) : ∀ (m : Nat) (d k : Nat) (c : Int → Int) (a : Acc) (h : AH) (S : Nat) (K : Int → AH → Prop), 2 * m + 2 < d → n = k + m → RepCW g h → h.1 11 6 = n → TabW g n (gn g) 0 h → h.2.1 11 5 = (S : Int) → S < 1099511627776 → MaskP (fun w => isO g n w) (gn g) S → OpenAt g n c k h → (∀ i : Int, 0 ≤ i → i < k → h.1 56 i = c i) → AccC n a h → 0 ≤ a.1 → a.1 + (p40 m : Int) ≤ 2560000 → (∀ h', Fr [55, 56, 57] [(11, 7)] h h' → (∀ i : Int, 0 ≤ i → i < k → h'.1 56 i = c i) → (∀ x, x < (k : Int) * 4 + 4 → h'.2.1 55 x = h.2.1 55 x) → AccC n (sqF g n m k c a) h' → K 0 h') → Call d M_Squares_putRow [vR 11 (-1), vI (k : Int)] h K := by
  intro m
  induction m with
  | zero =>
    intro d k c a h S K hd hn r e6 tw e5 hS mk op tc ac a0 hb kk
    refine c_Squares_putRow 2 hd ?_
    rw [e6]
    refine ⟨fun _ => s_Squares_putRow_13 (c_Squares_keepSquare 1 (by decide) ?_), fun z => by omega⟩
    have hp : p40 0 = 1 := rfl
    rw [ac.1]
    refine ⟨fun z => ⟨ii (by omega), kk _ (Fr.wI (Or.inr (by decide))) (fun i i0 i1 => by rw [rI_ne (by decide)]; exact tc i i0 i1) (fun x _ => rfl) ⟨rI_eq, fun _ i i0 i1 => ?_⟩⟩, fun z => ⟨Nat.le_refl 1, ?_⟩⟩
    · rw [rI_ne (by decide)]
      show _ = (if a.1 = 0 then c else a.2) i
      rw [if_neg z]; exact ac.2 z i i0 i1
    · rw [cp_ne (by decide), ac.1]
      refine ⟨ii (by omega), kk _ ((Fr.cpI (by decide)).trans (Fr.wI (Or.inr (by decide)))) (fun i i0 i1 => by rw [rI_ne (by decide), cp_ne (by decide)]; exact tc i i0 i1) (fun x _ => rfl) ⟨rI_eq, fun _ i i0 i1 => ?_⟩⟩
      rw [rI_ne (by decide), cp_in i0 (by omega), tc i i0 (by omega)]
      show _ = (if a.1 = 0 then c else a.2) i
      rw [if_pos z]
  | succ m ihm =>
    intro d k c a h S K hd hn r e6 tw e5 hS mk op tc ac a0 hb kk
    have nb := r.ok.nb
    refine c_Squares_putRow (2 * m + 4) (by omega) ?_
    rw [e6]
    refine ⟨fun z => by omega, fun _ => ⟨fun _ => ?_, fun z => by omega⟩⟩
    have loop : ∀ q : Nat, ∀ (v2 : Int) (hh : AH), 0 ≤ v2 → v2 ≤ gn g → gn g - v2 < q → Fr [55, 56, 57] [(11, 7)] h hh → (∀ i : Int, 0 ≤ i → i < k → hh.1 56 i = c i) → (∀ x, x < (k : Int) * 4 + 4 → hh.2.1 55 x = h.2.1 55 x) → AccC n (foldN (sqS g n m k c) v2.toNat a) hh → A_Squares_putRow_20 (2 * m + 4) K k v2 hh := by
      intro q
      induction q with
      | zero => intro v2 hh x1 x2 e; omega
      | succ q ih =>
        intro v2 hh x1 x2 e ff tch op2 ach
        have rr := r.fr ff
        refine s_Squares_putRow_20 ?_
        rw [rr.n, show hh.2.1 11 5 = (S : Int) by rw [ff.fl 11 5]; exact e5]
        refine ⟨fun c1 => kk hh ff tch op2 (by rw [sqF_s, show (gn g).toNat = v2.toNat by omega]; exact ach), fun c1 => ?_⟩
        have bt := bit_and (U := S) hS (w := v2.toNat) (by omega)
        rw [Int.toNat_of_nonneg x1] at bt
        rw [bt]
        have room := fold_room (k := k) (c := c) (n := n) r.ok a0 x1 c1 hb
        have fs : foldN (sqS g n m k c) (v2 + 1).toNat a = sqS g n m k c v2 (foldN (sqS g n m k c) v2.toNat a) := fold_s x1 a
        generalize foldN (sqS g n m k c) v2.toNat a = A at ach room fs
        by_cases hbit : S.testBit v2.toNat = true
        · rw [if_pos hbit]
          have ho : isO g n v2 := by
            have : isO g n ((v2.toNat : Nat) : Int) := ((mk v2.toNat).mp hbit).2
            rw [Int.toNat_of_nonneg x1] at this
            exact this
          have tw' : TabW g n (gn g) 0 hh := fun i l i0 i1 l0 l1 => by
            obtain ⟨N, b1, b2, b3⟩ := tw i l i0 i1 l0 l1
            exact ⟨N, b1, by rw [ff.l 54]; exact b2, b3⟩
          have opk : OpenAt g n c k hh := fun col c0 c1' => by
            obtain ⟨N, b1, b2, b3⟩ := op col c0 c1'
            exact ⟨N, b1, by rw [op2 _ (by omega)]; exact b2, b3⟩
          refine ⟨fun z => absurd z (by decide), fun _ => c_Squares_tryRow (2 * m + 3) (by omega) (cKeeps (by omega) rr n0 n1 (by rw [ff.f 11 6]; exact e6) tw' opk (by omega) x1 c1 ho (fun h1 can op1 f1 s1 => br1 ⟨ib (by omega), ii (by omega), ?_⟩) (fun h1 no f1 s1 => br0 ⟨ii (by omega), ih (v2 + 1) h1 (by omega) (by omega) (by omega) (ff.trans (f1.mono (by decide) (by decide))) (fun i i0 i1 => by rw [f1.i 56]; exact tch i i0 i1) (fun x hx => by rw [s1 x hx]; exact op2 x hx) ?_⟩))⟩
          · have f2 : Fr [55, 56, 57] [(11, 7)] h (wI h1 56 k v2) := (ff.trans (f1.mono (by decide) (by decide))).trans (Fr.wI (Or.inl (by decide)))
            have ey : sqS g n m k c v2 A = sqF g n m ((k : Int) + 1) (updI c k v2) A := sqS_y ⟨ho, can⟩
            have go := ihm (2 * m + 3) (k + 1) (updI c k v2) A (wI h1 56 k v2) S (fun _ h5 => inI (v2 + 1) ∧ A_Squares_putRow_20 (2 * m + 4) K k (v2 + 1) h5) (by omega) (by omega) (r.fr f2) (by rw [f2.f 11 6]; exact e6) (fun i l i0 i1 l0 l1 => by
              obtain ⟨N, b1, b2, b3⟩ := tw i l i0 i1 l0 l1
              exact ⟨N, b1, by rw [f2.l 54]; exact b2, b3⟩) (by rw [f2.fl 11 5]; exact e5) hS mk (by
              rw [show ((k + 1 : Nat) : Int) = (k : Int) + 1 by omega]
              exact op1) (fun i i0 i1 => by
              by_cases z : i = k
              · rw [z, rI_eq]; exact (if_pos rfl).symm
              · rw [rI_nk z, f1.i 56, tch i i0 (by omega)]; exact (if_neg z).symm) ⟨by rw [rI_ne (by decide), f1.i 11]; exact ach.1, fun z i i0 i1 => by rw [rI_ne (by decide), f1.i 57]; exact ach.2 z i i0 i1⟩ room.1 room.2 (fun h' f' t' o' a' => ⟨ii (by omega), ih (v2 + 1) h' (by omega) (by omega) (by omega) (f2.trans f') (fun i i0 i1 => by rw [t' i i0 (by omega)]; exact if_neg (by omega)) (fun x hx => by
              rw [o' x (by omega)]
              show h1.2.1 55 x = _
              rw [s1 x hx]; exact op2 x hx) (by
              rw [fs, ey, show (k : Int) + 1 = ((k + 1 : Nat) : Int) by omega]; exact a')⟩)
            rw [show ((k + 1 : Nat) : Int) = (k : Int) + 1 by omega] at go
            exact go
          · rw [fs, sqS_n (fun z => no z.2)]
            exact ⟨by rw [f1.i 11]; exact ach.1, fun z i i0 i1 => by rw [f1.i 57]; exact ach.2 z i i0 i1⟩
        · rw [if_neg hbit]
          refine ⟨fun _ => ⟨ii (by omega), ih (v2 + 1) hh (by omega) (by omega) (by omega) ff tch op2 ?_⟩, fun z => absurd rfl z⟩
          rw [fs, sqS_n (fun z => hbit ((mk _).mpr ⟨by omega, show isO g n ((v2.toNat : Nat) : Int) by rw [Int.toNat_of_nonneg x1]; exact z.1⟩))]
          exact ach
    exact loop 41 0 h (by decide) nb.1 (by omega) Fr.refl tc (fun x _ => rfl) ac
theorem cSqRefresh (hd : 11 < d) {n : Int} (r : RepCW g h) (n0 : 1 ≤ n) (n1 : n ≤ 4) (fresh : h.1 11 8 = h.1 2 9 → h.1 11 6 = n → AccC n (sqA g n) h) (k : ∀ h', AccC n (sqA g n) h' → h'.1 11 8 = h.1 2 9 → h'.1 11 6 = n → Fr [54, 55, 56, 57] [(11, 5), (11, 6), (11, 7), (11, 8)] h h' → K 0 h') : Call d M_Squares_refresh [vR 11 (-1), vI n] h K := by
  have nb := r.ok.nb
  refine c_Squares_refresh 11 hd ?_
  have go : A_Squares_refresh_23 11 K n h := by
    have f1 : Fr [54, 55, 56, 57] [(11, 5), (11, 6), (11, 7), (11, 8)] h (wI (wI (wI h 11 8 (h.1 2 9)) 11 6 n) 11 7 0) := ((Fr.wI (Or.inr (by decide))).trans (Fr.wI (Or.inr (by decide)))).trans (Fr.wI (Or.inr (by decide)))
    have q8 : (wI (wI (wI h 11 8 (h.1 2 9)) 11 6 n) 11 7 0).1 11 8 = h.1 2 9 := by rw [rI_nk (by decide), rI_nk (by decide)]; exact rI_eq
    have q6 : (wI (wI (wI h 11 8 (h.1 2 9)) 11 6 n) 11 7 0).1 11 6 = n := by rw [rI_nk (by decide)]; exact rI_eq
    have q7 : (wI (wI (wI h 11 8 (h.1 2 9)) 11 6 n) 11 7 0).1 11 7 = 0 := rI_eq
    refine s_Squares_refresh_23 (cFindWords (by decide) (r.fr f1) n0 n1 q6 (fun h2 S tw e5 hS mk f2 => ?_))
    have f2' := f1.trans (f2.mono (L2 := [54, 55, 56, 57]) (F2 := [(11, 5), (11, 6), (11, 7), (11, 8)]) (by decide) (by decide))
    have p6 : h2.1 11 6 = n := by rw [f2.f 11 6]; exact q6
    have p7 : h2.1 11 7 = 0 := by rw [f2.f 11 7]; exact q7
    have p8 : h2.1 11 8 = h.1 2 9 := by rw [f2.f 11 8]; exact q8
    have cols : ∀ m : Nat, ∀ (v2 : Int) (hh : AH), 0 ≤ v2 → v2 ≤ n → n - v2 < m → Fr [55] [] h2 hh → (∀ i, 0 ≤ i → i < v2 → hh.2.1 55 i = (S : Int)) → A_Squares_refresh_50 11 K v2 hh := by
      intro m
      induction m with
      | zero => intro v2 hh x1 x2 e; omega
      | succ m ih =>
        intro v2 hh x1 x2 e ff s
        have p5 : hh.2.1 11 5 = (S : Int) := by rw [ff.l 11]; exact e5
        have p6' : hh.1 11 6 = n := by rw [ff.i 11]; exact p6
        refine s_Squares_refresh_50 ?_
        rw [p6']
        refine ⟨fun c => ?_, fun c => ⟨ib (by omega), ii (by omega), ih (v2 + 1) _ (by omega) (by omega) (by omega) (ff.trans (Fr.wL (Or.inl (by decide)))) (fun i i0 i1 => ?_)⟩⟩
        · have em : n = ((0 : Nat) : Int) + (n.toNat : Int) := by omega
          have hp : p40 n.toNat ≤ 2560000 := by
            have : n.toNat = 1 ∨ n.toNat = 2 ∨ n.toNat = 3 ∨ n.toNat = 4 := by omega
            rcases this with z | z | z | z <;> rw [z] <;> decide
          have fa := f2'.trans (ff.mono (L2 := [54, 55, 56, 57]) (F2 := [(11, 5), (11, 6), (11, 7), (11, 8)]) (by decide) (by decide))
          have gg := cPutRow (g := g) n0 n1 n.toNat 11 0 (fun _ => 0) (0, fun _ => 0) hh S (fun _ h1 => K 0 h1) (by omega) em (r.fr fa) p6' (fun i l i0 i1 l0 l1 => by
            obtain ⟨N, b1, b2, b3⟩ := tw i l i0 i1 l0 l1
            exact ⟨N, b1, by rw [ff.l 54]; exact b2, b3⟩) p5 hS mk (fun col c0 c1 => ⟨S, hS, by
            rw [show ((0 : Nat) : Int) * 4 + col = col by omega]
            exact s col c0 (by omega), fun w => by
            rw [mk w]
            exact ⟨fun z => ⟨z.1, z.2, fun i i0 i1 => by omega⟩, fun z => ⟨z.1, z.2.1⟩⟩⟩) (fun i i0 i1 => by omega) ⟨by rw [ff.i 11]; exact p7, fun z => absurd rfl z⟩ (Int.le_refl 0) (by show (0 : Int) + _ ≤ _; omega) (fun h' f' _ _ a' => k h' a' (by rw [f'.f 11 8, ff.i 11]; exact p8) (by rw [f'.f 11 6]; exact p6') (fa.trans (f'.mono (by decide) (by decide))))
          exact gg
        · by_cases z : i = v2
          · rw [z, rL_eq]; exact p5
          · rw [rL_nk z]; exact s i i0 (by omega)
    exact cols 6 0 h2 (by decide) (by omega) (by omega) Fr.refl (fun i i0 i1 => by omega)
  exact ⟨fun _ => go, fun c => ⟨fun _ => go, fun c2 => k h (fresh c c2) c c2 Fr.refl⟩⟩
end CSQ

/-! the class: what no way can do without -/
theorem bit40 {N i : Nat} (h : N < 1099511627776) (hi : N.testBit i = true) : i < 40 := by
  rcases Nat.lt_or_ge i 40 with q | q
  · exact q
  · have : N < 2 ^ i := Nat.lt_of_lt_of_le h (Nat.pow_le_pow_right (show 2 > 0 by decide) q)
    rw [Nat.testBit_lt_two_pow this] at hi
    exact absurd hi (by decide)
theorem bit_some {N : Nat} (h : N ≠ 0) : ∃ i, N.testBit i = true := by
  by_cases q : ∃ i, N.testBit i = true
  · exact q
  · refine absurd (Nat.eq_of_testBit_eq (fun i => ?_)) h
    rw [Nat.zero_testBit]
    cases e : N.testBit i
    · rfl
    · exact absurd ⟨i, e⟩ q
theorem hasW_from {g : G} {lw : LW} {c b : Int} : ∀ {n : Nat} {a x : Int}, Pw (eW g lw) (UW g) a b n x → ¬ has g lw a c → hasW g lw c a b
  | 0, a, x, p, h => ⟨0, 0, p.1, ⟨p.2.1, fun z => h (by rw [← z]; exact ⟨0, 0, rfl, p.2.1, rfl⟩)⟩, rfl⟩
  | n + 1, a, x, p, h => by
    obtain ⟨ha, w, y, h1, h2, -⟩ := p
    have hw := (Pw.ends h2).1
    have q : ¬ has g lw w c := fun ⟨n', x', p'⟩ => h ⟨n' + 1, 64 * eW g lw a w + 1 + x', ha, w, x', h1, p', rfl⟩
    obtain ⟨n2, x2, p2⟩ := hasW_from h2 q
    refine ⟨n2 + 1, 64 * eW g lw a w + 1 + x2, ⟨ha, fun z => h ?_⟩, w, x2, h1, p2, rfl⟩
    rw [← z]
    exact ⟨0, 0, rfl, ha, rfl⟩
theorem hasW_to {g : G} {lw : LW} {c a b : Int} (h : has g lw a b) (hn : ¬ has g lw c b) : hasW g lw c a b := by
  obtain ⟨n, x, p⟩ := h
  rcases Pw.hits (c := c) (fun a b => (sc_b g lw a b).1) p with q | ⟨n', x', -, -, q⟩
  · exact ⟨n, x, q⟩
  · exact absurd ⟨n', x', q⟩ hn
section NB
variable {d : Nat} {g : G} {lw : LW} {h : AH} {K : Int → AH → Prop}
theorem cReachesW (hd : 0 < d) {a b c : Int} (r : RepCW g h) (l : LaidC g lw h) (a0 : 0 ≤ a) (a1 : a < gn g) (b0 : 0 ≤ b) (b1 : b < gn g) (c0 : 0 ≤ c) (c1 : c < gn g) (u : us g a) (hc : a ≠ c) (kT : hasW g lw c a b → K 1 h) (kF : ¬ hasW g lw c a b → K 0 h) : Call d M_Ways_reachesWithout [vR 7 (-1), vI a, vI b, vI c] h K := by
  have nb := r.ok.nb
  have e26 := r.n
  refine c_Ways_reachesWithout 0 hd ?_
  have ea : a = ((a.toNat : Nat) : Int) := by omega
  have eb : b = ((b.toNat : Nat) : Int) := by omega
  have ec : c = ((c.toNat : Nat) : Int) := by omega
  have sc1 : lshl 1 c = ((1 <<< c.toNat : Nat) : Int) := by
    have := bit_or (N := 0) (by decide) (w := c.toNat) (by omega)
    rw [ec]
    have hs := shl_le (s := c.toNat) (by omega)
    rw [show (((c.toNat : Nat) : Int)).toNat = c.toNat by omega]
    exact lshl_nat (a := 1) (by omega) (by omega)
  have sa1 : lshl 1 a = ((1 <<< a.toNat : Nat) : Int) := by
    rw [ea]
    have hs := shl_le (s := a.toNat) (by omega)
    rw [show (((a.toNat : Nat) : Int)).toNat = a.toNat by omega]
    exact lshl_nat (a := 1) (by omega) (by omega)
  have t1 : ∀ w i : Nat, (1 <<< w).testBit i = true ↔ w = i := fun w i => by rw [Nat.one_shiftLeft, Nat.testBit_two_pow, decide_eq_true_iff]
  have fin : ∀ S : Nat, S < 1099511627776 → (∀ v : Nat, S.testBit v = true → (v : Int) < gn g ∧ hasW g lw c a v) → S.testBit a.toNat = true → (∀ x : Nat, S.testBit x = true → ∀ y : Nat, (y : Int) < gn g → (y : Int) ≠ c → (sc g lw x y).1 ≠ 0 → S.testBit y = true) → A_Ways_reachesWithout_114 0 K b S h := by
    intro S hS i1 i2 i4
    have q := bit_and (U := S) hS (w := b.toNat) (by omega)
    rw [← eb] at q
    refine s_Ways_reachesWithout_114 ?_
    rw [q]
    by_cases hb : S.testBit b.toNat = true
    · rw [if_pos hb]
      refine br1 (kT ?_)
      have := (i1 _ hb).2
      rw [← eb] at this
      exact this
    · rw [if_neg hb]
      refine br0 (kF (fun ⟨n, x, p⟩ => hb ?_))
      exact hasW_closed (fun v => S.testBit v.toNat = true) (fun x y x0 x1 y0 y1 yc hx hs => i4 x.toNat hx y.toNat (by omega) (by omega) (by rw [show ((x.toNat : Nat) : Int) = x by omega, show ((y.toNat : Nat) : Int) = y by omega]; exact hs)) p i2
  have key : ∀ m : Nat, ∀ (S E : Nat) (v8 : Int), 0 ≤ v8 → v8 ≤ gn g → gn g - v8 < m → S < 1099511627776 → E < 1099511627776 → (∀ v : Nat, S.testBit v = true → (v : Int) < gn g ∧ hasW g lw c a v) → S.testBit a.toNat = true → (∀ v : Nat, E.testBit v = true → S.testBit v = true) → (∀ x : Nat, S.testBit x = true → ¬ E.testBit x = true → ∀ y : Nat, (y : Int) < gn g → (y : Int) ≠ c → (sc g lw x y).1 ≠ 0 → S.testBit y = true) → (E = 0 ∨ v8 + 1 ≤ cnt (fun v => S.testBit v.toNat = true) (gn g).toNat) → A_Ways_reachesWithout_12 0 K b c S E v8 h := by
    intro m
    induction m with
    | zero => intro S E v8 x1 x2 e; omega
    | succ m ih =>
      intro S E v8 x1 x2 e hS hE i1 i2 i3 i4 i5
      have last : E = 0 → A_Ways_reachesWithout_114 0 K b S h := fun z => fin S hS i1 i2 (fun x hx => i4 x hx (by rw [z]; simp))
      refine s_Ways_reachesWithout_12 ?_
      rw [e26]
      have cb := cnt_b (fun v => S.testBit v.toNat = true) (gn g).toNat
      refine ⟨fun q => last (by omega), fun q => ⟨fun q2 => last (by omega), fun q2 => ?_⟩⟩
      have i6 : v8 + 1 ≤ cnt (fun v => S.testBit v.toNat = true) (gn g).toNat := by omega
      have row : ∀ k : Nat, ∀ (O : Nat) (v11 : Int), 0 ≤ v11 → v11 ≤ gn g → gn g - v11 < k → O < 1099511627776 → (∀ y : Nat, O.testBit y = true → (y : Int) < gn g ∧ ∃ x : Nat, E.testBit x = true ∧ (sc g lw x y).1 ≠ 0) → (∀ x : Nat, (x : Int) < v11 → E.testBit x = true → ∀ y : Nat, (y : Int) < gn g → (sc g lw x y).1 ≠ 0 → O.testBit y = true) → A_Ways_reachesWithout_37 0 K b c S E v8 O v11 h := by
        intro k
        induction k with
        | zero => intro O v11 y1 y2 e; omega
        | succ k ih2 =>
          intro O v11 y1 y2 e2 hO o1 o2
          refine s_Ways_reachesWithout_37 ?_
          rw [e26]
          refine ⟨fun q3 => ⟨ii (by omega), ?_⟩, fun q3 => ?_⟩
          · have l1 := lminus (x := O) (y := S) (by omega)
            have m1 := minus_lt (x := O) (y := S) hO
            rw [l1, sc1, lminus (y := 1 <<< c.toNat) (by omega)]
            obtain ⟨P, hP⟩ : ∃ P, P = (O ^^^ (O &&& S)) ^^^ ((O ^^^ (O &&& S)) &&& 1 <<< c.toNat) := ⟨_, rfl⟩
            have m2 := minus_lt (x := O ^^^ (O &&& S)) (y := 1 <<< c.toNat) m1
            have pt : ∀ y : Nat, P.testBit y = true ↔ (O.testBit y = true ∧ ¬ S.testBit y = true) ∧ ¬ c.toNat = y := fun y => by rw [hP, minus_test, minus_test, t1]
            rw [← hP] at m2 ⊢
            rw [lor_nat (by omega) (by omega)]
            have st : ∀ y : Nat, (S ||| P).testBit y = true ↔ S.testBit y = true ∨ P.testBit y = true := fun y => by rw [Nat.testBit_or, Bool.or_eq_true]
            refine ih (S ||| P) P (v8 + 1) (by omega) (by omega) (by omega) (Nat.or_lt_two_pow (n := 40) hS m2) m2 (fun v hv => ?_) ((st _).mpr (Or.inl i2)) (fun v hv => (st v).mpr (Or.inr hv)) (fun x hx hn y y1' yc hs => ?_) ?_
            · rcases (st v).mp hv with z | z
              · exact i1 v z
              · have z := (pt v).mp z
                obtain ⟨w1, x, w2, w3⟩ := o1 v z.1.1
                exact ⟨w1, hasW_step (i1 x (i3 x w2)).2 (by omega) w1 (by omega) w3⟩
            · rcases (st x).mp hx with z | z
              · by_cases ex : E.testBit x = true
                · have ho := o2 x (by have := (i1 x z).1; omega) ex y y1' hs
                  by_cases sy : S.testBit y = true
                  · exact (st y).mpr (Or.inl sy)
                  · exact (st y).mpr (Or.inr ((pt y).mpr ⟨⟨ho, sy⟩, by omega⟩))
                · exact (st y).mpr (Or.inl (i4 x z ex y y1' yc hs))
              · exact absurd z hn
            · by_cases z : P = 0
              · exact Or.inl z
              · obtain ⟨i, hi⟩ := bit_some z
                have hi2 := (pt i).mp hi
                have wi := (o1 i hi2.1.1).1
                have := cnt_strict (P := fun v => S.testBit v.toNat = true) (P' := fun v => (S ||| P).testBit v.toNat = true) (i : Int) (gn g).toNat (by omega) (by omega) (fun v _ _ hv => (st _).mpr (Or.inl hv)) ((st _).mpr (Or.inr hi)) hi2.1.2
                exact Or.inr (by omega)
          · have ev : v11 = ((v11.toNat : Nat) : Int) := by omega
            have q := bit_and (U := E) hE (w := v11.toNat) (by omega)
            rw [← ev] at q
            rw [q]
            by_cases hb : E.testBit v11.toNat = true
            · rw [if_pos hb]
              refine br1 ⟨ib (by omega), ii (by omega), ?_⟩
              obtain ⟨⟨N, n1, n2⟩, -⟩ := l v11 y1 q3
              rw [n2, lor_nat (by omega) (by have := n1.1; omega)]
              have ot : ∀ y : Nat, (O ||| N).testBit y = true ↔ O.testBit y = true ∨ N.testBit y = true := fun y => by rw [Nat.testBit_or, Bool.or_eq_true]
              refine ih2 (O ||| N) (v11 + 1) (by omega) (by omega) (by omega) (Nat.or_lt_two_pow (n := 40) hO n1.1) (fun y hy => ?_) (fun x hx ex y y1' hs => ?_)
              · rcases (ot y).mp hy with z | z
                · exact o1 y z
                · have z2 := (n1.2 y (bit40 n1.1 z)).mp z
                  exact ⟨z2.1, v11.toNat, hb, by rw [← ev]; exact z2.2⟩
              · by_cases ex2 : (x : Int) = v11
                · rw [ex2] at hs
                  exact (ot y).mpr (Or.inr ((n1.2 y (by omega)).mpr ⟨y1', hs⟩))
                · exact (ot y).mpr (Or.inl (o2 x (by omega) ex y y1' hs))
            · rw [if_neg hb]
              refine br0 ⟨ii (by omega), ih2 O (v11 + 1) (by omega) (by omega) (by omega) hO o1 (fun x hx ex y y1' hs => ?_)⟩
              by_cases ex2 : (x : Int) = v11
              · exact absurd (by rw [show v11.toNat = x by omega]; exact ex) hb
              · exact o2 x (by omega) ex y y1' hs
      exact row ((gn g).toNat + 1) 0 0 (by decide) (by omega) (by omega) (by decide) (fun y hy => by simp at hy) (fun x hx => by omega)
  rw [sa1]
  have hsa := shl_le (s := a.toNat) (by omega)
  refine key ((gn g).toNat + 1) (1 <<< a.toNat) (1 <<< a.toNat) 0 (by decide) (by omega) (by omega) hsa hsa (fun v hv => ?_) ((t1 _ _).mpr rfl) (fun v hv => hv) (fun x hx hn => absurd hx hn) (Or.inr ?_)
  · have := (t1 _ _).mp hv
    have e : (v : Int) = a := by omega
    rw [e]
    exact ⟨a1, hasW_self a0 a1 u hc⟩
  · have := cnt_strict (P := fun _ => False) (P' := fun v => (1 <<< a.toNat).testBit v.toNat = true) a (gn g).toNat a0 (by omega) (fun _ _ _ z => z.elim) ((t1 _ _).mpr rfl) (fun z => z)
    have := (cnt_b (fun _ => False) (gn g).toNat).1
    omega
theorem cNeeded (hd : 1 < d) {a b : Int} (r : RepCW g h) (l : LaidC g lw h) (w : ReachC g lw h) (a0 : 0 ≤ a) (a1 : a < gn g) (b0 : 0 ≤ b) (b1 : b < gn g) (hab : has g lw a b) (k : ∀ N : Nat, NeedIs g lw a b (gn g) N → K N h) : Call d M_Ways_neededBetween [vR 7 (-1), vI a, vI b] h K := by
  have nb := r.ok.nb
  have ua : us g a := by
    obtain ⟨n, x, p⟩ := hab
    exact (Pw.ends p).1.2
  refine c_Ways_neededBetween 1 hd ?_
  have key : ∀ m : Nat, ∀ (N : Nat) (v5 : Int), 0 ≤ v5 → v5 ≤ gn g → gn g - v5 < m → NeedIs g lw a b v5 N → A_Ways_neededBetween_5 1 K a b N v5 h := by
    intro m
    induction m with
    | zero => intro N v5 x1 x2 e; omega
    | succ m ih =>
      intro N v5 x1 x2 e t
      refine s_Ways_neededBetween_5 ?_
      rw [r.n]
      refine ⟨fun c => k N (by have : v5 = gn g := by omega
                               rw [this] at t; exact t), fun c => ?_⟩
      have skip : ¬ (v5 ≠ a ∧ v5 ≠ b ∧ has g lw a b ∧ ¬ hasW g lw v5 a b) → inI (v5 + 1) ∧ A_Ways_neededBetween_5 1 K a b N (v5 + 1) h := fun q => ⟨ii (by omega), ih N (v5 + 1) (by omega) (by omega) (by omega) (t.skip x1 q)⟩
      refine ⟨fun c2 => skip (fun z => z.1 c2), fun c2 => ⟨fun c3 => skip (fun z => z.2.1 c3), fun c3 => cReaches (by decide) r.ok w a0 a1 x1 c (fun h1 => br1 (cReaches (by decide) r.ok w x1 c b0 b1 (fun h2 => br1 (cReachesW (by decide) r l a0 a1 b0 b1 x1 c ua (fun z => c2 z.symm) (fun h3 => br1' (skip (fun z => z.2.2.2 h3))) (fun h3 => br0' ⟨ii (by omega), ?_⟩))) (fun h2 => br0 (skip (fun z => z.2.2.2 (hasW_to hab h2)))))) (fun h1 => br0 (skip (fun z => by
        obtain ⟨n, x, p⟩ := hab
        exact z.2.2.2 (hasW_from p h1))))⟩⟩
      have p := t.put x1 (by omega) c2 c3 hab h3
      rw [p.1]
      exact ih _ (v5 + 1) (by omega) (by omega) (by omega) p.2
  exact key ((gn g).toNat + 1) 0 0 (by decide) (by omega) (by omega) ⟨by decide, fun w => by simp; omega⟩
end NB

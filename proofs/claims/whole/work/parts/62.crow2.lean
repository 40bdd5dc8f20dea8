/-! the class: the tables of row -/
theorem ix10 {p i j : Int} (p1 : p ≤ 10) (i0 : 0 ≤ i) (i1 : i < p) (j0 : 0 ≤ j) (j1 : j < p) : (0 ≤ i * p ∧ i * p < 100) ∧ 0 ≤ i * p + j ∧ i * p + j < 100 := by
  have h1 := ix_lt (i := i) j1 i1 (by omega)
  have h2 := ix_nn (p := p) i0 (by omega) j0
  have h3 : p * p ≤ 10 * 10 := Int.mul_le_mul p1 p1 (by omega) (by omega)
  omega
theorem ixA {p i j : Int} (p1 : p ≤ 10) (i0 : 0 ≤ i) (i1 : i < 1024) (j0 : 0 ≤ j) (j1 : j < p) : (0 ≤ i * p ∧ i * p < 10240) ∧ 0 ≤ i * p + j ∧ i * p + j < 10240 := by
  have h1 := ix_lt (i := i) j1 i1 (by omega)
  have h2 := ix_nn (p := p) i0 (by omega) j0
  omega
def Tab49 (g : G) (lw : LW) (q : Int → Int) (p : Int) (h : AH) : Prop := ∀ i j, 0 ≤ i → i < p → 0 ≤ j → j < p → h.1 49 (i * p + j) = eW g lw (q i) (q j)
def RestW (g : G) (lw : LW) (q : Int → Int) (p : Int) (A N : Nat) (w v : Int) : Prop := RowL (eW g lw) (sO q p N) 536870912 w v ∧ (v < 536870912 → 0 ≤ v ∧ v ≤ 99 * ((A : Int) - 1 - N))
def RestC (g : G) (lw : LW) (q : Int → Int) (p : Int) (A : Nat) (m : Int) (h : AH) : Prop := ∀ N : Nat, m < N → N < A → ∀ i : Nat, (i : Int) < p → N.testBit i = true → RestW g lw q p A N (q i) (h.1 50 (N * p + i))
def RowT (g : G) (lw : LW) (q : Int → Int) (p : Int) (h : AH) : Prop := h.1 10 10 = p ∧ (∀ i, 0 ≤ i → i < p → h.1 48 i = q i) ∧ Tab49 g lw q p h ∧ RestC g lw q p (2 ^ p.toNat) 0 h ∧ RowL (eW g lw) (sO q p 0) 536870912 (-1) (h.1 10 11)
theorem co_b {g : G} {lw : LW} (a w : Int) : 0 ≤ co (eW g lw) a w ∧ co (eW g lw) a w ≤ 99 := by
  unfold co
  split
  · omega
  · exact sc_b g lw a w
theorem rco_nn {g : G} {lw : LW} : ∀ (l : List Int) (a : Int), 0 ≤ rco (eW g lw) a l
  | [], a => Int.le_refl 0
  | w :: l, a => by
    show 0 ≤ co (eW g lw) a w + rco (eW g lw) w l
    have := rco_nn (g := g) (lw := lw) l w
    have := (co_b (g := g) (lw := lw) a w).1
    omega
theorem Row.nn {g : G} {lw : LW} {S : Int → Prop} {a y : Int} (h : Row (eW g lw) S a y) : 0 ≤ y := by
  obtain ⟨l, -, -, -, rfl⟩ := h
  exact rco_nn l a
section CR2
variable {d : Nat} {g : G} {lw : LW} {h : AH} {K : Int → AH → Prop}
/-- what the place i stands for, as a next one behind a -/
theorem valC {p a s0 : Int} {q : Int → Int} {N A i : Nat} (p1 : p ≤ 10) (hA : A = 2 ^ p.toNat) (hN : N < A) (inj : InjT q p) (rc : RestC g lw q p A N h) (hi : (i : Int) < p) (hb : ¬ N.testBit i = true) (hs : s0 = co (eW g lw) a (q i)) (ha : a = -1 ∨ eW g lw a (q i) ≠ 0) : ValI (eW g lw) (sO q p N) 536870912 a (q i) (s0 + h.1 50 (((N ||| 1 <<< i : Nat) : Int) * p + i)) ∧ 0 ≤ h.1 50 (((N ||| 1 <<< i : Nat) : Int) * p + i) ∧ h.1 50 (((N ||| 1 <<< i : Nat) : Int) * p + i) ≤ 536870912 ∧ (s0 + h.1 50 (((N ||| 1 <<< i : Nat) : Int) * p + i) < 536870912 → 0 ≤ s0 + h.1 50 (((N ||| 1 <<< i : Nat) : Int) * p + i) ∧ s0 + h.1 50 (((N ||| 1 <<< i : Nat) : Int) * p + i) ≤ 99 * ((A : Int) - 1 - N)) ∧ RowL (eW g lw) (less (sO q p N) (q i)) 536870912 (q i) (h.1 50 (((N ||| 1 <<< i : Nat) : Int) * p + i)) := by
  have hA2 : A ≤ 1024 := by rw [hA]; exact pow_le_k 10 p1
  have hN' := or_lt (p := p.toNat) (i := i) (hA ▸ hN) (by omega)
  have hgt := or_gt hb
  have ra := rc (N ||| 1 <<< i) (by omega) (by rw [hA]; exact hN') i hi (bit_or_test.mpr (Or.inr rfl))
  unfold RestW at ra
  rw [← sO_less inj hi] at ra
  rw [← hA] at hN'
  generalize N ||| 1 <<< i = N' at hgt hN' ra
  obtain ⟨ra, rb⟩ := ra
  have rd := ra.bd
  have sb : 0 ≤ s0 ∧ s0 ≤ 99 := by
    rw [hs]
    unfold co
    split
    · omega
    · exact sc_b g lw a (q i)
  refine ⟨ra.val ⟨i, hi, hb, rfl⟩ ha (fun z => by omega) (fun z => by rw [hs]) (fun z => by have := rb z; omega), ?_, rd, fun z => ?_, ra⟩
  · by_cases y : h.1 50 ((N' : Int) * p + i) < 536870912
    · exact (rb y).1
    · omega
  · by_cases y : h.1 50 ((N' : Int) * p + i) < 536870912
    · have := rb y; omega
    · omega
theorem cCostOnward (hd : 1 < d) {p : Int} {q : Int → Int} {N A i : Nat} (e10 : h.1 10 10 = p) (p0 : 1 ≤ p) (p1 : p ≤ 10) (hA : A = 2 ^ p.toNat) (hN : N < A) (inj : InjT q p) (q0 : ∀ i, 0 ≤ i → i < p → 0 ≤ q i) (t : Tab49 g lw q p h) (rc : RestC g lw q p A N h) (hi : (i : Int) < p) (k : ∀ v, RestW g lw q p A N (q i) v → K v h) : Call d M_Told_costOnward [vR 10 (-1), vI (N : Int), vI (i : Int)] h K := by
  have hA2 : A ≤ 1024 := by rw [hA]; exact pow_le_k 10 p1
  have es : ishl 1 p = (A : Int) := by rw [ish1 (by omega) (by omega), Nat.one_shiftLeft, hA]
  have hA0 : 0 < A := by rw [hA]; exact Nat.two_pow_pos _
  have qi := q0 i (by omega) hi
  refine c_Told_costOnward 1 hd ?_
  rw [e10, es]
  refine ⟨ii (by omega), fun c => ?_, fun c => k 0 ⟨Or.inr ⟨by decide, ?_⟩, fun _ => by omega⟩⟩
  · have key : ∀ m : Nat, ∀ v3 v4 : Int, 0 ≤ v4 → v4 ≤ p → p - v4 < m → MinI (eW g lw) (sO q p N) (fun w => ∃ j, 0 ≤ j ∧ j < v4 ∧ q j = w) 536870912 (q i) v3 → (v3 < 536870912 → 0 ≤ v3 ∧ v3 ≤ 99 * ((A : Int) - 1 - N)) → A_Told_costOnward_20 1 K N i v3 v4 h := by
      intro m
      induction m with
      | zero => intro v3 v4 x1 x2 e; omega
      | succ m ih =>
        intro v3 v4 x1 x2 e mi mb
        refine s_Told_costOnward_20 ?_
        rw [e10]
        have hT : ∀ u, (∃ j, 0 ≤ j ∧ j < v4 + 1 ∧ q j = u) → (∃ j, 0 ≤ j ∧ j < v4 ∧ q j = u) ∨ u = q v4 := fun u hu => by
          obtain ⟨j, j0, j1, j2⟩ := hu
          by_cases z : j = v4
          · rw [z] at j2; exact Or.inr j2.symm
          · exact Or.inl ⟨j, j0, by omega, j2⟩
        refine ⟨fun c2 => k v3 ⟨?_, mb⟩, fun c2 => ?_⟩
        · obtain ⟨j, j1, j2⟩ := some_out (p := p.toNat) (hA ▸ hN) (by rw [← hA]; omega)
          refine mi.done (u := q j) (fun w hw => ?_) ⟨j, by omega, j2, rfl⟩
          obtain ⟨a, a1, a2, a3⟩ := hw
          exact ⟨a, by omega, by omega, a3⟩
        · have ix := ix10 (p := p) (i := i) (j := v4) p1 (by omega) hi x1 c2
          have et := t i v4 (by omega) hi x1 c2
          refine ⟨ii (by omega), ii (by omega), ib (by omega), ?_⟩
          rw [et]
          refine ⟨fun c3 => ⟨ii (by omega), ih v3 (v4 + 1) (by omega) (by omega) (by omega) (mi.skip (fun y hy => ?_) hT) mb⟩, fun c3 => ?_⟩
          · rcases hy.2.1 with z | z
            · omega
            · exact z c3
          · rw [ibitu (by omega) x1 (by omega)]
            by_cases hb : N.testBit v4.toNat = true
            · rw [if_pos hb]
              refine ⟨fun _ => ⟨ii (by omega), ih v3 (v4 + 1) (by omega) (by omega) (by omega) (mi.skip (fun y hy => ?_) hT) mb⟩, fun z => absurd z (by decide)⟩
              obtain ⟨j, j1, j2, j3⟩ := hy.1
              have := inj j v4 (by omega) j1 x1 c2 j3
              exact j2 (by rw [show j = v4.toNat by omega]; exact hb)
            · rw [if_neg hb]
              refine ⟨fun z => absurd rfl z, fun _ => ?_⟩
              have ev : v4 = ((v4.toNat : Nat) : Int) := by omega
              have vv := valC (h := h) (N := N) (i := v4.toNat) p1 hA hN inj rc (by omega) hb (s0 := eW g lw (q i) (q v4)) (a := q i) (by unfold co; rw [if_neg (by omega), ← ev]) (Or.inr (by rw [← ev]; exact c3))
              rw [ior1 (p := p.toNat) (hA ▸ hN) (by omega) x1 (by omega)]
              rw [← ev] at vv
              have hN' := or_lt (p := p.toNat) (i := v4.toNat) (hA ▸ hN) (by omega)
              rw [← hA] at hN'
              generalize N ||| 1 <<< v4.toNat = N' at vv hN'
              have ix2 := ixA (p := p) (i := N') (j := v4) p1 (by omega) (by omega) x1 c2
              obtain ⟨v1, v2, v2', v5, -⟩ := vv
              have sb : 0 ≤ eW g lw (q i) (q v4) ∧ eW g lw (q i) (q v4) ≤ 99 := sc_b g lw (q i) (q v4)
              refine ⟨ii (by omega), ii (by omega), ib (by omega), ii (by omega), Nat.le_refl 1, ii (by omega), ih _ (v4 + 1) (by omega) (by omega) (by omega) (mi.step v1 hT) (fun z => ?_)⟩
              by_cases y : v3 < 536870912
              · have := mb y
                by_cases w : eW g lw (q i) (q v4) + h.1 50 ((N' : Int) * p + v4) < 536870912
                · have := v5 w; omega
                · omega
              · have := v5 (by omega); omega
    exact key (p.toNat + 1) _ 0 (by decide) (by omega) (by omega) (MinI.start (fun w hw => by obtain ⟨j, j0, j1, -⟩ := hw; omega)) (fun z => by omega)
  · have hno : ∀ w, ¬ sO q p N w := by
      rintro w ⟨j, j1, j2, -⟩
      apply j2
      rw [show N = A - 1 by omega, hA]
      exact all_set (by omega)
    exact ⟨(Row.nil hno).mpr rfl, fun y hy => by rw [(Row.nil hno).mp hy]; exact Int.le_refl _⟩
theorem cFindRow (hd : 2 < d) {p : Int} {f : Int → Int} (r : RepCW g h) (l : LaidC g lw h) (e10 : h.1 10 10 = p) (p0 : 1 ≤ p) (p1 : p ≤ 10) (to : ToldOk g f p) (tl : ∀ i, 0 ≤ i → i < p → h.1 48 i = f i) (kT : ∀ h' q, SortQ f p q → RowT g lw q p h' → h'.1 10 11 < 536870912 → Fr [48, 49, 50] [(10, 11)] h h' → K 1 h') (kF : ∀ h', (∀ y, ¬ Row (eW g lw) (sO f p 0) (-1) y) → Fr [48, 49, 50] [(10, 11)] h h' → K 0 h') : Call d M_Told_findRow [vR 10 (-1)] h K := by
  have hA2 : 2 ^ p.toNat ≤ 1024 := pow_le_k 10 p1
  have hA0 : 0 < 2 ^ p.toNat := Nat.two_pow_pos _
  generalize hA : 2 ^ p.toNat = A at hA2 hA0
  have es : ishl 1 p = (A : Int) := by rw [ish1 (by omega) (by omega), Nat.one_shiftLeft, hA]
  refine c_Told_findRow 2 hd ?_
  rw [e10]
  refine ⟨fun c => ?_, fun c => by omega⟩
  refine cSortList (by decide) (by omega) (by omega) e10 to.inj tl (fun h1 q sq tq f1 => ?_)
  have inj := sq.inj
  have qb : ∀ i, 0 ≤ i → i < p → 0 ≤ q i ∧ q i < gn g := fun i i0 i1 => by
    obtain ⟨j, j0, j1, e⟩ := sq.1 i i0 i1
    rw [e]; exact (to j j0 j1).1
  have f1' : Fr [48, 49, 50] [(10, 11)] h h1 := f1.mono (by decide) (by decide)
  have E10 : ∀ hh, Fr [49, 50] [(10, 11)] h1 hh → hh.1 10 10 = p := fun hh ff => by rw [ff.f 10 10, f1.i 10]; exact e10
  have E48 : ∀ hh, Fr [49, 50] [(10, 11)] h1 hh → ∀ i, 0 ≤ i → i < p → hh.1 48 i = q i := fun hh ff i i0 i1 => by rw [ff.i 48]; exact tq i i0 i1
  -- the last loop
  have last : ∀ m : Nat, ∀ (v1 : Int) (hh : AH), 0 ≤ v1 → v1 ≤ p → p - v1 < m → Fr [49, 50] [(10, 11)] h1 hh → Tab49 g lw q p hh → RestC g lw q p A 0 hh → MinI (eW g lw) (sO q p 0) (fun w => ∃ j, 0 ≤ j ∧ j < v1 ∧ q j = w) 536870912 (-1) (hh.1 10 11) → A_Told_findRow_149 2 K v1 hh := by
    intro m
    induction m with
    | zero => intro v1 hh x1 x2 e; omega
    | succ m ih =>
      intro v1 hh x1 x2 e ff t rc mi
      refine s_Told_findRow_149 ?_
      rw [E10 hh ff]
      refine ⟨fun c => ?_, fun c => ?_⟩
      · have rl : RowL (eW g lw) (sO q p 0) 536870912 (-1) (hh.1 10 11) := mi.done (u := q 0) (fun w hw => by
          obtain ⟨j, j1, -, j3⟩ := hw
          exact ⟨j, by omega, by omega, j3⟩) ⟨0, by omega, by rw [Nat.zero_testBit]; decide, rfl⟩
        have fa : Fr [48, 49, 50] [(10, 11)] h hh := f1'.trans (ff.mono (by decide) (by decide))
        refine ⟨fun c2 => kF hh (fun y hy => ?_) fa, fun c2 => kT hh q sq ⟨E10 hh ff, E48 hh ff, t, by rw [hA]; exact rc, rl⟩ c2 fa⟩
        rw [← sq.set] at hy
        rcases rl with ⟨-, z⟩ | ⟨z, -, -⟩
        · exact z y hy
        · omega
      · have ev : v1 = ((v1.toNat : Nat) : Int) := by omega
        have vv := valC (h := hh) (N := 0) (i := v1.toNat) (s0 := 0) (a := -1) p1 hA.symm hA0 inj (fun N n1 n2 => rc N n1 n2) (by omega) (by rw [Nat.zero_testBit]; decide) rfl (Or.inl rfl)
        rw [Nat.zero_or, ← ev, Int.zero_add] at vv
        have eN : ishl p v1 = ((1 <<< v1.toNat : Nat) : Int) * p := by
          have h1 : (1 : Nat) <<< v1.toNat < 2 ^ p.toNat := by rw [Nat.one_shiftLeft]; exact Nat.pow_lt_pow_right (by decide) (by omega)
          have h2 : p.toNat <<< v1.toNat = (1 <<< v1.toNat) * p.toNat := by rw [Nat.shiftLeft_eq, Nat.one_shiftLeft, Nat.mul_comm]
          have h3 : (1 <<< v1.toNat) * p.toNat ≤ 1024 * 10 := Nat.mul_le_mul (by omega) (by omega)
          have h4 := ishl_nat (a := p.toNat) (s := v1.toNat) (by omega) (by omega)
          rw [h2, Int.toNat_of_nonneg (by omega), Int.toNat_of_nonneg x1] at h4
          rw [h4, Int.natCast_mul, Int.toNat_of_nonneg (by omega)]
        have hN' : 1 <<< v1.toNat < A := by rw [Nat.one_shiftLeft, ← hA]; exact Nat.pow_lt_pow_right (by decide) (by omega)
        rw [eN]
        generalize 1 <<< v1.toNat = N' at vv hN'
        have ix := ixA (p := p) (i := N') (j := v1) p1 (by omega) (by omega) x1 c
        refine ⟨ii (by omega), ib (by omega), by decide, ii (by omega), ih (v1 + 1) _ (by omega) (by omega) (by omega) (ff.trans (Fr.wI (Or.inr (by decide)))) (fun i j i0 i1 j0 j1 => by rw [rI_ne (by decide)]; exact t i j i0 i1 j0 j1) (fun N n1 n2 i i1 i2 => by rw [rI_ne (by decide)]; exact rc N n1 n2 i i1 i2) ?_⟩
        rw [rI_eq]
        refine mi.step vv.1 (fun u hu => ?_)
        obtain ⟨j, j0, j1, j2⟩ := hu
        by_cases z : j = v1
        · rw [z] at j2; exact Or.inr j2.symm
        · exact Or.inl ⟨j, j0, by omega, j2⟩
  -- the sets
  have sets : ∀ m : Nat, ∀ (v1 : Int) (hh : AH), 0 ≤ v1 → v1 < A → v1 < m → Fr [49, 50] [(10, 11)] h1 hh → Tab49 g lw q p hh → RestC g lw q p A v1 hh → A_Told_findRow_88 2 K v1 hh := by
    intro m
    induction m with
    | zero => intro v1 hh x1 x2 e; omega
    | succ m ih =>
      intro v1 hh x1 x2 e ff t rc
      refine s_Told_findRow_88 ⟨fun c => ?_, fun c => ?_⟩
      · rw [show v1 = 0 by omega] at rc
        refine last (p.toNat + 1) 0 _ (by decide) (by omega) (by omega) (ff.trans (Fr.wI (Or.inr (by decide)))) (fun i j i0 i1 j0 j1 => by rw [rI_ne (by decide)]; exact t i j i0 i1 j0 j1) (fun N n1 n2 i i1 i2 => by rw [rI_ne (by decide)]; exact rc N n1 n2 i i1 i2) ?_
        rw [rI_eq]
        exact MinI.start (fun w hw => by obtain ⟨j, j0, j1, -⟩ := hw; omega)
      · have ev : v1 = ((v1.toNat : Nat) : Int) := by omega
        have hN : v1.toNat < A := by omega
        generalize hNN : v1.toNat = N at ev hN
        subst ev
        have at' : ∀ m : Nat, ∀ (v2 : Int) (h3 : AH), 0 ≤ v2 → v2 ≤ p → p - v2 < m → Fr [49, 50] [(10, 11)] h1 h3 → Tab49 g lw q p h3 → RestC g lw q p A N h3 → (∀ i : Nat, (i : Int) < v2 → (i : Int) < p → N.testBit i = true → RestW g lw q p A N (q i) (h3.1 50 (N * p + i))) → A_Told_findRow_94 2 K N v2 h3 := by
          intro m
          induction m with
          | zero => intro v2 h3 y1 y2 e; omega
          | succ m ih2 =>
            intro v2 h3 y1 y2 e2 f3 t3 rc3 s
            refine s_Told_findRow_94 ?_
            rw [E10 h3 f3]
            refine ⟨fun c2 => ⟨ii (by omega), ih _ h3 (by omega) (by omega) (by omega) f3 t3 (fun N' n1 n2 i i1 i2 => ?_)⟩, fun c2 => ?_⟩
            · by_cases z : N' = N
              · rw [z] at i2 ⊢; exact s i (by omega) i1 i2
              · exact rc3 N' (by omega) n2 i i1 i2
            · rw [ibitu (by omega) y1 (by omega)]
              have ew : v2 = ((v2.toNat : Nat) : Int) := by omega
              by_cases hb : N.testBit v2.toNat = true
              · rw [if_pos hb]
                have ix := ixA (p := p) (i := N) (j := v2) p1 (by omega) (by omega) y1 c2
                refine ⟨fun z => absurd z (by decide), fun _ => ⟨ii (by omega), ii (by omega), ?_⟩⟩
                have go := cCostOnward (d := 2) (h := h3) (i := v2.toNat) (K := fun r6 h5 => inb (((N : Int) * p) + v2) 10240 ∧ (inI (v2 + 1) ∧ A_Told_findRow_94 2 K N (v2 + 1) (wI h5 50 (((N : Int) * p) + v2) r6))) (by decide) (E10 h3 f3) p0 p1 hA.symm hN inj (fun i i0 i1 => (qb i i0 i1).1) t3 rc3 (by omega) (fun v hv => ⟨ib (by omega), ii (by omega), ih2 (v2 + 1) _ (by omega) (by omega) (by omega) (f3.trans (Fr.wI (Or.inl (by decide)))) (fun i j i0 i1 j0 j1 => by rw [rI_ne (by decide)]; exact t3 i j i0 i1 j0 j1) (fun N' n1 n2 i i1 i2 => ?_) (fun i i1 i2 i3 => ?_)⟩)
                · rw [← ew] at go; exact go
                · rw [rI_nk (ix_ne (by omega) i1 y1 c2 (by omega))]; exact rc3 N' n1 n2 i i1 i2
                · by_cases z : (i : Int) = v2
                  · rw [← z, rI_eq]
                    rw [← ew] at hv
                    rw [z]; exact hv
                  · rw [rI_nk (ix_ne (by omega) i2 y1 c2 (by omega))]; exact s i (by omega) i2 i3
              · rw [if_neg hb]
                refine ⟨fun _ => ⟨ii (by omega), ih2 (v2 + 1) h3 (by omega) (by omega) (by omega) f3 t3 rc3 (fun i i1 i2 i3 => ?_)⟩, fun z => absurd rfl z⟩
                by_cases z : (i : Int) = v2
                · exact absurd (by rw [show v2.toNat = i by omega]; exact i3) hb
                · exact s i (by omega) i2 i3
        exact at' (p.toNat + 1) 0 hh (by decide) (by omega) (by omega) ff t rc (fun i i1 i2 => by omega)
  -- the costs of the steps
  have costs : ∀ m : Nat, ∀ (v1 v2 : Int) (hh : AH), 0 ≤ v1 → v1 < p → 0 ≤ v2 → v2 ≤ p → (p - v1) * 11 - v2 < m → Fr [49, 50] [(10, 11)] h1 hh → (∀ i j, 0 ≤ i → i < p → 0 ≤ j → j < p → (i < v1 ∨ (i = v1 ∧ j < v2)) → hh.1 49 (i * p + j) = eW g lw (q i) (q j)) → A_Told_findRow_27 2 K v1 v2 hh := by
    intro m
    induction m with
    | zero => intro v1 v2 hh x1 x2 x3 x4 e; omega
    | succ m ih =>
      intro v1 v2 hh x1 x2 x3 x4 e ff t
      refine s_Told_findRow_27 ?_
      rw [E10 hh ff]
      refine ⟨fun c => ⟨ii (by omega), s_Told_findRow_17 ?_⟩, fun c => ?_⟩
      · rw [E10 hh ff, es]
        refine ⟨fun c2 => ⟨ii (by omega), sets (A + 1) _ hh (by omega) (by omega) (by omega) ff (fun i j i0 i1 j0 j1 => t i j i0 i1 j0 j1 (by omega)) (fun N n1 n2 => by omega)⟩, fun c2 => ih (v1 + 1) 0 hh (by omega) c2 (by decide) (by omega) (by omega) ff (fun i j i0 i1 j0 j1 z => t i j i0 i1 j0 j1 (by omega))⟩
      · have ix := ix10 (p := p) (i := v1) (j := v2) p1 x1 x2 x3 c
        refine ⟨ii (by omega), ii (by omega), ib (by omega), ib (by omega), ?_⟩
        rw [E48 hh ff v1 x1 x2, E48 hh ff v2 x3 c]
        have b1 := qb v1 x1 x2
        have b2 := qb v2 x3 c
        have rh : RepCW g hh := (r.fr f1).fr ff
        have lh : LaidC g lw hh := (l.fr f1).fr ff
        refine cStepCost (by decide) rh lh b1.1 b1.2 b2.1 b2.2 ⟨ib (by omega), ii (by omega), ih v1 (v2 + 1) _ x1 x2 (by omega) (by omega) (by omega) (ff.trans (Fr.wI (Or.inl (by decide)))) (fun i j i0 i1 j0 j1 z => ?_)⟩
        by_cases y : i = v1 ∧ j = v2
        · rw [y.1, y.2, rI_eq]
        · rw [rI_nk (ix_ne j0 j1 x3 c y)]; exact t i j i0 i1 j0 j1 (by omega)
  refine s_Told_findRow_17 ?_
  have e10' := E10 h1 Fr.refl
  rw [e10']
  exact ⟨fun c2 => by omega, fun c2 => costs ((p.toNat + 1) * 11) 0 0 h1 (by decide) c2 (by decide) (by omega) (by omega) Fr.refl (fun i j i0 i1 j0 j1 z => by omega)⟩
theorem cRowPlace (hd : 0 < d) {p a v : Int} {q f : Int → Int} {N : Nat} (sq : SortQ f p q) (q0 : ∀ i, 0 ≤ i → i < p → 0 ≤ q i) (t : RowT g lw q p h) (p0 : 1 ≤ p) (p1 : p ≤ 10) (hN : N < 2 ^ p.toNat) (a0 : -1 ≤ a) (a1 : a < p) (rl : RowL (eW g lw) (sO q p N) 536870912 (if a = -1 then -1 else q a) v) (hv : v < 536870912) (hne : ∃ u, sO q p N u) (k : ∀ i : Nat, (i : Int) < p → ¬ N.testBit i = true → NX (eW g lw) (sO q p N) (if a = -1 then -1 else q a) (q i) → RowL (eW g lw) (less (sO q p N) (q i)) 536870912 (q i) (v - co (eW g lw) (if a = -1 then -1 else q a) (q i)) → v - co (eW g lw) (if a = -1 then -1 else q a) (q i) < 536870912 → 0 ≤ v - co (eW g lw) (if a = -1 then -1 else q a) (q i) → K i h) : Call d M_Told_rowPlaceAfter [vR 10 (-1), vI (N : Int), vI a, vI v] h K := by
  have hA2 : 2 ^ p.toNat ≤ 1024 := pow_le_k 10 p1
  obtain ⟨u, hu⟩ := hne
  have inj := sq.inj
  obtain ⟨e10, e48, t49, t50, -⟩ := t
  generalize hb' : (if a = -1 then (-1 : Int) else q a) = b at rl k
  have bq : a ≠ -1 → b = q a := fun z => by rw [← hb', if_neg z]
  have b1 : a = -1 → b = -1 := fun z => by rw [← hb', if_pos z]
  refine c_Told_rowPlaceAfter 0 hd ?_
  have key : ∀ m : Nat, ∀ v4 : Int, 0 ≤ v4 → v4 ≤ p → p - v4 < m → (∀ j, 0 ≤ j → j < v4 → ¬ Cd (eW g lw) (sO q p N) b (q j) v) → A_Told_rowPlaceAfter_3 0 K N a v v4 h := by
    intro m
    induction m with
    | zero => intro v4 x1 x2 e; omega
    | succ m ih =>
      intro v4 x1 x2 e no
      refine s_Told_rowPlaceAfter_3 ?_
      rw [e10]
      refine ⟨fun c => ?_, fun c => ?_⟩
      · exfalso
        rcases rl with ⟨z, _⟩ | ⟨_, z, _⟩
        · omega
        · obtain ⟨w, hw⟩ := (Row.cons hu).mp z
          obtain ⟨j, j1, j2, j3⟩ := hw.1
          exact no j (by omega) (by omega) (by rw [j3]; exact hw)
      · have ev : v4 = ((v4.toNat : Nat) : Int) := by omega
        have q4 := q0 v4 x1 c
        have next : ¬ Cd (eW g lw) (sO q p N) b (q v4) v → inI (v4 + 1) ∧ A_Told_rowPlaceAfter_3 0 K N a v (v4 + 1) h := fun hn => ⟨ii (by omega), ih (v4 + 1) (by omega) (by omega) (by omega) (fun j j0 j1 => by
          by_cases z : j = v4
          · rw [z]; exact hn
          · exact no j j0 (by omega))⟩
        have tail : ∀ s0, s0 = co (eW g lw) b (q v4) → A_Told_rowPlaceAfter_35 0 K N a v v4 s0 h := by
          intro s0 hs
          refine s_Told_rowPlaceAfter_35 ?_
          rw [ibitu (by omega) x1 (by omega)]
          by_cases hb : N.testBit v4.toNat = true
          · rw [if_pos hb, if_neg (show ¬ (1 : Int) = 0 by decide)]
            refine br0 (next (fun hy => ?_))
            obtain ⟨j, j1, j2, j3⟩ := hy.1
            have := inj j v4 (by omega) j1 x1 c j3
            exact j2 (by rw [show j = v4.toNat by omega]; exact hb)
          · rw [if_neg hb, if_pos rfl]
            have use : (b = -1 ∨ eW g lw b (q v4) ≠ 0) → (inI ((ior (N : Int) (ishl 1 v4)) * (h.1 10 10)) ∧ (inI (((ior (N : Int) (ishl 1 v4)) * (h.1 10 10)) + v4) ∧ (inb (((ior (N : Int) (ishl 1 v4)) * (h.1 10 10)) + v4) 10240 ∧ (inI (s0 + (h.1 50 (((ior (N : Int) (ishl 1 v4)) * (h.1 10 10)) + v4))) ∧ (((s0 + (h.1 50 (((ior (N : Int) (ishl 1 v4)) * (h.1 10 10)) + v4))) ≠ v → (inI (v4 + 1) ∧ A_Told_rowPlaceAfter_3 0 K N a v (v4 + 1) h)) ∧ ((s0 + (h.1 50 (((ior (N : Int) (ishl 1 v4)) * (h.1 10 10)) + v4))) = v → K v4 h)))))) := by
              intro ok
              have vv := valC (h := h) (N := N) (i := v4.toNat) (s0 := s0) (a := b) p1 rfl hN inj (fun N' n1 n2 => t50 N' (by omega) n2) (by omega) hb (by rw [← ev]; exact hs) (by rw [← ev]; exact ok)
              rw [ior1 hN (by omega) x1 (by omega), e10]
              rw [← ev] at vv
              have hN' := or_lt (p := p.toNat) (i := v4.toNat) hN (by omega)
              generalize N ||| 1 <<< v4.toNat = N' at vv hN'
              have ix := ixA (p := p) (i := N') (j := v4) p1 (by omega) (by omega) x1 c
              obtain ⟨w1, w2, w3, w4, w5⟩ := vv
              have sb : 0 ≤ s0 ∧ s0 ≤ 99 := by
                rw [hs]
                unfold co
                split
                · omega
                · exact sc_b g lw b (q v4)
              have hg := w1.good hu rl hv
              refine ⟨ii (by omega), ii (by omega), ib (by omega), ii (by omega), fun z => next (fun hy => z (hg.mpr hy)), fun z => ?_⟩
              have cd := hg.mp z
              have ez : v - co (eW g lw) b (q v4) = h.1 50 ((N' : Int) * p + v4) := by rw [← hs]; omega
              have fin := k v4.toNat (by omega) hb
              rw [← ev] at fin
              refine fin ?_ (by rw [ez]; exact w5) (by omega) (by omega)
              rcases rl with ⟨y, _⟩ | ⟨_, y1, y2⟩
              · omega
              · refine ⟨v, y1, y2, cd, fun x hx => ?_⟩
                obtain ⟨j, j1, j2, j3⟩ := hx.1
                rw [← j3] at hx ⊢
                by_cases y : (j : Int) = v4
                · rw [y]; exact Int.le_refl _
                · by_cases y' : (j : Int) < v4
                  · exact absurd hx (no j (by omega) y')
                  · exact Int.le_of_lt (sq.2.2 v4 j x1 (by omega) j1)
            by_cases ha : a = -1
            · rw [if_pos ha]
              exact br1 (use (Or.inl (b1 ha)))
            · rw [if_neg ha]
              have ebq := bq ha
              have qa := q0 a (by omega) a1
              have es : s0 = eW g lw b (q v4) := by rw [hs]; unfold co; rw [if_neg (by omega)]
              by_cases hz : s0 = 0
              · rw [if_pos hz]
                refine br0 (next (fun hy => ?_))
                rcases hy.2.1 with z | z
                · omega
                · exact z (by rw [← es]; exact hz)
              · rw [if_neg hz]
                exact br1 (use (Or.inr (by rw [← es]; exact hz)))
        refine ⟨fun ha => ?_, fun ha => tail 0 ?_⟩
        · have ix := ix10 (p := p) (i := a) (j := v4) p1 (by omega) a1 x1 c
          refine ⟨ii (by omega), ii (by omega), ib (by omega), tail _ ?_⟩
          have qa := q0 a (by omega) a1
          rw [t49 a v4 (by omega) a1 x1 c, bq ha]
          unfold co
          rw [if_neg (by omega)]
        · unfold co
          rw [if_pos (b1 ha)]
  exact key (p.toNat + 1) 0 (by decide) (by omega) (by omega) (fun j j0 j1 => by omega)
theorem cRowWord (hd : 1 < d) {p x : Int} {q f : Int → Int} (sq : SortQ f p q) (q0 : ∀ i, 0 ≤ i → i < p → 0 ≤ q i) (t : RowT g lw q p h) (p0 : 1 ≤ p) (p1 : p ≤ 10) (hv : h.1 10 11 < 536870912) (x0 : 0 ≤ x) (x1 : x < p) (k : K (rowAt (eW g lw) x.toNat (sO q p 0) (-1)) h) : Call d M_Told_rowWordAt [vR 10 (-1), vI x] h K := by
  have e10 := t.1
  have inj := sq.inj
  refine c_Told_rowWordAt 1 hd ?_
  have key : ∀ m : Nat, ∀ (N : Nat) (v3 v4 v5 : Int), N < 2 ^ p.toNat → -1 ≤ v3 → v3 < p → 0 ≤ v5 → v5 ≤ x → x - v5 < m → RowL (eW g lw) (sO q p N) 536870912 (if v3 = -1 then -1 else q v3) v4 → v4 < 536870912 → 0 ≤ v4 → cnt (outB N) p.toNat = p - v5 → (∀ r, r = rowAt (eW g lw) (x - v5).toNat (sO q p N) (if v3 = -1 then -1 else q v3) → K r h) → A_Told_rowWordAt_13 1 K x N v3 v4 v5 h := by
    intro m
    induction m with
    | zero => intro N v3 v4 v5 hN a0 a1 x2 x3 e; omega
    | succ m ih =>
      intro N v3 v4 v5 hN a0 a1 x2 x3 e rl hl hl0 hc on
      refine s_Told_rowWordAt_13 ?_
      rw [e10]
      refine ⟨fun c => by omega, fun c => ⟨fun c2 => by omega, fun c2 => ?_⟩⟩
      have hne : ∃ u, sO q p N u := by
        apply Classical.byContradiction
        intro hn
        have := cnt_none (P := outB N) p.toNat (fun v v0 v1 z => hn ⟨q v.toNat, v.toNat, by omega, z v.toNat (by omega), rfl⟩)
        omega
      refine cRowPlace (by decide) sq q0 t p0 p1 hN a0 a1 rl hl hne (fun i i1 ib' nxi rl' lt' ge' => ⟨fun hne1 => ?_, fun z => by omega⟩)
      have hN' := or_lt (p := p.toNat) (i := i) hN (by omega)
      have hnx := nx_of nxi
      have hc' := cnt_flip (P := outB N) (P' := outB (N ||| 1 <<< i)) p.toNat i (by omega) (by omega) (fun j hj => by rw [show j = i by omega]; exact ib') (fun z => z i rfl (bit_or_test.mpr (Or.inr rfl))) (fun v hv => ⟨fun z j hj y => (bit_or_test.mp y).elim (z j hj) (fun w => hv (by omega)), fun z j hj y => z j hj (bit_or_test.mpr (Or.inl y))⟩)
      have eo := ior1 (N := N) (i := (i : Int)) (p := p.toNat) hN (by omega) (by omega) (by omega)
      rw [Int.toNat_natCast] at eo
      have tail : ∀ s1, s1 = co (eW g lw) (if v3 = -1 then -1 else q v3) (q i) → A_Told_rowWordAt_71 1 K x N v5 i v4 s1 h := by
        intro s1 hs
        have sb : 0 ≤ s1 ∧ s1 ≤ 99 := by
          rw [hs]
          exact co_b _ _
        refine s_Told_rowWordAt_71 ⟨ii (by omega), ii (by omega), ?_⟩
        rw [eo]
        by_cases hlast : v5 = x
        · refine s_Told_rowWordAt_13 ⟨fun _ => s_Told_rowWordAt_90 ⟨fun _ => ⟨ib (by omega), ?_⟩, fun z => by omega⟩, fun z => by omega⟩
          rw [t.2.1 i (by omega) i1]
          refine on _ ?_
          rw [show (x - v5).toNat = 0 by omega]
          exact hnx.symm
        · rw [hs]
          refine ih _ i _ (v5 + 1) hN' (by omega) i1 (by omega) (by omega) (by omega) ?_ lt' ge' (by omega) (fun r hr => on r ?_)
          · rw [if_neg (by omega), ← sO_less inj i1]; exact rl'
          · rw [hr, show (x - v5).toNat = (x - (v5 + 1)).toNat + 1 by omega]
            show _ = rowAt _ _ (less _ (nx _ _ _)) (nx _ _ _)
            rw [hnx, sO_less inj i1, if_neg (by omega)]
      refine ⟨fun ha => ?_, fun ha => tail 0 (by rw [if_pos ha]; rfl)⟩
      rw [e10]
      have ix := ix10 (p := p) (i := v3) (j := i) p1 (by omega) a1 (by omega) i1
      refine ⟨ii (by omega), ii (by omega), ib (by omega), tail _ ?_⟩
      have q3 := q0 v3 (by omega) a1
      rw [t.2.2.1 v3 i (by omega) a1 (by omega) i1, if_neg ha]
      unfold co
      rw [if_neg (by omega)]
  have rl0 := t.2.2.2.2
  refine key (x.toNat + 1) 0 (-1) _ 0 (Nat.two_pow_pos _) (by decide) (by omega) (by decide) x0 (by omega) (by rw [if_pos rfl]; exact rl0) hv (by
    rcases rl0 with ⟨z, _⟩ | ⟨_, z, _⟩
    · omega
    · exact z.nn) (by rw [cnt_all (P := outB 0) p.toNat (fun v v0 v1 j hj => by rw [Nat.zero_testBit]; decide)]; omega) (fun r hr => by rw [hr, if_pos rfl, show x - 0 = x by omega]; exact k)
end CR2

/-! the reference: row -/
def lwd (f : Int → Int) (p last : Int) : Int := if last = p then -1 else f last
def RestV (g : G) (lw : LW) (f : Int → Int) (p : Int) (A N : Nat) (last v : Int) : Prop := RowL (eW g lw) (sO f p N) 1000000000 (lwd f p last) v ∧ (v < 1000000000 → 0 ≤ v ∧ v ≤ 99 * ((A : Int) - 1 - N))
def RestM (g : G) (lw : LW) (f : Int → Int) (p : Int) (A : Nat) (m : Int) (h : AH) : Prop := ∀ N : Nat, m < N → N < A → ∀ last, 0 ≤ last → last ≤ p → RestV g lw f p A N last (h.1 89 (13 * N + last))
theorem cnt_none {P : Int → Prop} : ∀ m : Nat, (∀ v : Int, 0 ≤ v → v < m → ¬ P v) → cnt P m = 0
  | 0, _ => rfl
  | m + 1, h => by rw [cnt_f (h m (by omega) (by omega))]; exact cnt_none m (fun v v0 v1 => h v v0 (by omega))
theorem cnt_all {P : Int → Prop} : ∀ m : Nat, (∀ v : Int, 0 ≤ v → v < m → P v) → cnt P m = m
  | 0, _ => rfl
  | m + 1, h => by rw [cnt_t (h m (by omega) (by omega)), cnt_all m (fun v v0 v1 => h v v0 (by omega))]; omega
/-- the places that aren't in N -/
def outB (N : Nat) : Int → Prop := fun i => ∀ j : Nat, (j : Int) = i → ¬ N.testBit j = true
theorem RowL.bd {e : Int → Int → Int} {S : Int → Prop} {B a x : Int} (h : RowL e S B a x) : x ≤ B := by
  rcases h with ⟨h1, _⟩ | ⟨h1, _⟩ <;> omega
section MR
variable {d : Nat} {g : G} {lw : LW} {h : AH} {K : Int → AH → Prop}
theorem mRowBy (hd : 1 < d) {p last : Int} {i N A : Nat} {f : Int → Int} (r : RepM g h) (l : LaidM g lw h) (p1 : p ≤ 12) (hA : A = 2 ^ p.toNat) (hN : N < A) (to : ToldOk g f p) (tl : ∀ i, 0 ≤ i → i < p → h.1 88 i = f i) (rm : RestM g lw f p A N h) (l0 : 0 ≤ last) (l1 : last ≤ p) (hi : (i : Int) < p) (k : ∀ v, ValI (eW g lw) (sO f p N) 1000000000 (lwd f p last) (f i) v → v ≤ 1000000000 → (v < 1000000000 → (0 ≤ v ∧ v ≤ 99 * ((A : Int) - 1 - N)) ∧ ¬ N.testBit i = true) → K v h) : Call d M_M_rowBy [vR 12 (-1), vI p, vI (N : Int), vI last, vI (i : Int)] h K := by
  have hA2 : A ≤ 4096 := by rw [hA]; exact pow_le_k 12 p1
  have q1 := (to i (by omega) hi).1
  refine c_M_rowBy 1 hd ?_
  have eb := ibit (N := N) (i := (i : Int)) (by omega) (by omega) (by omega)
  rw [Int.toNat_natCast] at eb
  rw [eb]
  by_cases hb : N.testBit i = true
  · rw [if_pos hb]
    refine ⟨fun z => absurd rfl z, fun _ => k _ (ValI.not (fun z => ?_) (Int.le_refl _)) (Int.le_refl _) (fun z => absurd z (by decide))⟩
    obtain ⟨⟨j, j1, j2, j3⟩, -⟩ := z
    have := to.inj j i (by omega) j1 (by omega) hi j3
    exact j2 (by rw [show j = i by omega]; exact hb)
  · rw [if_neg hb]
    have hN' := or_lt (p := p.toNat) (i := i) (hA ▸ hN) (by omega)
    have hgt := or_gt hb
    have eo := ior1 (N := N) (i := (i : Int)) (p := p.toNat) (hA ▸ hN) (by omega) (by omega) (by omega)
    rw [Int.toNat_natCast] at eo
    have ra := rm (N ||| 1 <<< i) (by omega) (by rw [hA]; exact hN') i (by omega) (by omega)
    unfold RestV at ra
    rw [show lwd f p i = f i from if_neg (by omega), ← sO_less to.inj hi] at ra
    rw [← hA] at hN'
    have hS : sO f p N (f i) := ⟨i, hi, hb, rfl⟩
    have tail : ∀ s0, 0 ≤ s0 → (s0 < 1000000000 → s0 ≤ 99 ∧ (lwd f p last = -1 ∨ eW g lw (lwd f p last) (f i) ≠ 0) ∧ s0 = co (eW g lw) (lwd f p last) (f i)) → (1000000000 ≤ s0 → ¬ (lwd f p last = -1 ∨ eW g lw (lwd f p last) (f i) ≠ 0)) → A_M_rowBy_29 1 K N i s0 h := by
      intro s0 s1 s2 s3
      refine s_M_rowBy_29 ?_
      rw [eo]
      generalize N ||| 1 <<< i = N' at hgt hN' ra
      obtain ⟨ra, rb⟩ := ra
      have rc := ra.bd
      refine ⟨ii (by omega), ii (by omega), ib (by omega), mSum (by decide) s1 (by omega) (fun c => ?_) (fun c1 c2 => ?_)⟩
      · refine k _ ?_ (Int.le_refl _) (fun z => absurd z (by decide))
        by_cases hs : 1000000000 ≤ s0
        · exact ValI.not (fun z => s3 hs z.2) (Int.le_refl _)
        · have s4 := s2 (by omega)
          exact ra.val hS s4.2.1 (fun _ => Int.le_refl _) (fun z => by omega) (fun z => by omega)
      · have s4 := s2 c1
        have rd := rb c2
        exact k _ (ra.val hS s4.2.1 (fun z => by omega) (fun _ => by rw [s4.2.2]) (fun _ => by omega)) (by omega) (fun _ => ⟨by omega, hb⟩)
    refine ⟨fun _ => ⟨fun c => ?_, fun c => ?_⟩, fun z => absurd z (by decide)⟩
    · have q2 := (to last l0 (by omega)).1
      have el : lwd f p last = f last := if_neg c
      have sb := sc_b g lw (f last) (f i)
      refine mStepTold (by decide) r l (by omega) to tl l0 (by omega) (by omega) hi (tail _ ?_ (fun z => ?_) (fun z => ?_))
      · split <;> omega
      · rw [el]
        by_cases hz : (sc g lw (f last) (f i)).1 = 0
        · rw [if_pos hz] at z; omega
        · rw [if_neg hz]
          exact ⟨by omega, Or.inr hz, by unfold co; rw [if_neg (by omega)]⟩
      · rw [el]
        by_cases hz : (sc g lw (f last) (f i)).1 = 0
        · rintro (y | y)
          · omega
          · exact y hz
        · rw [if_neg hz] at z; omega
    · have el : lwd f p last = -1 := if_pos c
      exact tail 0 (by decide) (fun _ => ⟨by decide, Or.inl el, by unfold co; rw [if_pos el]⟩) (fun z => by omega)
theorem mLaysRest (hd : 2 < d) {p : Int} {A : Nat} {f : Int → Int} (r : RepM g h) (l : LaidM g lw h) (p0 : 1 ≤ p) (p1 : p ≤ 10) (hA : A = 2 ^ p.toNat) (to : ToldOk g f p) (tl : ∀ i, 0 ≤ i → i < p → h.1 88 i = f i) (k : ∀ h', RestM g lw f p A (-1) h' → Fr [89] [] h h' → K 0 h') : Call d M_M_laysRest [vR 12 (-1), vI p] h K := by
  have hA2 : A ≤ 1024 := by rw [hA]; exact pow_le_k 10 p1
  have hA0 : 0 < A := by rw [hA]; exact Nat.two_pow_pos _
  have es : ishl 1 p = (A : Int) := by rw [ish1 (by omega) (by omega), Nat.one_shiftLeft, hA]
  refine c_M_laysRest 2 hd ?_
  rw [es]
  refine ⟨ii (by omega), ?_⟩
  have inner : ∀ m : Nat, ∀ (N : Nat) (v4 v5 v6 : Int) (hh : AH), N < A → 0 ≤ v4 → v4 ≤ p → 0 ≤ v6 → v6 ≤ p → p - v6 < m → Fr [89] [] h hh → RestM g lw f p A N hh → (∀ h', Fr [89] [] h h' → RestM g lw f p A N h' → (∀ last, 0 ≤ last → last < v4 + 1 → (last < v4 → h'.1 89 (13 * N + last) = hh.1 89 (13 * N + last)) ∧ (last = v4 → RestV g lw f p A N last (h'.1 89 (13 * N + last)))) → A_M_laysRest_15 2 K p (A - 1) N (v4 + 1) h') → (N = A - 1 → v5 = 0) → (N ≠ A - 1 → MinI (eW g lw) (sO f p N) (fun w => ∃ i, 0 ≤ i ∧ i < v6 ∧ f i = w) 1000000000 (lwd f p v4) v5) → (v5 < 1000000000 → 0 ≤ v5 ∧ v5 ≤ 99 * ((A : Int) - 1 - N)) → A_M_laysRest_37 2 K p (A - 1) N v4 v5 v6 hh := by
    intro m
    induction m with
    | zero => intro N v4 v5 v6 hh hN x1 x2 x3 x4 e; omega
    | succ m ih =>
      intro N v4 v5 v6 hh hN x1 x2 x3 x4 e fr rm on t0 t1 t2
      refine s_M_laysRest_37 ⟨fun c => ⟨ii (by omega), ii (by omega), ib (by omega), ii (by omega), on _ (fr.trans (Fr.wI (Or.inl (by decide)))) (fun N' n1 n2 last y1 y2 => ?_) (fun last y1 y2 => ⟨fun z => ?_, fun z => ?_⟩)⟩, fun c => ?_⟩
      · rw [rI_nk (by omega)]; exact rm N' n1 n2 last y1 y2
      · rw [rI_nk (by omega)]
      · rw [z, rI_eq]
        refine ⟨?_, t2⟩
        by_cases hz : N = A - 1
        · right
          have hno : ∀ w, ¬ sO f p N w := by
            rintro w ⟨i, i1, i2, -⟩
            apply i2
            rw [hz, hA]
            exact all_set (by omega)
          rw [t0 hz]
          exact ⟨by decide, (Row.nil hno).mpr rfl, fun y hy => by rw [(Row.nil hno).mp hy]; exact Int.le_refl _⟩
        · obtain ⟨i, i1, i2⟩ := some_out (p := p.toNat) (hA ▸ hN) (by rw [← hA]; exact hz)
          refine (t1 hz).done (u := f i) (fun w hw => ?_) ⟨i, by omega, i2, rfl⟩
          obtain ⟨j, j1, j2, j3⟩ := hw
          exact ⟨j, by omega, by omega, j3⟩
      · have ev : v6 = ((v6.toNat : Nat) : Int) := by omega
        have go := mRowBy (d := 2) (K := fun r6 h5 => Call 2 M_M_min [vI v5, vI r6] h5 (fun r8 h7 => inI (v6 + 1) ∧ A_M_laysRest_37 2 K p (A - 1) N v4 r8 (v6 + 1) h7)) (by decide) (r.fr fr) (l.fr fr) (by omega) hA hN to (fun i i0 i1 => by rw [fr.i 88]; exact tl i i0 i1) rm x1 x2 (i := v6.toNat) (by omega) (fun v hv vb vc => mMin (by decide) ⟨ii (by omega), ih N v4 _ (v6 + 1) hh hN x1 x2 (by omega) (by omega) (by omega) fr rm on (fun z => ?_) (fun z => ?_) (fun z => ?_)⟩)
        · rw [← ev] at go
          exact go
        · have e5 := t0 z
          have : ¬ v < 1000000000 := fun y => (vc y).2 (by rw [z, hA]; exact all_set (by omega))
          omega
        · refine (t1 z).step hv (fun u hu => ?_)
          obtain ⟨j, j1, j2, j3⟩ := hu
          by_cases y : j = v6
          · rw [y] at j3; rw [← ev]; exact Or.inr j3.symm
          · exact Or.inl ⟨j, j1, by omega, j3⟩
        · by_cases y : v < 1000000000
          · have := (vc y).1
            by_cases w : v5 < 1000000000
            · have := t2 w; omega
            · omega
          · have := t2 (by omega); omega
  have mid : ∀ m : Nat, ∀ (N : Nat) (v4 : Int) (hh : AH), N < A → 0 ≤ v4 → v4 ≤ p + 1 → p + 1 - v4 < m → Fr [89] [] h hh → RestM g lw f p A N hh → (∀ last, 0 ≤ last → last < v4 → RestV g lw f p A N last (hh.1 89 (13 * N + last))) → (∀ h', Fr [89] [] h h' → RestM g lw f p A ((N : Int) - 1) h' → A_M_laysRest_8 2 K p (A - 1) (N - 1) h') → A_M_laysRest_15 2 K p (A - 1) N v4 hh := by
    intro m
    induction m with
    | zero => intro N v4 hh hN x1 x2 e; omega
    | succ m ih =>
      intro N v4 hh hN x1 x2 e fr rm t on
      refine s_M_laysRest_15 ⟨fun c => ⟨ii (by omega), on hh fr (fun N' n1 n2 last y1 y2 => ?_)⟩, fun c => ?_⟩
      · by_cases z : N' = N
        · rw [z]; exact t last y1 (by omega)
        · exact rm N' (by omega) n2 last y1 y2
      · refine inner (p.toNat + 1) N v4 _ 0 hh hN x1 c (by decide) (by omega) (by omega) fr rm (fun h' f' rm' t' => ih N (v4 + 1) h' hN (by omega) (by omega) (by omega) f' rm' (fun last y1 y2 => ?_) on) (fun z => if_pos (by omega)) (fun z => ?_) (fun z => ?_)
        · by_cases z : last = v4
          · exact (t' last y1 y2).2 z
          · rw [(t' last y1 y2).1 (by omega)]; exact t last y1 (by omega)
        · rw [if_neg (by omega)]
          exact MinI.start (fun w hw => by obtain ⟨j, j1, j2, -⟩ := hw; omega)
        · by_cases y : (N : Int) = A - 1
          · rw [if_pos y]; omega
          · rw [if_neg y] at z; omega
  have outer : ∀ m : Nat, ∀ (v3 : Int) (hh : AH), -1 ≤ v3 → v3 < A → v3 + 1 < m → Fr [89] [] h hh → RestM g lw f p A v3 hh → A_M_laysRest_8 2 K p (A - 1) v3 hh := by
    intro m
    induction m with
    | zero => intro v3 hh x1 x2 e; omega
    | succ m ih =>
      intro v3 hh x1 x2 e fr rm
      refine s_M_laysRest_8 ⟨fun c => k hh (by rw [show (-1 : Int) = v3 by omega]; exact rm) fr, fun c => ?_⟩
      have ev : v3 = ((v3.toNat : Nat) : Int) := by omega
      rw [ev] at rm ⊢
      exact mid (p.toNat + 2) v3.toNat 0 hh (by omega) (by decide) (by omega) (by omega) fr rm (fun last y1 y2 => by omega) (fun h' f' rm' => ih _ h' (by omega) (by omega) (by omega) f' rm')
  exact outer (A + 1) _ h (by omega) (by omega) (by omega) Fr.refl (fun N n1 n2 => by omega)
theorem mRow (hd : 5 < d) {p q : Int} {t : Tp} (r : RepM g h) (rt : RepMT t h) (rl : RepML lw h) (k0 : ¬ (2 ≤ p ∧ p ≤ 10 ∧ -1 ≤ q ∧ q < p ∧ p ≤ t.1) → K (-1) h) (k3 : ∀ h', 2 ≤ p ∧ p ≤ 10 ∧ -1 ≤ q ∧ q < p ∧ p ≤ t.1 → ¬ (ToldOk g t.2 p ∧ ∀ i, 0 ≤ i → i < p → us g (t.2 i)) → RepMT (0, t.2) h' → Fr [76, 77, 78, 79, 80, 88, 89] [(12, 11)] h h' → K (-3) h') (k : ∀ h' x, 2 ≤ p ∧ p ≤ 10 ∧ -1 ≤ q ∧ q < p ∧ p ≤ t.1 → (ToldOk g t.2 p ∧ ∀ i, 0 ≤ i → i < p → us g (t.2 i)) → RowA (eW g lw) (sO t.2 p 0) q x → RepMT (0, t.2) h' → Fr [76, 77, 78, 79, 80, 88, 89] [(12, 11)] h h' → K x h') : Call d M_M_row [vR 12 (-1), vI p, vI q] h K := by
  refine c_M_row 5 hd (mIn (by decide) (fun p0 p1 => br1 ⟨ii (by omega), mIn (by decide) (fun q0 q1 => br1 ⟨fun c => ?_, fun c => k0 (by rw [rt.2.1] at c; omega)⟩) (fun c => br0 (k0 (by omega)))⟩) (fun c => br0 (k0 (by omega))))
  rw [rt.2.1] at c
  have G : 2 ≤ p ∧ p ≤ 10 ∧ -1 ≤ q ∧ q < p ∧ p ≤ t.1 := ⟨p0, p1, q0, by omega, c⟩
  refine mTakesWords (by decide) r rt (by omega) (by omega) c (fun h1 to tl rt1 f1 => br1 ?_) (fun h1 nt rt1 f1 => br0 (k3 h1 G (fun z => nt z.1) rt1 (f1.mono (by decide) (by decide))))
  refine mAreUsed (by decide) (r.fr f1) (by omega) (by omega) to tl (fun ua => br1' ?_) (fun nu => br0' (k3 h1 G (fun z => nu z.2) rt1 (f1.mono (by decide) (by decide))))
  refine mLaysSteps (by decide) (r.fr f1) (rl.fr f1) (fun h2 ls f2 => ?_)
  have r2 := (r.fr f1).fr f2
  have tl2 : ∀ i, 0 ≤ i → i < p → h2.1 88 i = t.2 i := fun i i0 i1 => by rw [f2.i 88]; exact tl i i0 i1
  have hA2 : 2 ^ p.toNat ≤ 1024 := pow_le_k 10 (by omega)
  refine mLaysRest (by decide) r2 ls (by omega) p1 rfl to tl2 (fun h3 rm f3 => ?_)
  have fr3 : Fr [76, 77, 78, 79, 80, 88, 89] [(12, 11)] h h3 := ((f1.mono (by decide) (by decide)).trans (f2.mono (by decide) (by decide))).trans (f3.mono (by decide) (by decide))
  have rt3 : RepMT (0, t.2) h3 := (rt1.fr f2).fr f3
  have tl3 : ∀ i, 0 ≤ i → i < p → h3.1 88 i = t.2 i := fun i i0 i1 => by rw [f3.i 88]; exact tl2 i i0 i1
  have r3 := r2.fr f3
  have l3 := ls.fr f3
  have rm0 := rm 0 (by omega) (Nat.two_pow_pos _) p (by omega) (Int.le_refl _)
  rw [show 13 * ((0 : Nat) : Int) + p = p by omega] at rm0
  have el : lwd t.2 p p = -1 := if_pos rfl
  unfold RestV at rm0
  rw [el] at rm0
  have fin : ∀ x, RowA (eW g lw) (sO t.2 p 0) q x → K x h3 := fun x hx => k h3 x G ⟨to, ua⟩ hx rt3 fr3
  have loop : ∀ m : Nat, ∀ (N : Nat) (v5 v6 : Int), N < 2 ^ p.toNat → 0 ≤ v5 → v5 ≤ p → 0 ≤ v6 → v6 ≤ q → q - v6 < m → h3.1 89 (13 * N + v5) < 1000000000 → cnt (outB N) p.toNat = p - v6 → (∀ x, x = rowAt (eW g lw) (q - v6).toNat (sO t.2 p N) (lwd t.2 p v5) → K x h3) → A_M_row_91 5 K p q N v5 v6 h3 := by
    intro m
    induction m with
    | zero => intro N v5 v6 hN x1 x2 x3 x4 e; omega
    | succ m ih =>
      intro N v5 v6 hN x1 x2 x3 x4 e hlt hc on
      refine s_M_row_91 ?_
      have rN := rm N (by omega) hN v5 x1 x2
      unfold RestV at rN
      obtain ⟨i0, j0, j1⟩ : ∃ i : Nat, (i : Int) < p ∧ ¬ N.testBit i = true := by
        apply Classical.byContradiction
        intro hn
        have := cnt_none (P := outB N) p.toNat (fun v v0 v1 z => hn ⟨v.toNat, by omega, z v.toNat (by omega)⟩)
        omega
      have hu : sO t.2 p N (t.2 i0) := ⟨i0, j0, j1, rfl⟩
      have inner : ∀ m : Nat, ∀ v7 v8 : Int, 0 ≤ v8 → v8 ≤ p → p - v8 < m → ((v7 = -1 ∧ ∀ i, 0 ≤ i → i < v8 → ¬ Cd (eW g lw) (sO t.2 p N) (lwd t.2 p v5) (t.2 i) (h3.1 89 (13 * N + v5))) ∨ ((0 ≤ v7 ∧ v7 < v8) ∧ Cd (eW g lw) (sO t.2 p N) (lwd t.2 p v5) (t.2 v7) (h3.1 89 (13 * N + v5)) ∧ ∀ i, 0 ≤ i → i < v8 → Cd (eW g lw) (sO t.2 p N) (lwd t.2 p v5) (t.2 i) (h3.1 89 (13 * N + v5)) → t.2 v7 ≤ t.2 i)) → A_M_row_97 5 K p q N v5 v6 v7 v8 h3 := by
        intro m
        induction m with
        | zero => intro v7 v8 y1 y2 e; omega
        | succ m ih2 =>
          intro v7 v8 y1 y2 e2 b
          refine s_M_row_97 ⟨fun c2 => ?_, fun c2 => ?_⟩
          · have e8 : v8 = p := by omega
            rw [e8] at b
            rcases rN.1 with ⟨z1, z2⟩ | ⟨z1, z2, z3⟩
            · omega
            · obtain ⟨w, hw⟩ := (Row.cons hu).mp z2
              obtain ⟨j, k1, k2, k3⟩ := hw.1
              rcases b with ⟨b1, b2⟩ | ⟨b1, b2, b3⟩
              · exact absurd (by rw [k3]; exact hw) (b2 j (by omega) k1)
              · have hnx : nx (eW g lw) (sO t.2 p N) (lwd t.2 p v5) = t.2 v7 := nx_of ⟨_, z2, z3, b2, fun u hu2 => by
                  obtain ⟨i, i1, i2, i3⟩ := hu2.1
                  rw [← i3] at hu2 ⊢
                  exact b3 i (by omega) i1 hu2⟩
                obtain ⟨j7, l1, l2, l3⟩ := b2.1
                have e7 : (j7 : Int) = v7 := to.inj j7 v7 (by omega) l1 (by omega) (by omega) l3
                refine ⟨fun c3 => ⟨ii (by omega), ?_⟩, fun c3 => ⟨ib (by omega), ?_⟩⟩
                · have eo := ior1 (N := N) (i := v7) (p := p.toNat) hN (by omega) (by omega) (by omega)
                  rw [← e7, Int.toNat_natCast] at eo
                  rw [← e7, eo]
                  have hN' := or_lt (p := p.toNat) (i := j7) hN (by omega)
                  refine ih (N ||| 1 <<< j7) j7 (v6 + 1) hN' (by omega) (by omega) (by omega) (by omega) (by omega) ?_ ?_ (fun x hx => on x ?_)
                  · have q7 := (rm (N ||| 1 <<< j7) (by omega) hN' j7 (by omega) (by omega)).1
                    rw [← sO_less to.inj l1, show lwd t.2 p j7 = t.2 j7 from if_neg (by omega), l3] at q7
                    rcases q7 with ⟨w1, w2⟩ | ⟨w1, -, -⟩
                    · obtain ⟨-, -, z, hz, -⟩ := b2
                      exact absurd hz (w2 z)
                    · exact w1
                  · have := cnt_flip (P := outB N) (P' := outB (N ||| 1 <<< j7)) p.toNat j7 (by omega) (by omega) (fun j hj => by rw [show j = j7 by omega]; exact l2) (fun z => z j7 rfl (bit_or_test.mpr (Or.inr rfl))) (fun v hv => ⟨fun z j hj y => (bit_or_test.mp y).elim (z j hj) (fun w => hv (by omega)), fun z j hj y => z j hj (bit_or_test.mpr (Or.inl y))⟩)
                    omega
                  · rw [hx, show (q - v6).toNat = (q - (v6 + 1)).toNat + 1 by omega]
                    show _ = rowAt _ _ (less _ (nx _ _ _)) (nx _ _ _)
                    rw [hnx, ← l3, sO_less to.inj l1, show lwd t.2 p j7 = t.2 j7 from if_neg (by omega)]
                · rw [tl3 v7 (by omega) (by omega)]
                  refine on _ ?_
                  rw [show (q - v6).toNat = 0 by omega]
                  exact hnx.symm
          · have ev : v8 = ((v8.toNat : Nat) : Int) := by omega
            have more : ∀ v7', ((v7' = -1 ∧ ∀ i, 0 ≤ i → i < v8 + 1 → ¬ Cd (eW g lw) (sO t.2 p N) (lwd t.2 p v5) (t.2 i) (h3.1 89 (13 * N + v5))) ∨ ((0 ≤ v7' ∧ v7' < v8 + 1) ∧ Cd (eW g lw) (sO t.2 p N) (lwd t.2 p v5) (t.2 v7') (h3.1 89 (13 * N + v5)) ∧ ∀ i, 0 ≤ i → i < v8 + 1 → Cd (eW g lw) (sO t.2 p N) (lwd t.2 p v5) (t.2 i) (h3.1 89 (13 * N + v5)) → t.2 v7' ≤ t.2 i)) → inI (v8 + 1) ∧ A_M_row_97 5 K p q N v5 v6 v7' (v8 + 1) h3 := fun v7' hb => ⟨ii (by omega), ih2 v7' (v8 + 1) (by omega) (by omega) (by omega) hb⟩
            have skip : ¬ Cd (eW g lw) (sO t.2 p N) (lwd t.2 p v5) (t.2 v8) (h3.1 89 (13 * N + v5)) → inI (v8 + 1) ∧ A_M_row_97 5 K p q N v5 v6 v7 (v8 + 1) h3 := fun hn => more v7 (by
              rcases b with ⟨b1, b2⟩ | ⟨b1, b2, b3⟩
              · refine Or.inl ⟨b1, fun i y0 y1 => ?_⟩
                by_cases z : i = v8
                · rw [z]; exact hn
                · exact b2 i y0 (by omega)
              · refine Or.inr ⟨by omega, b2, fun i y0 y1 hc2 => ?_⟩
                by_cases z : i = v8
                · rw [z] at hc2; exact absurd hc2 hn
                · exact b3 i y0 (by omega) hc2)
            have go := mRowBy (d := 5) (K := fun r4 h3 => inI (13 * (N : Int)) ∧ (inI ((13 * (N : Int)) + v5) ∧ (inb ((13 * (N : Int)) + v5) 53248 ∧ ((r4 ≠ (h3.1 89 ((13 * (N : Int)) + v5)) → (inI (v8 + 1) ∧ A_M_row_97 5 K p q N v5 v6 v7 (v8 + 1) h3)) ∧ (r4 = (h3.1 89 ((13 * (N : Int)) + v5)) → (((iand (ishr N v8) 1) ≠ 0 → (inI (v8 + 1) ∧ A_M_row_97 5 K p q N v5 v6 v7 (v8 + 1) h3)) ∧ ((iand (ishr N v8) 1) = 0 → ((v7 = (-1) → (inI (v8 + 1) ∧ A_M_row_97 5 K p q N v5 v6 v8 (v8 + 1) h3)) ∧ (v7 ≠ (-1) → (inb v8 14 ∧ (inb v7 14 ∧ (((h3.1 88 v7) ≤ (h3.1 88 v8) → (inI (v8 + 1) ∧ A_M_row_97 5 K p q N v5 v6 v7 (v8 + 1) h3)) ∧ ((h3.1 88 v8) < (h3.1 88 v7) → (inI (v8 + 1) ∧ A_M_row_97 5 K p q N v5 v6 v8 (v8 + 1) h3)))))))))))))) (by decide) r3 l3 (by omega) rfl hN to tl3 (fun N' n1 n2 => rm N' (by omega) n2) x1 x2 (i := v8.toNat) (by omega) (fun v hv vb vc => ?_)
            · rw [← ev] at go
              exact go
            · have hg := hv.good hu rN.1 hlt
              rw [← ev] at hg
              refine ⟨ii (by omega), ii (by omega), ib (by omega), fun hne => skip (fun z => hne (hg.mpr z)), fun heq => ?_⟩
              have hcd := hg.mp heq
              have hbit : ¬ N.testBit v8.toNat = true := (vc (by omega)).2
              rw [ibit (by omega) y1 (by omega), if_neg hbit]
              refine ⟨fun z => absurd rfl z, fun _ => ⟨fun z => more v8 (Or.inr ⟨by omega, hcd, fun i w0 w1 hc2 => ?_⟩), fun z => ?_⟩⟩
              · by_cases w : i = v8
                · rw [w]; exact Int.le_refl _
                · rcases b with ⟨b1, b2⟩ | ⟨b1, b2, b3⟩
                  · exact absurd hc2 (b2 i w0 (by omega))
                  · omega
              · rcases b with ⟨b1, b2⟩ | ⟨b1, b2, b3⟩
                · exact absurd b1 z
                · rw [tl3 v7 (by omega) (by omega), tl3 v8 y1 c2]
                  refine ⟨ib (by omega), ib (by omega), fun hle => more v7 (Or.inr ⟨by omega, b2, fun i w0 w1 hc2 => ?_⟩), fun hgt => more v8 (Or.inr ⟨by omega, hcd, fun i w0 w1 hc2 => ?_⟩)⟩
                  · by_cases w : i = v8
                    · rw [w]; exact hle
                    · exact b3 i w0 (by omega) hc2
                  · by_cases w : i = v8
                    · rw [w]; exact Int.le_refl _
                    · have := b3 i w0 (by omega) hc2; omega
      exact inner (p.toNat + 1) (-1) 0 (by decide) (by omega) (by omega) (Or.inl ⟨rfl, fun i i0 i1 => by omega⟩)
  refine ⟨ib (by omega), fun c2 => ⟨fun c3 => ?_, fun c3 => fin _ ?_⟩, fun c2 => fin _ (Or.inl ⟨?_, rfl⟩)⟩
  · refine loop (q.toNat + 1) 0 p 0 (Nat.two_pow_pos _) (by omega) (Int.le_refl _) (by decide) (by omega) (by omega) (by rw [show 13 * ((0 : Nat) : Int) + p = p by omega]; exact c2) ?_ (fun x hx => fin x ?_)
    · rw [cnt_all (P := outB 0) p.toNat (fun v v0 v1 j hj => by rw [Nat.zero_testBit]; decide)]; omega
    · rcases rm0.1 with ⟨z1, z2⟩ | ⟨z1, z2, z3⟩
      · omega
      · exact Or.inr ⟨⟨_, z2, z3, fun z => absurd z c3⟩, fun _ => by rw [hx, el, show q - 0 = q by omega]⟩
  · rcases rm0.1 with ⟨z1, z2⟩ | ⟨z1, z2, z3⟩
    · omega
    · exact Or.inr ⟨⟨_, z2, z3, fun _ => rfl⟩, fun z => absurd c3 z⟩
  · rcases rm0.1 with ⟨z1, z2⟩ | ⟨z1, z2, z3⟩
    · exact z2
    · omega
end MR

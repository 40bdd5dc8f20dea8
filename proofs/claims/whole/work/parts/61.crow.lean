/-! the class: row -/
theorem iushr_n {N s : Nat} (hN : N < 2147483648) (hs : s < 32) : iushr (N : Int) (s : Int) = ((N >>> s : Nat) : Int) := by
  unfold iushr
  have h := iushr_nat (N : Int) hs
  have e : ((N : Int) % 4294967296).toNat = N := by omega
  rw [e] at h
  rw [tI _ h (Nat.lt_of_le_of_lt (Nat.div_le_self _ _) hN), Nat.shiftRight_eq_div_pow]
theorem ibitu {N : Nat} {i : Int} (hN : N < 2147483648) (i0 : 0 ≤ i) (i1 : i < 32) : iand (iushr (N : Int) i) 1 = if N.testBit i.toNat = true then 1 else 0 := by
  rw [← ibit hN i0 i1]
  have h1 := iushr_n (N := N) (s := i.toNat) hN (by omega)
  have h2 := ishr_nat (a := N) (s := i.toNat) hN (by omega)
  rw [Int.toNat_of_nonneg i0] at h1 h2
  rw [h1, h2]
theorem ix_lt {p n i j : Int} (j1 : j < p) (i1 : i < n) (p0 : 0 ≤ p) : i * p + j < n * p := by
  have h1 : (i + 1) * p ≤ n * p := Int.mul_le_mul_of_nonneg_right (by omega) p0
  rw [Int.add_mul, Int.one_mul] at h1
  omega
theorem ix_nn {p i j : Int} (i0 : 0 ≤ i) (p0 : 0 ≤ p) (j0 : 0 ≤ j) : 0 ≤ i * p ∧ 0 ≤ i * p + j := by
  have h1 : 0 ≤ i * p := Int.mul_nonneg i0 p0
  omega
theorem ix_ne {p i j i' j' : Int} (j0 : 0 ≤ j) (j1 : j < p) (k0 : 0 ≤ j') (k1 : j' < p) (h : ¬ (i = i' ∧ j = j')) : i * p + j ≠ i' * p + j' := by
  intro q
  rcases Int.lt_trichotomy i i' with z | z | z
  · have h1 : (i + 1) * p ≤ i' * p := Int.mul_le_mul_of_nonneg_right (by omega) (by omega)
    rw [Int.add_mul, Int.one_mul] at h1
    omega
  · subst z; exact h ⟨rfl, by omega⟩
  · have h1 : (i' + 1) * p ≤ i * p := Int.mul_le_mul_of_nonneg_right (by omega) (by omega)
    rw [Int.add_mul, Int.one_mul] at h1
    omega
theorem MinI.skip {e : Int → Int → Int} {S T T' : Int → Prop} {B a x w : Int} (m : MinI e S T B a x) (hn : ∀ y, ¬ Cd e S a w y) (hT : ∀ u, T' u → T u ∨ u = w) : MinI e S T' B a x := by
  have h1 := m.step (v := B) (Or.inl ⟨Int.le_refl _, hn⟩) hT
  have h2 := m.le
  rwa [show min x B = x by omega] at h1
def SortQ (f : Int → Int) (p : Int) (q : Int → Int) : Prop := (∀ i, 0 ≤ i → i < p → ∃ j, 0 ≤ j ∧ j < p ∧ q i = f j) ∧ (∀ j, 0 ≤ j → j < p → ∃ i, 0 ≤ i ∧ i < p ∧ q i = f j) ∧ ∀ i j, 0 ≤ i → i < j → j < p → q i < q j
section CR
variable {d : Nat} {g : G} {lw : LW} {h : AH} {K : Int → AH → Prop}
theorem cSortList (hd : 0 < d) {p : Int} {f : Int → Int} (p0 : 0 ≤ p) (p1 : p ≤ 14) (e10 : h.1 10 10 = p) (inj : InjT f p) (tl : ∀ i, 0 ≤ i → i < p → h.1 48 i = f i) (k : ∀ h' q, SortQ f p q → (∀ i, 0 ≤ i → i < p → h'.1 48 i = q i) → Fr [48] [] h h' → K 0 h') : Call d M_Told_sortList [vR 10 (-1)] h K := by
  refine c_Told_sortList 0 hd ?_
  have outer : ∀ m : Nat, ∀ (v1 : Int) (hh : AH), 0 ≤ v1 → v1 ≤ max 1 p → max 1 p - v1 < m → Fr [48] [] h hh → (∀ i, 0 ≤ i → i < v1 → i < p → ∃ j, 0 ≤ j ∧ j < v1 ∧ j < p ∧ hh.1 48 i = f j) → (∀ j, 0 ≤ j → j < v1 → j < p → ∃ i, 0 ≤ i ∧ i < v1 ∧ i < p ∧ hh.1 48 i = f j) → (∀ i j, 0 ≤ i → i < j → j < v1 → j < p → hh.1 48 i < hh.1 48 j) → (∀ i, v1 ≤ i → i < p → hh.1 48 i = f i) → A_Told_sortList_2 0 K v1 hh := by
    intro m
    induction m with
    | zero => intro v1 hh x1 x2 e; omega
    | succ m ih =>
      intro v1 hh x1 x2 e fr t1 t2 t3 t4
      refine s_Told_sortList_2 ?_
      rw [fr.i 10, e10]
      refine ⟨fun c => k hh (fun i => hh.1 48 i) ⟨fun i i0 i1 => ?_, fun j j0 j1 => ?_, fun i j i0 i1 i2 => t3 i j i0 i1 (by omega) i2⟩ (fun i i0 i1 => rfl) fr, fun c => ⟨ib (by omega), ?_⟩⟩
      · obtain ⟨j, j0, _, j2, j3⟩ := t1 i i0 (by omega) i1
        exact ⟨j, j0, j2, j3⟩
      · obtain ⟨i, i0, _, i2, i3⟩ := t2 j j0 (by omega) j1
        exact ⟨i, i0, i2, i3⟩
      · rw [t4 v1 (Int.le_refl _) c]
        have inner : ∀ m : Nat, ∀ (v3 : Int) (h3 : AH), 0 ≤ v3 → v3 ≤ v1 → v3 < m → Fr [48] [] h h3 → (∀ i, 0 ≤ i → i < v3 → h3.1 48 i = hh.1 48 i) → (∀ i, v3 < i → i ≤ v1 → h3.1 48 i = hh.1 48 (i - 1) ∧ f v1 < hh.1 48 (i - 1)) → (∀ i, v1 < i → i < p → h3.1 48 i = f i) → A_Told_sortList_19 0 K v1 (f v1) v3 h3 := by
          intro m
          induction m with
          | zero => intro v3 h3 y1 y2 e; omega
          | succ m ih2 =>
            intro v3 h3 y1 y2 e2 f3 s1 s2 s3
            have put : (∀ i, 0 ≤ i → i < v3 → hh.1 48 i < f v1) → A_Told_sortList_55 0 K v1 (f v1) v3 h3 := by
              intro lt
              refine s_Told_sortList_55 ⟨ib (by omega), ii (by omega), ih (v1 + 1) _ (by omega) (by omega) (by omega) (f3.trans (Fr.wI (Or.inl (by decide)))) (fun i i0 i1 i2 => ?_) (fun j j0 j1 j2 => ?_) (fun i j i0 i1 i2 i3 => ?_) (fun i i0 i1 => by rw [rI_nk (by omega)]; exact s3 i (by omega) i1)⟩
              · by_cases z : i = v3
                · rw [z, rI_eq]; exact ⟨v1, x1, by omega, c, rfl⟩
                · rw [rI_nk z]
                  by_cases y : i < v3
                  · rw [s1 i i0 y]
                    obtain ⟨j, a, b, b2, b3⟩ := t1 i i0 (by omega) i2
                    exact ⟨j, a, by omega, b2, b3⟩
                  · rw [(s2 i (by omega) (by omega)).1]
                    obtain ⟨j, a, b, b2, b3⟩ := t1 (i - 1) (by omega) (by omega) (by omega)
                    exact ⟨j, a, by omega, b2, b3⟩
              · by_cases z : j = v1
                · rw [z]; exact ⟨v3, y1, by omega, by omega, rI_eq⟩
                · obtain ⟨i, a, b, b2, b3⟩ := t2 j j0 (by omega) j2
                  by_cases y : i < v3
                  · exact ⟨i, a, by omega, b2, by rw [rI_nk (by omega), s1 i a y]; exact b3⟩
                  · exact ⟨i + 1, by omega, by omega, by omega, by rw [rI_nk (by omega), (s2 (i + 1) (by omega) (by omega)).1, show i + 1 - 1 = i by omega]; exact b3⟩
              · by_cases z : i = v3
                · rw [z, rI_eq, rI_nk (by omega)]
                  have := s2 j (by omega) (by omega)
                  rw [this.1]; exact this.2
                · rw [rI_nk z]
                  by_cases y : i < v3
                  · rw [s1 i i0 y]
                    by_cases w : j = v3
                    · rw [w, rI_eq]; exact lt i i0 y
                    · rw [rI_nk w]
                      by_cases u : j < v3
                      · rw [s1 j (by omega) u]; exact t3 i j i0 i1 (by omega) (by omega)
                      · have := s2 j (by omega) (by omega)
                        have := lt i i0 y
                        omega
                  · have q1 := s2 i (by omega) (by omega)
                    have q2 := s2 j (by omega) (by omega)
                    rw [rI_nk (by omega), q1.1, q2.1]
                    exact t3 (i - 1) (j - 1) (by omega) (by omega) (by omega) (by omega)
            refine s_Told_sortList_19 ⟨fun c2 => put (fun i i0 i1 => by omega), fun c2 => ⟨ii (by omega), ib (by omega), ?_⟩⟩
            rw [s1 (v3 - 1) (by omega) (by omega)]
            refine ⟨fun c3 => put (fun i i0 i1 => ?_), fun c3 => ⟨ib (by omega), ih2 (v3 - 1) _ (by omega) (by omega) (by omega) (f3.trans (Fr.wI (Or.inl (by decide)))) (fun i i0 i1 => by rw [rI_nk (by omega)]; exact s1 i i0 (by omega)) (fun i i0 i1 => ?_) (fun i i0 i1 => by rw [rI_nk (by omega)]; exact s3 i i0 i1)⟩⟩
            · obtain ⟨j, a, b, b2, b3⟩ := t1 (v3 - 1) (by omega) (by omega) (by omega)
              have hne : hh.1 48 (v3 - 1) ≠ f v1 := fun z => by
                have := inj j v1 a b2 x1 c (by rw [← b3, z])
                omega
              by_cases w : i = v3 - 1
              · rw [w]; omega
              · have := t3 i (v3 - 1) i0 (by omega) (by omega) (by omega)
                omega
            · by_cases z : i = v3
              · rw [z, rI_eq]; exact ⟨rfl, c3⟩
              · rw [rI_nk z]; exact s2 i (by omega) i1
        exact inner (v1.toNat + 1) v1 hh x1 (Int.le_refl _) (by omega) fr (fun i i0 i1 => rfl) (fun i i0 i1 => by omega) (fun i i0 i1 => t4 i (by omega) i1)
  refine outer (p.toNat + 2) 1 h (by decide) (by omega) (by omega) Fr.refl (fun i i0 i1 i2 => ⟨i, i0, i1, i2, tl i i0 i2⟩) (fun j j0 j1 j2 => ⟨j, j0, j1, j2, tl j j0 j2⟩) (fun i j i0 i1 i2 => by omega) (fun i i0 i1 => tl i (by omega) i1)
end CR
theorem SortQ.inj {f : Int → Int} {p : Int} {q : Int → Int} (s : SortQ f p q) : InjT q p := fun i j i0 i1 j0 j1 h => by
  rcases Int.lt_trichotomy i j with z | z | z
  · have := s.2.2 i j i0 z j1; omega
  · exact z
  · have := s.2.2 j i j0 z i1; omega
theorem SortQ.set {f : Int → Int} {p : Int} {q : Int → Int} (s : SortQ f p q) : sO q p 0 = sO f p 0 := by
  funext w
  apply propext
  constructor
  · rintro ⟨i, i1, _, rfl⟩
    obtain ⟨j, j0, j1, e⟩ := s.1 i (by omega) i1
    exact ⟨j.toNat, by omega, by rw [Nat.zero_testBit]; decide, by rw [e, Int.toNat_of_nonneg j0]⟩
  · rintro ⟨j, j1, _, rfl⟩
    obtain ⟨i, i0, i1, e⟩ := s.2.1 j (by omega) j1
    exact ⟨i.toNat, by omega, by rw [Nat.zero_testBit]; decide, by rw [← e, Int.toNat_of_nonneg i0]⟩

/-! rows through all of a set of words. e a b: what the step costs (0: there is none); behind -1 any word may begin -/
def chn (e : Int → Int → Int) : Int → List Int → Prop
  | _, [] => True
  | a, w :: l => (a = -1 ∨ e a w ≠ 0) ∧ chn e w l
def co (e : Int → Int → Int) (a w : Int) : Int := if a = -1 then 0 else e a w
def rco (e : Int → Int → Int) : Int → List Int → Int
  | _, [] => 0
  | a, w :: l => co e a w + rco e w l
def less (S : Int → Prop) (w : Int) : Int → Prop := fun v => S v ∧ v ≠ w
def Row (e : Int → Int → Int) (S : Int → Prop) (a y : Int) : Prop := ∃ l : List Int, l.Nodup ∧ (∀ w, w ∈ l ↔ S w) ∧ chn e a l ∧ y = rco e a l
section RWS
variable {e : Int → Int → Int} {S T T' : Int → Prop} {a w x y z v B : Int}
theorem Row.nil (h : ∀ w, ¬ S w) : Row e S a y ↔ y = 0 := by
  constructor
  · rintro ⟨l, h1, h2, h3, h4⟩
    cases l with
    | nil => exact h4
    | cons w l => exact absurd ((h2 w).mp List.mem_cons_self) (h w)
  · rintro rfl
    exact ⟨[], List.nodup_nil, fun w => ⟨fun z => (by cases z), fun z => absurd z (h w)⟩, trivial, rfl⟩
/-- y is the cost of a row that goes on to w -/
def Cd (e : Int → Int → Int) (S : Int → Prop) (a w y : Int) : Prop := S w ∧ (a = -1 ∨ e a w ≠ 0) ∧ ∃ z, Row e (less S w) w z ∧ y = co e a w + z
theorem Row.cons {u : Int} (h : S u) : Row e S a y ↔ ∃ w, Cd e S a w y := by
  constructor
  · rintro ⟨l, h1, h2, h3, h4⟩
    cases l with
    | nil => exact absurd ((h2 u).mpr h) List.not_mem_nil
    | cons w l =>
      have h5 := List.nodup_cons.mp h1
      refine ⟨w, (h2 w).mp List.mem_cons_self, h3.1, rco e w l, ⟨l, h5.2, fun v => ⟨fun z => ⟨(h2 v).mp (List.mem_cons_of_mem _ z), fun q => h5.1 (q ▸ z)⟩, fun z => ?_⟩, h3.2, rfl⟩, h4⟩
      rcases List.mem_cons.mp ((h2 v).mpr z.1) with q | q
      · exact absurd q z.2
      · exact q
  · rintro ⟨w, h1, h2, z, ⟨l, l1, l2, l3, l4⟩, h3⟩
    refine ⟨w :: l, List.nodup_cons.mpr ⟨fun q => ((l2 w).mp q).2 rfl, l1⟩, fun v => ⟨fun q => ?_, fun q => ?_⟩, ⟨h2, l3⟩, by rw [h3, l4]; rfl⟩
    · rcases List.mem_cons.mp q with q | q
      · rw [q]; exact h1
      · exact ((l2 v).mp q).1
    · by_cases x : v = w
      · rw [x]; exact List.mem_cons_self
      · exact List.mem_cons_of_mem _ ((l2 v).mpr ⟨q, x⟩)
/-- the least of them; B: there is none -/
def RowL (e : Int → Int → Int) (S : Int → Prop) (B a x : Int) : Prop := (x = B ∧ ∀ y, ¬ Row e S a y) ∨ (x < B ∧ Row e S a x ∧ ∀ y, Row e S a y → x ≤ y)
/-- v: the least of those that go on to w; B and more: there is none -/
def ValI (e : Int → Int → Int) (S : Int → Prop) (B a w v : Int) : Prop := (B ≤ v ∧ ∀ y, ¬ Cd e S a w y) ∨ (v < B ∧ Cd e S a w v ∧ ∀ y, Cd e S a w y → v ≤ y)
/-- x: the least of those that go on to words of T -/
def MinI (e : Int → Int → Int) (S T : Int → Prop) (B a x : Int) : Prop := (x = B ∧ ∀ w y, T w → ¬ Cd e S a w y) ∨ (x < B ∧ (∃ w, Cd e S a w x) ∧ ∀ w y, T w → Cd e S a w y → x ≤ y)
theorem MinI.le (m : MinI e S T B a x) : x ≤ B := by
  rcases m with m | m
  · have := m.1; omega
  · have := m.1; omega
theorem MinI.start (hT : ∀ w, ¬ T w) : MinI e S T B a B := Or.inl ⟨rfl, fun w y t => absurd t (hT w)⟩
theorem MinI.step (m : MinI e S T B a x) (t : ValI e S B a w v) (hT : ∀ u, T' u → T u ∨ u = w) : MinI e S T' B a (min x v) := by
  rcases m with ⟨rfl, m2⟩ | ⟨m1, m2, m3⟩
  · rcases t with ⟨t1, t2⟩ | ⟨t1, t2, t3⟩
    · refine Or.inl ⟨by omega, fun u y hu => ?_⟩
      rcases hT u hu with q | q
      · exact m2 u y q
      · rw [q]; exact t2 y
    · refine Or.inr ⟨by omega, ⟨w, by rw [show min x v = v by omega]; exact t2⟩, fun u y hu hc => ?_⟩
      rcases hT u hu with q | q
      · exact absurd hc (m2 u y q)
      · rw [q] at hc
        have := t3 y hc
        omega
  · rcases t with ⟨t1, t2⟩ | ⟨t1, t2, t3⟩
    · refine Or.inr ⟨by omega, by rw [show min x v = x by omega]; exact m2, fun u y hu hc => ?_⟩
      rcases hT u hu with q | q
      · have := m3 u y q hc; omega
      · rw [q] at hc; exact absurd hc (t2 y)
    · refine Or.inr ⟨by omega, ?_, fun u y hu hc => ?_⟩
      · by_cases hl : x ≤ v
        · rw [show min x v = x by omega]; exact m2
        · rw [show min x v = v by omega]; exact ⟨w, t2⟩
      · rcases hT u hu with q | q
        · have := m3 u y q hc; omega
        · rw [q] at hc
          have := t3 y hc
          omega
theorem MinI.done {u : Int} (m : MinI e S T B a x) (hT : ∀ w, S w → T w) (hu : S u) : RowL e S B a x := by
  rcases m with ⟨m1, m2⟩ | ⟨m1, m2, m3⟩
  · refine Or.inl ⟨m1, fun y hy => ?_⟩
    obtain ⟨w, hw⟩ := (Row.cons hu).mp hy
    exact m2 w y (hT w hw.1) hw
  · refine Or.inr ⟨m1, (Row.cons hu).mpr m2, fun y hy => ?_⟩
    obtain ⟨w, hw⟩ := (Row.cons hu).mp hy
    exact m3 w y (hT w hw.1) hw
theorem RowL.val (r : RowL e (less S w) B w z) (hS : S w) (ha : a = -1 ∨ e a w ≠ 0) (h1 : z = B → B ≤ v) (h2 : z < B → v = co e a w + z) (h3 : z < B → v < B) : ValI e S B a w v := by
  rcases r with ⟨r1, r2⟩ | ⟨r1, r2, r3⟩
  · refine Or.inl ⟨h1 r1, fun y hy => ?_⟩
    obtain ⟨-, -, q, hq, -⟩ := hy
    exact r2 q hq
  · refine Or.inr ⟨h3 r1, ⟨hS, ha, z, r2, h2 r1⟩, fun y hy => ?_⟩
    obtain ⟨-, -, q, hq, hy⟩ := hy
    have := r3 q hq
    rw [h2 r1, hy]
    omega
theorem ValI.not (h : ¬ (S w ∧ (a = -1 ∨ e a w ≠ 0))) (hv : B ≤ v) : ValI e S B a w v := Or.inl ⟨hv, fun y hy => h ⟨hy.1, hy.2.1⟩⟩
/-- the least rows are those whose value is x -/
theorem ValI.good {u : Int} (hu : S u) (r : RowL e S B a x) (hx : x < B) (t : ValI e S B a w v) : v = x ↔ Cd e S a w x := by
  rcases r with ⟨r1, r2⟩ | ⟨r1, r2, r3⟩
  · omega
  · rcases t with ⟨t1, t2⟩ | ⟨t1, t2, t3⟩
    · exact ⟨fun q => by omega, fun q => absurd q (t2 x)⟩
    · refine ⟨fun q => by rw [← q]; exact t2, fun q => ?_⟩
      have h1 := t3 x q
      have h2 := r3 v ((Row.cons hu).mpr ⟨w, t2⟩)
      omega
/-- the lowest word that a least row behind a goes on to -/
def NX (e : Int → Int → Int) (S : Int → Prop) (a w : Int) : Prop := ∃ x, Row e S a x ∧ (∀ y, Row e S a y → x ≤ y) ∧ Cd e S a w x ∧ ∀ u, Cd e S a u x → w ≤ u
theorem NX.uniq {w' : Int} (h : NX e S a w) (k : NX e S a w') : w = w' := by
  obtain ⟨x, h1, h2, h3, h4⟩ := h
  obtain ⟨x', k1, k2, k3, k4⟩ := k
  have e1 : x = x' := by
    have := h2 x' k1
    have := k2 x h1
    omega
  subst e1
  have := h4 w' k3
  have := k4 w h3
  omega
end RWS
noncomputable def nx (e : Int → Int → Int) (S : Int → Prop) (a : Int) : Int := @dite _ (∃ w, NX e S a w) (Classical.propDecidable _) (fun hx => Classical.choose hx) (fun _ => -1)
theorem nx_of {e : Int → Int → Int} {S : Int → Prop} {a w : Int} (h : NX e S a w) : nx e S a = w := by
  have hx : ∃ w, NX e S a w := ⟨w, h⟩
  unfold nx
  rw [dif_pos hx]
  exact (Classical.choose_spec hx).uniq h
/-- the word at place k of the first of the least rows -/
noncomputable def rowAt (e : Int → Int → Int) : Nat → (Int → Prop) → Int → Int
  | 0, S, a => nx e S a
  | k + 1, S, a => rowAt e k (less S (nx e S a)) (nx e S a)
/-- the cost of the least row; -2: there is none -/
def RowC (e : Int → Int → Int) (S : Int → Prop) (x : Int) : Prop := (x = -2 ∧ ∀ y, ¬ Row e S (-1) y) ∨ (Row e S (-1) x ∧ ∀ y, Row e S (-1) y → x ≤ y)
/-- r is the answer of row -/
def RowA (e : Int → Int → Int) (S : Int → Prop) (q r : Int) : Prop := ((∀ y, ¬ Row e S (-1) y) ∧ r = -2) ∨ ((∃ x, Row e S (-1) x ∧ (∀ y, Row e S (-1) y → x ≤ y) ∧ (q = -1 → r = x)) ∧ (q ≠ -1 → r = rowAt e q.toNat S (-1)))
theorem RowA.uniq {e : Int → Int → Int} {S : Int → Prop} {q r r' : Int} (h : RowA e S q r) (k : RowA e S q r') : r = r' := by
  rcases h with ⟨h1, h2⟩ | ⟨⟨x, h1, h2, h3⟩, h4⟩
  · rcases k with ⟨k1, k2⟩ | ⟨⟨y, k1, k2, k3⟩, k4⟩
    · omega
    · exact absurd k1 (h1 y)
  · rcases k with ⟨k1, k2⟩ | ⟨⟨y, k1, k2, k3⟩, k4⟩
    · exact absurd h1 (k1 x)
    · by_cases hq : q = -1
      · have := h2 y k1
        have := k2 x h1
        rw [h3 hq, k3 hq]
        omega
      · rw [h4 hq, k4 hq]
/-! sets of told words, by the bits of their places that are no longer in them -/
def sO (f : Int → Int) (p : Int) (N : Nat) : Int → Prop := fun w => ∃ i : Nat, (i : Int) < p ∧ ¬ N.testBit i = true ∧ f i = w
def InjT (f : Int → Int) (p : Int) : Prop := ∀ i j, 0 ≤ i → i < p → 0 ≤ j → j < p → f i = f j → i = j
theorem ToldOk.inj {g : G} {f : Int → Int} {p : Int} (t : ToldOk g f p) : InjT f p := fun i j i0 i1 j0 j1 h => by
  rcases Int.lt_trichotomy i j with q | q | q
  · exact absurd h ((t j j0 j1).2 i i0 q)
  · exact q
  · exact absurd h.symm ((t i i0 i1).2 j j0 q)
theorem sO_less {f : Int → Int} {p : Int} (hf : InjT f p) {N i : Nat} (hi : (i : Int) < p) : less (sO f p N) (f i) = sO f p (N ||| 1 <<< i) := by
  funext w
  apply propext
  constructor
  · rintro ⟨⟨j, j1, j2, j3⟩, h⟩
    refine ⟨j, j1, fun q => ?_, j3⟩
    rcases bit_or_test.mp q with q | q
    · exact j2 q
    · rw [q] at h; exact h j3.symm
  · rintro ⟨j, j1, j2, j3⟩
    refine ⟨⟨j, j1, fun q => j2 (bit_or_test.mpr (Or.inl q)), j3⟩, fun q => ?_⟩
    have := hf j i (by omega) j1 (by omega) hi (by rw [j3, q])
    exact j2 (bit_or_test.mpr (Or.inr (by omega)))
theorem or_lt {p N i : Nat} (hN : N < 2 ^ p) (hi : i < p) : N ||| 1 <<< i < 2 ^ p := Nat.or_lt_two_pow hN (by rw [Nat.one_shiftLeft]; exact Nat.pow_lt_pow_right (by decide) hi)
theorem or_gt {N i : Nat} (hi : ¬ N.testBit i = true) : N < N ||| 1 <<< i := by
  have h1 : N ≤ N ||| 1 <<< i := Nat.left_le_or
  rcases Nat.lt_or_eq_of_le h1 with q | q
  · exact q
  · exfalso
    apply hi
    rw [q]
    exact bit_or_test.mpr (Or.inr rfl)
theorem all_bits {p N : Nat} (hN : N < 2 ^ p) (h : ∀ i, i < p → N.testBit i = true) : N = 2 ^ p - 1 := by
  apply Nat.eq_of_testBit_eq
  intro i
  rw [Nat.testBit_two_pow_sub_one]
  by_cases hi : i < p
  · rw [h i hi]; simp [hi]
  · rw [Nat.testBit_lt_two_pow (Nat.lt_of_lt_of_le hN (Nat.pow_le_pow_right (by decide) (by omega)))]; simp [hi]
theorem all_set {p i : Nat} (hi : i < p) : (2 ^ p - 1).testBit i = true := by rw [Nat.testBit_two_pow_sub_one]; simp [hi]
theorem some_out {p N : Nat} (hN : N < 2 ^ p) (h : N ≠ 2 ^ p - 1) : ∃ i, i < p ∧ ¬ N.testBit i = true := by
  apply Classical.byContradiction
  intro hc
  exact h (all_bits hN (fun i hi => Classical.byContradiction (fun q => hc ⟨i, hi, q⟩)))
theorem pow_le_k {p : Int} (k : Nat) (p1 : p ≤ k) : 2 ^ p.toNat ≤ 2 ^ k := Nat.pow_le_pow_right (by decide) (by omega)
theorem ish1 {i : Int} (i0 : 0 ≤ i) (i1 : i ≤ 30) : ishl 1 i = ((1 <<< i.toNat : Nat) : Int) := by
  have h1 : (1 : Nat) <<< i.toNat ≤ 2 ^ 30 := by rw [Nat.one_shiftLeft]; exact Nat.pow_le_pow_right (by decide) (by omega)
  have h := ishl_nat (a := 1) (s := i.toNat) (by omega) (by omega)
  rw [Int.toNat_of_nonneg i0] at h
  exact h
theorem ior1 {N : Nat} {i : Int} {p : Nat} (hN : N < 2 ^ p) (hp : p ≤ 30) (i0 : 0 ≤ i) (i1 : i < p) : ior (N : Int) (ishl 1 i) = ((N ||| 1 <<< i.toNat : Nat) : Int) := by
  rw [ish1 i0 (by omega)]
  have h2 : (2 : Nat) ^ p ≤ 2 ^ 30 := Nat.pow_le_pow_right (by decide) hp
  have h1 : (1 : Nat) <<< i.toNat ≤ 2 ^ 30 := by rw [Nat.one_shiftLeft]; exact Nat.pow_le_pow_right (by decide) (by omega)
  exact ior_nat (by omega) (by omega)
theorem ibit {N : Nat} {i : Int} (hN : N < 2147483648) (i0 : 0 ≤ i) (i1 : i < 32) : iand (ishr (N : Int) i) 1 = if N.testBit i.toNat = true then 1 else 0 := by
  have h := ibit_and (U := N) hN (w := i.toNat) (by omega)
  rw [Int.toNat_of_nonneg i0] at h
  exact h

/-! the class' words -/
def gkey (g : G) (w : Int) : Nat := keyN (gt g w) (gl g w).toNat
def UsedS (g : G) (U : Nat) : Prop := U < 1099511627776 ∧ ∀ w : Nat, w < 40 → (U.testBit w = true ↔ (w : Int) < gn g ∧ us g w)
def RepW0 (g : G) (h : AH) : Prop := OkG g ∧ (h.1 2 6 = gn g ∧ h.1 2 7 = gs g) ∧ ∀ w, 0 ≤ w → w < gn g → (h.1 15 w = gl g w ∧ h.1 17 w = gk g w ∧ h.1 18 w = go g w ∧ h.1 19 w = gb g w ∧ h.2.1 16 w = (gkey g w : Int)) ∧ ∀ k, 0 ≤ k → k < gl g w → h.2.2 14 w k = gt g w k
def RepCW (g : G) (h : AH) : Prop := RepW0 g h ∧ ∃ U : Nat, UsedS g U ∧ h.2.1 2 8 = (U : Int)
theorem RepW0.fr {g : G} {L : List Nat} {F : List (Nat × Int)} {h h' : AH} (r : RepW0 g h) (f : Fr L F h h') (h1 : (∀ o ∈ [2, 14, 15, 16, 17, 18, 19], o ∉ L) := by decide) (h2 : (∀ o ∈ [14, 15, 16, 17, 18, 19], o ∉ F.map Prod.fst) := by decide) (h3 : (∀ q ∈ [((2 : Nat), (6 : Int)), (2, 7)], q ∉ F) := by decide) : RepW0 g h' := by
  obtain ⟨r0, r1, r2⟩ := r
  refine ⟨r0, ⟨?_, ?_⟩, fun w a b => ?_⟩
  · rw [f.f 2 6 (h1 2 (by decide)) (h3 _ (by decide))]; exact r1.1
  · rw [f.f 2 7 (h1 2 (by decide)) (h3 _ (by decide))]; exact r1.2
  · rw [f.i 15 (h1 _ (by decide)) (h2 _ (by decide)), f.i 17 (h1 _ (by decide)) (h2 _ (by decide)), f.i 18 (h1 _ (by decide)) (h2 _ (by decide)), f.i 19 (h1 _ (by decide)) (h2 _ (by decide)), f.l 16 (h1 _ (by decide)) (h2 _ (by decide))]
    obtain ⟨q1, q2⟩ := r2 w a b
    exact ⟨q1, fun k c e => by rw [f.r 14 (h1 _ (by decide)) (h2 _ (by decide))]; exact q2 k c e⟩
theorem RepCW.fr {g : G} {L : List Nat} {F : List (Nat × Int)} {h h' : AH} (r : RepCW g h) (f : Fr L F h h') (h1 : (∀ o ∈ [2, 14, 15, 16, 17, 18, 19], o ∉ L) := by decide) (h2 : (∀ o ∈ [14, 15, 16, 17, 18, 19], o ∉ F.map Prod.fst) := by decide) (h3 : (∀ q ∈ [((2 : Nat), (6 : Int)), (2, 7), (2, 8)], q ∉ F) := by decide) : RepCW g h' := by
  obtain ⟨r0, U, u1, u2⟩ := r
  refine ⟨r0.fr f h1 h2 (fun q hq => h3 q (by simp at hq ⊢; rcases hq with z | z <;> simp [z])), U, u1, ?_⟩
  rw [f.fl 2 8 (h1 2 (by decide)) (h3 _ (by decide))]
  exact u2
theorem RepCW.ok {g : G} {h : AH} (r : RepCW g h) : OkG g := r.1.1
theorem RepCW.n {g : G} {h : AH} (r : RepCW g h) : h.1 2 6 = gn g := r.1.2.1.1
theorem RepCW.s {g : G} {h : AH} (r : RepCW g h) : h.1 2 7 = gs g := r.1.2.1.2
theorem RepW0.l {g : G} {h : AH} (r : RepW0 g h) {w : Int} (h0 : 0 ≤ w) (h1 : w < gn g) : h.1 15 w = gl g w := (r.2.2 w h0 h1).1.1
theorem RepW0.k {g : G} {h : AH} (r : RepW0 g h) {w : Int} (h0 : 0 ≤ w) (h1 : w < gn g) : h.1 17 w = gk g w := (r.2.2 w h0 h1).1.2.1
theorem RepW0.o {g : G} {h : AH} (r : RepW0 g h) {w : Int} (h0 : 0 ≤ w) (h1 : w < gn g) : h.1 18 w = go g w := (r.2.2 w h0 h1).1.2.2.1
theorem RepW0.b {g : G} {h : AH} (r : RepW0 g h) {w : Int} (h0 : 0 ≤ w) (h1 : w < gn g) : h.1 19 w = gb g w := (r.2.2 w h0 h1).1.2.2.2.1
theorem RepW0.key {g : G} {h : AH} (r : RepW0 g h) {w : Int} (h0 : 0 ≤ w) (h1 : w < gn g) : h.2.1 16 w = (gkey g w : Int) := (r.2.2 w h0 h1).1.2.2.2.2
theorem RepW0.t {g : G} {h : AH} (r : RepW0 g h) {w k : Int} (h0 : 0 ≤ w) (h1 : w < gn g) (k0 : 0 ≤ k) (k1 : k < gl g w) : h.2.2 14 w k = gt g w k := (r.2.2 w h0 h1).2 k k0 k1
theorem us_heard : ∀ t : Fin 16, ∀ s : Fin 4, ((t.val &&& (1 <<< s.val)) ≠ 0 ↔ (t.val >>> s.val) &&& 1 = 1) := by decide
theorem us_all : ∀ t : Fin 16, t.val ≠ 0 → (t.val &&& 15) ≠ 0 := by decide
theorem us_iff {g : G} (r : OkG g) {w : Int} (h0 : 0 ≤ w) (h1 : w < gn g) (hb : gb g w = 0) : iand (go g w) (if gs g = -1 then (15 : Int) else ishl 1 (gs g)) ≠ 0 ↔ us g w := by
  have ob := r.ob h0 h1
  have sb := r.sb
  obtain ⟨t, ht⟩ : ∃ t : Nat, go g w = (t : Int) := ⟨(go g w).toNat, by omega⟩
  have ht16 : t < 16 := by omega
  unfold us
  rw [ht]
  by_cases hs : gs g = -1
  · rw [if_pos hs]
    have e := us_all ⟨t, ht16⟩ (by show t ≠ 0; omega)
    have e2 := iand_nat (a := t) (b := 15) (by omega) (by decide)
    refine ⟨fun _ => ⟨hb, Or.inl hs⟩, fun _ => ?_⟩
    show iand (t : Int) ((15 : Nat) : Int) ≠ 0
    rw [e2]
    intro z
    exact e (Int.ofNat.inj z)
  · rw [if_neg hs]
    obtain ⟨s, hs2⟩ : ∃ s : Nat, gs g = (s : Int) := ⟨(gs g).toNat, by omega⟩
    have hs4 : s < 4 := by omega
    have e := us_heard ⟨t, ht16⟩ ⟨s, hs4⟩
    rw [hs2]
    have p1 : 1 <<< s < 2147483648 := by
      have : s = 0 ∨ s = 1 ∨ s = 2 ∨ s = 3 := by omega
      rcases this with rfl | rfl | rfl | rfl <;> decide
    have e1 : ishl 1 (s : Int) = ((1 <<< s : Nat) : Int) := ishl_nat (a := 1) p1 (by omega)
    have e2 : ishr (t : Int) (s : Int) = ((t >>> s : Nat) : Int) := ishr_nat (by omega) (by omega)
    have p2 : t >>> s < 2147483648 := Nat.lt_of_le_of_lt (Nat.shiftRight_le t s) (by omega)
    have e3 : iand ((t >>> s : Nat) : Int) 1 = ((t >>> s &&& 1 : Nat) : Int) := iand_nat (b := 1) p2 (by decide)
    rw [e1, e2, e3, iand_nat (by omega) p1]
    have e4 : t &&& 1 <<< s ≠ 0 ↔ t >>> s &&& 1 = 1 := e
    constructor
    · intro z
      exact ⟨hb, Or.inr (by have := e4.mp (fun y => z (by rw [y]; rfl)); rw [this]; rfl)⟩
    · intro z y
      have y2 : t &&& 1 <<< s = 0 := by omega
      rcases z.2 with q | q
      · omega
      · exact e4.mpr (by omega) y2
section CW
variable {d : Nat} {g : G} {h : AH} {K : Int → AH → Prop}
theorem wHas0 (hd : 0 < d) {w : Int} (r : RepW0 g h) (kT : 0 ≤ w → w < gn g → K 1 h) (kF : ¬ (0 ≤ w ∧ w < gn g) → K 0 h) : Call d M_Words_has [vR 2 (-1), vI w] h K := by
  have e := r.2.1.1
  have nb := r.1.nb
  exact c_Words_has 0 hd ⟨fun c => kF (by omega), fun c => ⟨fun c2 => kF (by omega), fun c2 => ⟨fun c3 => by omega, fun c3 => kT c (by omega)⟩⟩⟩
theorem wHas (hd : 0 < d) {w : Int} (r : RepCW g h) (kT : 0 ≤ w → w < gn g → K 1 h) (kF : ¬ (0 ≤ w ∧ w < gn g) → K 0 h) : Call d M_Words_has [vR 2 (-1), vI w] h K := wHas0 hd r.1 kT kF
theorem bit_and {U : Nat} (hU : U < 1099511627776) {w : Nat} (hw : w < 64) : land (lushr (U : Int) (w : Int)) 1 = if U.testBit w = true then 1 else 0 := by
  rw [lushr_nat (by omega) hw]
  have h3 : U >>> w ≤ U := Nat.shiftRight_le U w
  have e : land ((U >>> w : Nat) : Int) 1 = ((U >>> w &&& 1 : Nat) : Int) := land_nat (b := 1) (by omega) (by decide)
  rw [e]
  have t : U.testBit w = (U >>> w &&& 1 != 0) := by unfold Nat.testBit; rw [Nat.and_comm]
  rw [t]
  have m : U >>> w &&& 1 = U >>> w % 2 := Nat.and_one_is_mod _
  rw [m]
  have : U >>> w % 2 = 0 ∨ U >>> w % 2 = 1 := by omega
  rcases this with z | z <;> rw [z] <;> rfl
theorem wIsUsed (hd : 1 < d) {w : Int} (r : RepCW g h) (kT : 0 ≤ w → w < gn g → us g w → K 1 h) (kF : ¬ (0 ≤ w ∧ w < gn g ∧ us g w) → K 0 h) : Call d M_Words_isUsed [vR 2 (-1), vI w] h K := by
  obtain ⟨r0, U, u1, u2⟩ := r
  have nb := r0.1.nb
  refine c_Words_isUsed 1 hd (wHas0 (by decide) r0 (fun a b => br1 ?_) (fun c => br0 (kF (fun z => c ⟨z.1, z.2.1⟩))))
  obtain ⟨n, hn⟩ : ∃ n : Nat, w = (n : Int) := ⟨w.toNat, by omega⟩
  rw [u2, hn, bit_and u1.1 (by omega)]
  have e := u1.2 n (by omega)
  by_cases ht : U.testBit n = true
  · rw [if_pos ht]
    exact br1 (kT a b (by rw [hn]; exact (e.mp ht).2))
  · rw [if_neg ht]
    exact br0 (kF (fun z => ht (e.mpr (by rw [← hn]; exact ⟨z.2.1, z.2.2⟩))))
theorem wHolds (hd : 0 < d) {q : Nat} (r : RepCW g h) (kT : (∃ w, 0 ≤ w ∧ w < gn g ∧ gkey g w = q) → K 1 h) (kF : (∀ w, 0 ≤ w → w < gn g → gkey g w ≠ q) → K 0 h) : Call d M_Words_holds [vR 2 (-1), vL (q : Int)] h K := by
  have nb := r.ok.nb
  refine c_Words_holds 0 hd ?_
  have key : ∀ m : Nat, ∀ v : Int, 0 ≤ v → v ≤ gn g → gn g - v < m → (∀ w, 0 ≤ w → w < v → gkey g w ≠ q) → A_Words_holds_2 0 K (q : Int) v h := by
    intro m
    induction m with
    | zero => intro v a b e; omega
    | succ m ih =>
      intro v a b e hv
      refine s_Words_holds_2 ?_
      rw [r.n]
      refine ⟨fun c => kF (fun w x y => hv w x (by omega)), fun c => ⟨ib (by omega), ?_⟩⟩
      rw [r.1.key a c]
      refine ⟨fun c3 => ⟨ii (by omega), ih (v + 1) (by omega) (by omega) (by omega) (fun w x y => ?_)⟩, fun c3 => kT ⟨v, a, c, by omega⟩⟩
      by_cases hw : w = v
      · rw [hw]; omega
      · exact hv w x (by omega)
  exact key ((gn g).toNat + 1) 0 (by omega) (by omega) (by omega) (fun w x y => by omega)
theorem wFindUsed (hd : 0 < d) (r : RepW0 g h) (ha : inI (h.1 2 9 + 1)) (k : ∀ h', RepCW g h' → h'.1 2 9 = h.1 2 9 + 1 → Fr [] [(2, 8), (2, 9)] h h' → K 0 h') : Call d M_Words_findUsed [vR 2 (-1)] h K := by
  have nb := r.1.nb
  refine c_Words_findUsed 0 hd ?_
  rw [r.2.1.2]
  have key : ∀ m : Nat, ∀ (v : Int) (hh : AH) (U : Nat), 0 ≤ v → v ≤ gn g → gn g - v < m → hh.2.1 2 8 = (U : Int) → U < 1099511627776 → (∀ w : Nat, w < 40 → (U.testBit w = true ↔ (w : Int) < v ∧ us g w)) → hh.1 2 9 = h.1 2 9 → Fr [] [(2, 8), (2, 9)] h hh → A_Words_findUsed_27 0 K (if gs g = -1 then (15 : Int) else ishl 1 (gs g)) v hh := by
    intro m
    induction m with
    | zero => intro v hh U a b e; omega
    | succ m ih =>
      intro v hh U a b e f1 f2 f3 f4 f5
      have r' := r.fr f5
      refine s_Words_findUsed_27 ?_
      rw [r'.2.1.1]
      refine ⟨fun c => ⟨by rw [f4]; exact ha, k _ ⟨r'.fr (F := [(2, 8), (2, 9)]) (L := []) (Fr.wI (Or.inr (by decide))), U, ⟨f2, fun w hw => ?_⟩, f1⟩ (by rw [rI_eq, f4]) (f5.trans (Fr.wI (Or.inr (by decide))))⟩, fun c => ⟨ib (by omega), ?_⟩⟩
      · rw [f3 w hw]
        exact ⟨fun z => ⟨by omega, z.2⟩, fun z => ⟨by omega, z.2⟩⟩
      rw [r'.b a c, r'.o a c, f1]
      obtain ⟨n, hn⟩ : ∃ n : Nat, v = (n : Int) := ⟨v.toNat, by omega⟩
      have step : ¬ us g v → ∀ w : Nat, w < 40 → (U.testBit w = true ↔ (w : Int) < v + 1 ∧ us g w) := fun hu w hw => by
        rw [f3 w hw]
        refine ⟨fun z => ⟨by omega, z.2⟩, fun z => ⟨?_, z.2⟩⟩
        rcases Int.lt_or_le (w : Int) v with y | y
        · exact y
        · exact absurd (by have : (w : Int) = v := by omega
                           rw [← this]; exact z.2) hu
      refine ⟨fun c2 => ⟨ii (by omega), ih (v + 1) hh U (by omega) (by omega) (by omega) f1 f2 (step (fun z => c2 z.1)) f4 f5⟩, fun c2 => ⟨fun c3 => ⟨ii (by omega), ih (v + 1) hh U (by omega) (by omega) (by omega) f1 f2 (step (fun z => (us_iff r.1 a c c2).mpr z c3)) f4 f5⟩, fun c3 => ⟨ii (by omega), ?_⟩⟩⟩
      have hu := (us_iff r.1 a c c2).mp c3
      have hn40 : n < 40 := by omega
      have hs := shl_le hn40
      have e1 : lshl 1 v = ((1 <<< n : Nat) : Int) := by
        rw [hn]; exact lshl_nat (a := 1) (by omega) (by omega)
      rw [e1, lor_nat (by omega) (by omega)]
      refine ih (v + 1) _ (U ||| 1 <<< n) (by omega) (by omega) (by omega) rL_eq (Nat.or_lt_two_pow (n := 40) f2 hs) (fun w hw => ?_) f4 (f5.trans (Fr.wL (Or.inr (by decide))))
      rw [Nat.testBit_or, Bool.or_eq_true, f3 w hw, Nat.one_shiftLeft, Nat.testBit_two_pow, decide_eq_true_iff]
      constructor
      · rintro (z | z)
        · exact ⟨by omega, z.2⟩
        · exact ⟨by omega, by rw [← z, ← hn]; exact hu⟩
      · intro z
        by_cases y : (w : Int) < v
        · exact Or.inl ⟨y, z.2⟩
        · exact Or.inr (by omega)
  exact key ((gn g).toNat + 1) 0 _ 0 (by omega) (by omega) (by omega) rL_eq (by decide) (fun w hw => by simp; omega) rfl (Fr.wL (Or.inr (by decide)))
end CW

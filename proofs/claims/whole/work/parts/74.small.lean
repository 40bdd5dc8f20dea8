/-! rubbed out texts, how many are used -/
theorem lor1 {N : Nat} {i : Int} (hN : N < 1099511627776) (i0 : 0 ≤ i) (i1 : i < 40) : lor (N : Int) (lshl 1 i) = ((N ||| 1 <<< i.toNat : Nat) : Int) ∧ N ||| 1 <<< i.toNat < 1099511627776 := by
  have h := bit_or hN (w := i.toNat) (by omega)
  rw [Int.toNat_of_nonneg i0] at h
  exact h
theorem sgn_or {b : Int} (h : 0 ≤ b ∧ b < 256) : sgn b = b ∨ (sgn b < 0 ∧ 128 ≤ b) := by
  unfold sgn
  split
  · exact Or.inl rfl
  · right; omega
def RubT (t : Int → Int) (p : Int) : Prop := ∀ i, 0 ≤ i → i < p → isLet (t i) ∨ t i = 63
/-- the word w fits the text -/
def FitW (g : G) (t : Int → Int) (p : Int) : Nat → Prop := fun w => us g w ∧ gl g w = p ∧ ∀ i, 0 ≤ i → i < p → t i = 63 ∨ t i - 97 = gt g w i
section SM
variable {d : Nat} {g : G} {h : AH} {K : Int → AH → Prop}
theorem mIsRubbed (hd : 1 < d) {p w : Int} {t : Int → Int} (r : RepM g h) (w0 : 0 ≤ w) (w1 : w < gn g) (p0 : 0 ≤ p) (p1 : p ≤ 8) (tp : ∀ i, 0 ≤ i → i < p → (0 ≤ t i ∧ t i < 256) ∧ h.1 64 i = sgn (t i)) (kT : (gl g w = p ∧ ∀ i, 0 ≤ i → i < p → t i = 63 ∨ t i - 97 = gt g w i) → K 1 h) (kF : ¬ (gl g w = p ∧ ∀ i, 0 ≤ i → i < p → t i = 63 ∨ t i - 97 = gt g w i) → K 0 h) : Call d M_M_isRubbed [vR 12 (-1), vI w, vI p] h K := by
  have nb := r.ok.nb
  refine c_M_isRubbed 1 hd ⟨ib (by omega), ?_⟩
  rw [r.l w0 w1]
  refine ⟨fun c => ?_, fun c => kF (fun z => c z.1)⟩
  have key : ∀ m : Nat, ∀ v3 : Int, 0 ≤ v3 → v3 ≤ p → p - v3 < m → (∀ i, 0 ≤ i → i < v3 → t i = 63 ∨ t i - 97 = gt g w i) → A_M_isRubbed_14 1 K w p v3 h := by
    intro m
    induction m with
    | zero => intro v3 x1 x2 e; omega
    | succ m ih =>
      intro v3 x1 x2 e s
      have next : (t v3 = 63 ∨ t v3 - 97 = gt g w v3) → v3 < p → inI (v3 + 1) ∧ A_M_isRubbed_14 1 K w p (v3 + 1) h := fun hv hp => ⟨ii (by omega), ih (v3 + 1) (by omega) (by omega) (by omega) (fun i i0 i1 => by
        by_cases z : i = v3
        · rw [z]; exact hv
        · exact s i i0 (by omega))⟩
      refine s_M_isRubbed_14 ⟨fun c2 => kT ⟨c, fun i i0 i1 => s i i0 (by omega)⟩, fun c2 => ⟨ib (by omega), ?_⟩⟩
      obtain ⟨bb, e64⟩ := tp v3 x1 c2
      have so := sgn_or bb
      have sb := sgn_b bb.1 bb.2
      have tb := r.ok.tb w0 w1 x1 (by omega)
      rw [e64]
      refine ⟨fun z => next (Or.inl (by omega)) c2, fun z => ⟨ii (by omega), mLetter (by decide) r w0 w1 x1 (by omega) ⟨fun y => next (Or.inr (by omega)) c2, fun y => kF (fun q => ?_)⟩⟩⟩
      have := q.2 v3 x1 c2
      omega
  exact key (p.toNat + 1) 0 (by decide) p0 (by omega) (fun i i0 i1 => by omega)
theorem mRubbed (hd : 2 < d) {p : Int} {t : Tp} (r : RepM g h) (rt : RepMT t h) (k0 : ¬ (1 ≤ p ∧ p ≤ 8 ∧ p ≤ t.1) → K (-1) h) (k2 : ∀ h', 1 ≤ p ∧ p ≤ 8 ∧ p ≤ t.1 → ¬ RubT t.2 p → RepMT (0, t.2) h' → Fr [] [(12, 11)] h h' → K (-2) h') (k : ∀ h' (N : Nat), 1 ≤ p ∧ p ≤ 8 ∧ p ≤ t.1 → RubT t.2 p → MaskP (FitW g t.2 p) (gn g) N → RepMT (0, t.2) h' → Fr [] [(12, 11)] h h' → K N h') : Call d M_M_rubbed [vR 12 (-1), vI p] h K := by
  refine c_M_rubbed 2 hd (mIn (by decide) (fun p0 p1 => br1 ⟨fun c => ?_, fun c => k0 (by rw [rt.2.1] at c; omega)⟩) (fun c => br0 (k0 (by omega))))
  rw [rt.2.1] at c
  have G : 1 ≤ p ∧ p ≤ 8 ∧ p ≤ t.1 := ⟨p0, p1, c⟩
  have nb := r.ok.nb
  have f1 : Fr [] [(12, 11)] h (wI h 12 11 0) := Fr.wI (Or.inr (by decide))
  have t1 : RepMT (0, t.2) (wI h 12 11 0) := ⟨⟨Int.le_refl 0, show (0 : Int) ≤ 200 by decide⟩, rI_eq, fun k k0 k1 => by have k1 : k < 0 := k1; omega⟩
  have r1 := r.fr f1
  have tp : ∀ i, 0 ≤ i → i < p → (0 ≤ t.2 i ∧ t.2 i < 256) ∧ (wI h 12 11 0).1 64 i = sgn (t.2 i) := fun i i0 i1 => by
    rw [rI_ne (by decide)]; exact rt.2.2 i i0 (by omega)
  have coll : ∀ m : Nat, ∀ (N : Nat) (v4 : Int), 0 ≤ v4 → v4 ≤ gn g → gn g - v4 < m → RubT t.2 p → N < 1099511627776 → MaskP (FitW g t.2 p) v4 N → A_M_rubbed_76 2 K p N v4 (wI h 12 11 0) := by
    intro m
    induction m with
    | zero => intro N v4 x1 x2 e; omega
    | succ m ih =>
      intro N v4 x1 x2 e hr hN mk
      have ev : v4 = ((v4.toNat : Nat) : Int) := by omega
      refine s_M_rubbed_76 ?_
      rw [r1.n]
      refine ⟨fun c2 => k _ N G hr (mk.full (by omega)) t1 f1, fun c2 => ?_⟩
      have skip : ¬ FitW g t.2 p v4.toNat → inI (v4 + 1) ∧ A_M_rubbed_76 2 K p N (v4 + 1) (wI h 12 11 0) := fun hn => ⟨ii (by omega), ih N (v4 + 1) (by omega) (by omega) (by omega) hr hN (mk.skip x1 hn)⟩
      have lo := lor1 hN x1 (show v4 < 40 by omega)
      refine mIsUsed (by decide) r1 x1 c2 (fun hu => br1 (mIsRubbed (by decide) r1 x1 c2 (by omega) p1 tp (fun hf => br1 ⟨ii (by omega), ?_⟩) (fun hf => br0 (skip (fun z => hf (by have := z.2; rw [← ev] at this; exact this)))))) (fun hn => br0 (skip (fun z => hn (by have := z.1; rw [← ev] at this; exact this))))
      rw [lo.1]
      exact ih _ (v4 + 1) (by omega) (by omega) (by omega) hr lo.2 (mk.put x1 ⟨by rw [← ev]; exact hu, by rw [← ev]; exact hf⟩)
  have chk : ∀ m : Nat, ∀ v2 : Int, 0 ≤ v2 → v2 ≤ p → p - v2 < m → (∀ i, 0 ≤ i → i < v2 → isLet (t.2 i) ∨ t.2 i = 63) → A_M_rubbed_29 2 K p v2 (wI h 12 11 0) := by
    intro m
    induction m with
    | zero => intro v2 x1 x2 e; omega
    | succ m ih =>
      intro v2 x1 x2 e s
      have next : (isLet (t.2 v2) ∨ t.2 v2 = 63) → v2 < p → inI (v2 + 1) ∧ A_M_rubbed_29 2 K p (v2 + 1) (wI h 12 11 0) := fun hv hp => ⟨ii (by omega), ih (v2 + 1) (by omega) (by omega) (by omega) (fun i i0 i1 => by
        by_cases z : i = v2
        · rw [z]; exact hv
        · exact s i i0 (by omega))⟩
      refine s_M_rubbed_29 ⟨fun c2 => coll 41 0 0 (by decide) (by omega) (by omega) (fun i i0 i1 => s i i0 (by omega)) (by decide) MaskP.start, fun c2 => ⟨ib (by omega), ?_⟩⟩
      obtain ⟨bb, e64⟩ := tp v2 x1 c2
      have so := sgn_or bb
      rw [e64]
      refine ⟨fun z => next (Or.inr (by omega)) c2, fun z => mIn (by decide) (fun a b => br1' (next (Or.inl ⟨by omega, by omega⟩) c2)) (fun n => br0' (k2 _ G (fun q => ?_) t1 f1))⟩
      have := q v2 x1 c2
      unfold isLet at this
      omega
  exact chk (p.toNat + 1) 0 (by decide) (by omega) (by omega) (fun i i0 i1 => by omega)
theorem tRubbed (hd : 2 < d) {n : Int} {f : Int → Int} (r : TakC n f h) (kT : RubT f n → K 1 h) (kF : ¬ RubT f n → K 0 h) : Call d M_Tape_isRubbedText [vR 1 (-1)] h K := by
  have n0 := r.2.1
  refine c_Tape_isRubbedText 2 hd ?_
  have key : ∀ m : Nat, ∀ v1 : Int, 0 ≤ v1 → v1 ≤ n → n - v1 < m → (∀ i, 0 ≤ i → i < v1 → isLet (f i) ∨ f i = 63) → A_Tape_isRubbedText_2 2 K v1 h := by
    intro m
    induction m with
    | zero => intro v1 x1 x2 e; omega
    | succ m ih =>
      intro v1 x1 x2 e s
      have next : (isLet (f v1) ∨ f v1 = 63) → v1 < n → inI (v1 + 1) ∧ A_Tape_isRubbedText_2 2 K (v1 + 1) h := fun hv hp => ⟨ii (by omega), ih (v1 + 1) (by omega) (by omega) (by omega) (fun i i0 i1 => by
        by_cases z : i = v1
        · rw [z]; exact hv
        · exact s i i0 (by omega))⟩
      refine s_Tape_isRubbedText_2 ?_
      rw [r.1]
      refine ⟨fun c => kT (fun i i0 i1 => s i i0 (by omega)), fun c => tIsLetterAt (by decide) r x1 c (fun hl => br1' (next (Or.inl hl) c)) (fun hl => br0' (tByte (by decide) r (fun _ _ => ⟨fun z => next (Or.inr z) c, fun z => kF (fun q => ?_)⟩) (fun z => absurd ⟨x1, c⟩ z)))⟩
      rcases q v1 x1 c with y | y
      · exact hl y
      · exact z y
  exact key (n.toNat + 1) 0 (by decide) n0.1 (by omega) (fun i i0 i1 => by omega)
theorem cFits (hd : 2 < d) {p w : Int} {t : Int → Int} (r : RepCW g h) (w0 : 0 ≤ w) (w1 : w < gn g) (hl : gl g w = p) (tk : TakC p t h) (kT : (∀ i, 0 ≤ i → i < p → t i = 63 ∨ t i - 97 = gt g w i) → K 1 h) (kF : ¬ (∀ i, 0 ≤ i → i < p → t i = 63 ∨ t i - 97 = gt g w i) → K 0 h) : Call d M_Spelling_fits [vR 9 (-1), vI w] h K := by
  have nb := r.ok.nb
  have lb := r.ok.lb w0 w1
  refine c_Spelling_fits 2 hd ?_
  have key : ∀ m : Nat, ∀ v2 : Int, 0 ≤ v2 → v2 ≤ p → p - v2 < m → (∀ i, 0 ≤ i → i < v2 → t i = 63 ∨ t i - 97 = gt g w i) → A_Spelling_fits_2 2 K w v2 h := by
    intro m
    induction m with
    | zero => intro v2 x1 x2 e; omega
    | succ m ih =>
      intro v2 x1 x2 e s
      have next : (t v2 = 63 ∨ t v2 - 97 = gt g w v2) → v2 < p → inI (v2 + 1) ∧ A_Spelling_fits_2 2 K w (v2 + 1) h := fun hv hp => ⟨ii (by omega), ih (v2 + 1) (by omega) (by omega) (by omega) (fun i i0 i1 => by
        by_cases z : i = v2
        · rw [z]; exact hv
        · exact s i i0 (by omega))⟩
      refine s_Spelling_fits_2 ⟨ib (by omega), ?_⟩
      rw [r.1.l w0 w1, hl]
      refine ⟨fun c => kT (fun i i0 i1 => s i i0 (by omega)), fun c => tByte (by decide) tk (fun _ _ => ⟨fun z => next (Or.inl z) c, fun z => tLetterAt (by decide) tk x1 c ⟨ib (by omega), ?_⟩⟩) (fun z => absurd ⟨x1, c⟩ z)⟩
      rw [r.1.t w0 w1 x1 (by omega)]
      refine ⟨fun y => next (Or.inr y) c, fun y => kF (fun q => ?_)⟩
      rcases q v2 x1 c with u | u
      · exact z u
      · exact y u
  exact key (p.toNat + 1) 0 (by decide) (by omega) (by omega) (fun i i0 i1 => by omega)
theorem cFitting (hd : 3 < d) {p : Int} {t : Int → Int} (r : RepCW g h) (tk : TakC p t h) (k : ∀ N : Nat, MaskP (FitW g t p) (gn g) N → K N h) : Call d M_Spelling_fitting [vR 9 (-1), vI p] h K := by
  have nb := r.ok.nb
  refine c_Spelling_fitting 3 hd ?_
  have coll : ∀ m : Nat, ∀ (N : Nat) (v4 : Int), 0 ≤ v4 → v4 ≤ gn g → gn g - v4 < m → N < 1099511627776 → MaskP (FitW g t p) v4 N → A_Spelling_fitting_5 3 K p N v4 h := by
    intro m
    induction m with
    | zero => intro N v4 x1 x2 e; omega
    | succ m ih =>
      intro N v4 x1 x2 e hN mk
      have ev : v4 = ((v4.toNat : Nat) : Int) := by omega
      refine s_Spelling_fitting_5 ?_
      rw [r.n]
      refine ⟨fun c2 => k N (mk.full (by omega)), fun c2 => ?_⟩
      have skip : ¬ FitW g t p v4.toNat → inI (v4 + 1) ∧ A_Spelling_fitting_5 3 K p N (v4 + 1) h := fun hn => ⟨ii (by omega), ih N (v4 + 1) (by omega) (by omega) (by omega) hN (mk.skip x1 hn)⟩
      have lo := lor1 hN x1 (show v4 < 40 by omega)
      refine wIsUsed (by decide) r (fun _ _ hu => br1 ⟨ib (by omega), ?_⟩) (fun hn => br0 (skip (fun z => hn ⟨x1, c2, by have := z.1; rw [← ev] at this; exact this⟩)))
      rw [r.1.l x1 c2]
      refine ⟨fun z => skip (fun y => z (by have := y.2.1; rw [← ev] at this; exact this)), fun z => cFits (by decide) r x1 c2 z tk (fun hf => br1 ⟨ii (by omega), ?_⟩) (fun hf => br0 (skip (fun y => hf (by have := y.2.2; rw [← ev] at this; exact this))))⟩
      rw [lo.1]
      exact ih _ (v4 + 1) (by omega) (by omega) (by omega) lo.2 (mk.put x1 ⟨by rw [← ev]; exact hu, by rw [← ev]; exact ⟨z, hf⟩⟩)
  exact coll 41 0 0 (by decide) (by omega) (by omega) (by decide) MaskP.start
theorem mUsedMany (hd : 1 < d) (r : RepM g h) (k : K (cnt (us g) (gn g).toNat) h) : Call d M_M_usedMany [vR 12 (-1)] h K := by
  have nb := r.ok.nb
  refine c_M_usedMany 1 hd ?_
  have key : ∀ m : Nat, ∀ v1 v2 : Int, 0 ≤ v2 → v2 ≤ gn g → gn g - v2 < m → v1 = cnt (us g) v2.toNat → A_M_usedMany_4 1 K v1 v2 h := by
    intro m
    induction m with
    | zero => intro v1 v2 x1 x2 e; omega
    | succ m ih =>
      intro v1 v2 x1 x2 e t
      have cb := cnt_b (us g) v2.toNat
      refine s_M_usedMany_4 ?_
      rw [r.n]
      refine ⟨fun c => by rw [t, show v2 = gn g by omega]; exact k, fun c => mIsUsed (by decide) r x1 c (fun hu => ?_) (fun hn => ?_)⟩
      · rw [if_neg (by decide)]
        exact ⟨ii (by omega), ii (by omega), ih _ (v2 + 1) (by omega) (by omega) (by omega) (by rw [cnt_ti x1 hu, t])⟩
      · rw [if_pos rfl]
        exact ⟨ii (by omega), ii (by omega), ih _ (v2 + 1) (by omega) (by omega) (by omega) (by rw [cnt_fi x1 hn, t, Int.add_zero])⟩
  exact key 41 0 0 (by decide) (by omega) (by omega) rfl
end SM
/-- the bits of a set of words are as many as the words -/
theorem pop_cnt {P : Int → Prop} {n : Int} {N : Nat} (hN : ∀ w : Nat, N.testBit w = true ↔ (w : Int) < n ∧ P w) (n0 : 0 ≤ n) (n1 : n ≤ 40) : pop N 40 = cnt P n.toNat := by
  have key : ∀ m : Nat, (m : Int) ≤ n → pop N m = cnt P m := by
    intro m
    induction m with
    | zero => intro _; rfl
    | succ m ih =>
      intro hm
      have h := ih (by omega)
      unfold pop at h ⊢
      by_cases hp : P m
      · rw [cnt_t (P := fun v : Int => N.testBit v.toNat = true) (m := m) (by rw [Int.toNat_natCast]; exact (hN m).mpr ⟨by omega, hp⟩), h, cnt_t hp]
      · rw [cnt_f (P := fun v : Int => N.testBit v.toNat = true) (m := m) (by rw [Int.toNat_natCast]; exact fun z => hp ((hN m).mp z).2), h, cnt_f hp]
  have up : ∀ m : Nat, pop N (n.toNat + m) = pop N n.toNat := by
    intro m
    induction m with
    | zero => rfl
    | succ m ih =>
      unfold pop at ih ⊢
      rw [← Nat.add_assoc, cnt_f (P := fun v : Int => N.testBit v.toNat = true) (m := n.toNat + m) (by rw [Int.toNat_natCast]; exact fun z => by have := ((hN _).mp z).1; omega), ih]
  rw [← key n.toNat (by omega), ← up (40 - n.toNat), show n.toNat + (40 - n.toNat) = 40 by omega]
theorem used_pop {g : G} (ok : OkG g) {U : Nat} (u : UsedS g U) : pop U 40 = cnt (us g) (gn g).toNat := pop_cnt (fun w => by
  by_cases h : w < 40
  · exact u.2 w h
  · have := ok.nb
    constructor
    · intro z; exact absurd (bit40 u.1 z) h
    · intro z; omega) ok.nb.1 ok.nb.2

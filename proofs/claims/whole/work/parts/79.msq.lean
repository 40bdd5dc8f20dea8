/-! squares -/
def isO (g : G) (n w : Int) : Prop := us g w ∧ gl g w = n
def CanC (g : G) (n : Int) (c : Int → Int) (k col : Int) : Prop := ∃ w, (0 ≤ w ∧ w < gn g) ∧ isO g n w ∧ ∀ i, 0 ≤ i → i < k → gt g w i = gt g (c i) col
def CanR (g : G) (n : Int) (c : Int → Int) (k : Int) : Prop := ∀ col, 0 ≤ col → col < n → CanC g n c k col
def updI (c : Int → Int) (k w : Int) : Int → Int := fun i => if i = k then w else c i
def p40 : Nat → Nat
  | 0 => 1
  | m + 1 => 40 * p40 m
abbrev Acc : Type := Int × (Int → Int)
def foldN (f : Int → Acc → Acc) : Nat → Acc → Acc
  | 0, a => a
  | W + 1, a => f W (foldN f W a)
/-- all squares whose first k rows are c, m rows are wanting still -/
noncomputable def sqF (g : G) (n : Int) : Nat → Int → (Int → Int) → Acc → Acc
  | 0, _, c, a => (a.1 + 1, if a.1 = 0 then c else a.2)
  | m + 1, k, c, a => foldN (fun w a => @ite _ (isO g n w ∧ CanR g n (updI c k w) (k + 1)) (Classical.propDecidable _) (sqF g n m (k + 1) (updI c k w) a) a) (gn g).toNat a
noncomputable def sqS (g : G) (n : Int) (m : Nat) (k : Int) (c : Int → Int) : Int → Acc → Acc := fun w a => @ite _ (isO g n w ∧ CanR g n (updI c k w) (k + 1)) (Classical.propDecidable _) (sqF g n m (k + 1) (updI c k w) a) a
theorem sqF_s (g : G) (n : Int) (m : Nat) (k : Int) (c : Int → Int) (a : Acc) : sqF g n (m + 1) k c a = foldN (sqS g n m k c) (gn g).toNat a := rfl
theorem sqS_y {g : G} {n : Int} {m : Nat} {k : Int} {c : Int → Int} {w : Int} {a : Acc} (h : isO g n w ∧ CanR g n (updI c k w) (k + 1)) : sqS g n m k c w a = sqF g n m (k + 1) (updI c k w) a := if_pos h
theorem sqS_n {g : G} {n : Int} {m : Nat} {k : Int} {c : Int → Int} {w : Int} {a : Acc} (h : ¬ (isO g n w ∧ CanR g n (updI c k w) (k + 1))) : sqS g n m k c w a = a := if_neg h
theorem fold_s {f : Int → Acc → Acc} {w : Int} (w0 : 0 ≤ w) (a : Acc) : foldN f (w + 1).toNat a = f w (foldN f w.toNat a) := by
  rw [show (w + 1).toNat = w.toNat + 1 by omega]
  show f (w.toNat : Int) _ = _
  rw [Int.toNat_of_nonneg w0]
theorem fold_b {f : Int → Acc → Acc} {B : Int} (hB : 0 ≤ B) (hf : ∀ w a, a.1 ≤ (f w a).1 ∧ (f w a).1 ≤ a.1 + B) : ∀ (W : Nat) (a : Acc), a.1 ≤ (foldN f W a).1 ∧ (foldN f W a).1 ≤ a.1 + W * B
  | 0, a => by
    show a.1 ≤ a.1 ∧ a.1 ≤ a.1 + ((0 : Nat) : Int) * B
    rw [show ((0 : Nat) : Int) = 0 from rfl, Int.zero_mul]
    omega
  | W + 1, a => by
    have ih := fold_b hB hf W a
    have h := hf W (foldN f W a)
    show a.1 ≤ (f W (foldN f W a)).1 ∧ (f W (foldN f W a)).1 ≤ a.1 + ((W + 1 : Nat) : Int) * B
    rw [Int.natCast_add, Int.add_mul, show ((1 : Nat) : Int) = 1 from rfl, Int.one_mul]
    omega
theorem sqF_b {g : G} (ok : OkG g) {n : Int} : ∀ (m : Nat) (k : Int) (c : Int → Int) (a : Acc), a.1 ≤ (sqF g n m k c a).1 ∧ (sqF g n m k c a).1 ≤ a.1 + (p40 m : Int)
  | 0, k, c, a => by
    show a.1 ≤ a.1 + 1 ∧ a.1 + 1 ≤ a.1 + 1
    omega
  | m + 1, k, c, a => by
    have nb := ok.nb
    have h := fold_b (f := sqS g n m k c) (B := (p40 m : Int)) (by omega) (fun w b => by
      by_cases z : isO g n w ∧ CanR g n (updI c k w) (k + 1)
      · rw [sqS_y z]; exact sqF_b ok m (k + 1) (updI c k w) b
      · rw [sqS_n z]; omega) (gn g).toNat a
    rw [sqF_s]
    have h2 : ((gn g).toNat : Int) * (p40 m : Int) ≤ 40 * (p40 m : Int) := Int.mul_le_mul_of_nonneg_right (by omega) (by omega)
    have h3 : p40 (m + 1) = 40 * p40 m := rfl
    omega
theorem sqS_b {g : G} (ok : OkG g) {n : Int} {m : Nat} {k : Int} {c : Int → Int} (w : Int) (a : Acc) : a.1 ≤ (sqS g n m k c w a).1 ∧ (sqS g n m k c w a).1 ≤ a.1 + (p40 m : Int) := by
  by_cases z : isO g n w ∧ CanR g n (updI c k w) (k + 1)
  · rw [sqS_y z]; exact sqF_b ok m (k + 1) (updI c k w) a
  · rw [sqS_n z]; omega
/-- below w there is room for one more -/
theorem fold_room {g : G} (ok : OkG g) {n : Int} {m : Nat} {k : Int} {c : Int → Int} {w : Int} {a : Acc} (a0 : 0 ≤ a.1) (w0 : 0 ≤ w) (w1 : w < gn g) (hb : a.1 + (p40 (m + 1) : Int) ≤ 2560000) : 0 ≤ (foldN (sqS g n m k c) w.toNat a).1 ∧ (foldN (sqS g n m k c) w.toNat a).1 + (p40 m : Int) ≤ 2560000 := by
  have nb := ok.nb
  have h := fold_b (f := sqS g n m k c) (B := (p40 m : Int)) (by omega) (fun w b => sqS_b ok w b) w.toNat a
  have h2 : ((w.toNat : Int) + 1) * (p40 m : Int) ≤ 40 * (p40 m : Int) := Int.mul_le_mul_of_nonneg_right (by omega) (by omega)
  rw [Int.add_mul, Int.one_mul] at h2
  have h3 : p40 (m + 1) = 40 * p40 m := rfl
  omega
theorem CanR.congr {g : G} {n k : Int} {c c' : Int → Int} (h : ∀ i, 0 ≤ i → i < k → c i = c' i) (q : CanR g n c k) : CanR g n c' k := fun col c0 c1 => by
  obtain ⟨w, w1, w2, w3⟩ := q col c0 c1
  exact ⟨w, w1, w2, fun i i0 i1 => by rw [← h i i0 i1]; exact w3 i i0 i1⟩
section MSQ
variable {d : Nat} {g : G} {h : AH} {K : Int → AH → Prop}
theorem mIsOf (hd : 1 < d) {w n : Int} (r : RepM g h) (w0 : 0 ≤ w) (w1 : w < gn g) (kT : isO g n w → K 1 h) (kF : ¬ isO g n w → K 0 h) : Call d M_M_isOf [vR 12 (-1), vI w, vI n] h K := by
  have nb := r.ok.nb
  refine c_M_isOf 1 hd (mIsUsed (by decide) r w0 w1 (fun hu => br1 ⟨ib (by omega), ?_⟩) (fun hn => br0 (kF (fun z => hn z.1))))
  rw [r.l w0 w1]
  exact ⟨fun c => kF (fun z => c z.2), fun c => kT ⟨hu, c⟩⟩
theorem mCanColumn (hd : 2 < d) {n col k : Int} {c : Int → Int} (r : RepM g h) (n1 : n ≤ 4) (c0 : 0 ≤ col) (c1 : col < n) (k0 : 0 ≤ k) (k1 : k ≤ n) (tc : ∀ i, 0 ≤ i → i < k → h.1 92 i = c i ∧ (0 ≤ c i ∧ c i < gn g) ∧ isO g n (c i)) (kT : CanC g n c k col → K 1 h) (kF : ¬ CanC g n c k col → K 0 h) : Call d M_M_canColumn [vR 12 (-1), vI n, vI col, vI k] h K := by
  have nb := r.ok.nb
  refine c_M_canColumn 2 hd ?_
  have outer : ∀ m : Nat, ∀ v4 : Int, 0 ≤ v4 → v4 ≤ gn g → gn g - v4 < m → (∀ w, 0 ≤ w → w < v4 → ¬ (isO g n w ∧ ∀ i, 0 ≤ i → i < k → gt g w i = gt g (c i) col)) → A_M_canColumn_3 2 K n col k v4 h := by
    intro m
    induction m with
    | zero => intro v4 x1 x2 e; omega
    | succ m ih =>
      intro v4 x1 x2 e no
      refine s_M_canColumn_3 ?_
      rw [r.n]
      refine ⟨fun q => kF (fun ⟨w, w1, w2, w3⟩ => no w w1.1 (by omega) ⟨w2, w3⟩), fun q => ?_⟩
      have next : ¬ (isO g n v4 ∧ ∀ i, 0 ≤ i → i < k → gt g v4 i = gt g (c i) col) → A_M_canColumn_3 2 K n col k (v4 + 1) h := fun hn => ih (v4 + 1) (by omega) (by omega) (by omega) (fun w w0 w1 => by
        by_cases z : w = v4
        · rw [z]; exact hn
        · exact no w w0 (by omega))
      refine mIsOf (by decide) r x1 q (fun ho => ?_) (fun hn => ?_)
      · have inner : ∀ m : Nat, ∀ v6 : Int, 0 ≤ v6 → v6 ≤ k → k - v6 < m → (∀ i, 0 ≤ i → i < v6 → gt g v4 i = gt g (c i) col) → A_M_canColumn_24 2 K n col k v4 1 v6 h := by
          intro m
          induction m with
          | zero => intro v6 y1 y2 e; omega
          | succ m ih2 =>
            intro v6 y1 y2 e2 s
            refine s_M_canColumn_24 ⟨fun q2 => s_M_canColumn_71 ⟨fun z => absurd z (by decide), fun _ => kT ⟨v4, ⟨x1, q⟩, ho, fun i i0 i1 => s i i0 (by omega)⟩⟩, fun q2 => ⟨fun z => absurd z (by decide), fun _ => ?_⟩⟩
            obtain ⟨t1, t2, t3⟩ := tc v6 y1 q2
            refine mLetter (by decide) r x1 q y1 (by rw [ho.2]; omega) ⟨ib (by omega), ?_⟩
            rw [t1]
            refine mLetter (by decide) r t2.1 t2.2 c0 (by rw [t3.2]; exact c1) ⟨ii (by omega), ?_⟩
            by_cases z : gt g v4 v6 = gt g (c v6) col
            · rw [if_pos z]
              exact ih2 (v6 + 1) (by omega) (by omega) (by omega) (fun i i0 i1 => by
                by_cases y : i = v6
                · rw [y]; exact z
                · exact s i i0 (by omega))
            · rw [if_neg z]
              have stop : A_M_canColumn_71 2 K n col k v4 0 h := s_M_canColumn_71 ⟨fun _ => ⟨ii (by omega), next (fun y => z (y.2 v6 y1 q2))⟩, fun y => absurd rfl y⟩
              exact s_M_canColumn_24 ⟨fun _ => stop, fun _ => ⟨fun _ => stop, fun y => absurd rfl y⟩⟩
        exact inner (k.toNat + 1) 0 (by decide) k0 (by omega) (fun i i0 i1 => by omega)
      · have stop : A_M_canColumn_71 2 K n col k v4 0 h := s_M_canColumn_71 ⟨fun _ => ⟨ii (by omega), next (fun y => hn y.1)⟩, fun y => absurd rfl y⟩
        exact s_M_canColumn_24 ⟨fun _ => stop, fun _ => ⟨fun _ => stop, fun y => absurd rfl y⟩⟩
  exact outer 41 0 (by decide) nb.1 (by omega) (fun w w0 w1 => by omega)
theorem mCanRows (hd : 3 < d) {n k : Int} {c : Int → Int} (r : RepM g h) (n1 : n ≤ 4) (k0 : 0 ≤ k) (k1 : k ≤ n) (tc : ∀ i, 0 ≤ i → i < k → h.1 92 i = c i ∧ (0 ≤ c i ∧ c i < gn g) ∧ isO g n (c i)) (kT : CanR g n c k → K 1 h) (kF : ¬ CanR g n c k → K 0 h) : Call d M_M_canRows [vR 12 (-1), vI n, vI k] h K := by
  refine c_M_canRows 3 hd ?_
  have key : ∀ m : Nat, ∀ v3 : Int, 0 ≤ v3 → v3 ≤ max 0 n → n - v3 < m → (∀ col, 0 ≤ col → col < v3 → CanC g n c k col) → A_M_canRows_2 3 K n k v3 h := by
    intro m
    induction m with
    | zero => intro v3 x1 x2 e; omega
    | succ m ih =>
      intro v3 x1 x2 e s
      refine s_M_canRows_2 ⟨fun q => kT (fun col c0 c1 => s col c0 (by omega)), fun q => mCanColumn (by decide) r n1 x1 q k0 k1 tc (fun ok => br1' ⟨ii (by omega), ih (v3 + 1) (by omega) (by omega) (by omega) (fun col c0 c1 => ?_)⟩) (fun no => br0' (kF (fun z => no (z v3 x1 q))))⟩
      by_cases y : col = v3
      · rw [y]; exact ok
      · exact s col c0 (by omega)
  exact key (n.toNat + 1) 0 (by decide) (by omega) (by omega) (fun col c0 c1 => by omega)
def AccM (n : Int) (a : Acc) (h : AH) : Prop := h.1 12 53 = a.1 ∧ (a.1 ≠ 0 → ∀ i, 0 ≤ i → i < n → h.1 93 i = a.2 i)
theorem p40_pos : ∀ m : Nat, 1 ≤ p40 m
  | 0 => Nat.le_refl 1
  | m + 1 => by
    have := p40_pos m
    show 1 ≤ 40 * p40 m
    omega
/-- a level of the search: from the word behind v on, then one row back -/
theorem mLevel {n : Int} (r0 : RepM g h) (n0 : 1 ≤ n) (n1 : n ≤ 4) : ∀ (m : Nat) (k : Nat) (c : Int → Int) (a0 : Acc), n = k + 1 + m → 0 ≤ a0.1 → a0.1 + (p40 (m + 1) : Int) ≤ 2560000 → (∀ i : Int, 0 ≤ i → i < k → (0 ≤ c i ∧ c i < gn g) ∧ isO g n (c i)) → ∀ (q : Nat) (v : Int) (hh : AH), -1 ≤ v → v ≤ gn g → gn g - v < q → Fr [92, 93] [(12, 53)] h hh → hh.1 92 k = v → (∀ i : Int, 0 ≤ i → i < k → hh.1 92 i = c i) → AccM n (foldN (sqS g n m k c) (min (v + 1) (gn g)).toNat a0) hh → (∀ h', Fr [92, 93] [(12, 53)] h h' → (∀ i : Int, 0 ≤ i → i < k → h'.1 92 i = c i) → AccM n (foldN (sqS g n m k c) (gn g).toNat a0) h' → A_M_laysSquares_14 4 K n ((k : Int) - 1) h') → A_M_laysSquares_14 4 K n k hh := by
  have nb := r0.ok.nb
  intro m
  induction m with
  | zero =>
    intro k c a0 hn a00 hb hc q
    induction q with
    | zero => intro v hh x1 x2 e; omega
    | succ q ih =>
      intro v hh x1 x2 e ff e92 tc ac on
      have rr := r0.fr ff
      refine s_M_laysSquares_14 ⟨fun z => by omega, fun _ => ⟨ib (by omega), ?_⟩⟩
      rw [e92, rr.n]
      refine ⟨ii (by omega), fun c1 => ?_, fun c1 => ⟨ii (by omega), on _ (ff.trans (Fr.wI (Or.inl (by decide)))) (fun i i0 i1 => by rw [rI_nk (by omega)]; exact tc i i0 i1) ?_⟩⟩
      · rw [show min (v + 1) (gn g) = v + 1 by omega] at ac
        have f1 : Fr [92, 93] [(12, 53)] h (wI hh 92 k (v + 1)) := ff.trans (Fr.wI (Or.inl (by decide)))
        have r1 := r0.fr f1
        have room := fold_room (k := k) (c := c) (n := n) r0.ok a00 (show 0 ≤ v + 1 by omega) c1 hb
        have pp := p40_pos 0
        generalize hA : foldN (sqS g n 0 k c) (v + 1).toNat a0 = A at ac room
        have ac1 : AccM n A (wI hh 92 k (v + 1)) := ⟨by rw [rI_ne (by decide)]; exact ac.1, fun z i i0 i1 => by rw [rI_ne (by decide)]; exact ac.2 z i i0 i1⟩
        have tc1 : ∀ i : Int, 0 ≤ i → i < k → (wI hh 92 k (v + 1)).1 92 i = c i := fun i i0 i1 => by rw [rI_nk (by omega)]; exact tc i i0 i1
        have fs : foldN (sqS g n 0 k c) (min (v + 1 + 1) (gn g)).toNat a0 = sqS g n 0 k c (v + 1) A := by
          rw [show min (v + 1 + 1) (gn g) = v + 1 + 1 by omega, fold_s (by omega), hA]
        have skip : ¬ (isO g n (v + 1) ∧ CanR g n (updI c k (v + 1)) (k + 1)) → A_M_laysSquares_14 4 K n k (wI hh 92 k (v + 1)) := fun hno => ih (v + 1) _ (by omega) (by omega) (by omega) f1 rI_eq tc1 (by rw [fs, sqS_n hno]; exact ac1) on
        refine mIsOf (by decide) r1 (by omega) c1 (fun ho => br1 ⟨ii (by omega), ?_⟩) (fun hno => br0 (skip (fun z => hno z.1)))
        have tcu : ∀ i : Int, 0 ≤ i → i < (k : Int) + 1 → (wI hh 92 k (v + 1)).1 92 i = updI c k (v + 1) i ∧ (0 ≤ updI c k (v + 1) i ∧ updI c k (v + 1) i < gn g) ∧ isO g n (updI c k (v + 1) i) := fun i i0 i1 => by
          by_cases z : i = k
          · rw [show updI c k (v + 1) i = v + 1 from if_pos z, z, rI_eq]
            exact ⟨rfl, ⟨by omega, c1⟩, ho⟩
          · rw [show updI c k (v + 1) i = c i from if_neg z, tc1 i i0 (by omega)]
            exact ⟨rfl, hc i i0 (by omega)⟩
        refine mCanRows (by decide) r1 n1 (by omega) (by omega) tcu (fun can => br1' ⟨fun c2 => ?_, fun c2 => by omega⟩) (fun hno => br0' (skip (fun z => hno z.2)))
        have ey : sqS g n 0 k c (v + 1) A = (A.1 + 1, if A.1 = 0 then updI c k (v + 1) else A.2) := sqS_y ⟨ho, can⟩
        have fin : ∀ h3, Fr [92, 93] [(12, 53)] h h3 → (∀ i, h3.1 92 i = (wI hh 92 k (v + 1)).1 92 i) → h3.1 12 53 = A.1 → (∀ i, 0 ≤ i → i < n → h3.1 93 i = (if A.1 = 0 then updI c k (v + 1) else A.2) i) → A_M_laysSquares_133 4 K n k h3 := fun h3 f3 w3 e53 e93 => by
          refine s_M_laysSquares_133 ?_
          rw [e53]
          refine ⟨ii (by omega), ih (v + 1) _ (by omega) (by omega) (by omega) (f3.trans (Fr.wI (Or.inr (by decide)))) (by rw [rI_ne (by decide), w3, rI_eq]) (fun i i0 i1 => by rw [rI_ne (by decide), w3]; exact tc1 i i0 i1) ?_ on⟩
          rw [fs, ey]
          exact ⟨rI_eq, fun _ i i0 i1 => by rw [rI_ne (by decide)]; exact e93 i i0 i1⟩
        have copy : ∀ q2 : Nat, ∀ (v3 : Int) (h3 : AH), A.1 = 0 → 0 ≤ v3 → v3 ≤ n → n - v3 < q2 → Fr [92, 93] [(12, 53)] h h3 → (∀ i, h3.1 92 i = (wI hh 92 k (v + 1)).1 92 i) → h3.1 12 53 = A.1 → (∀ i, 0 ≤ i → i < v3 → h3.1 93 i = updI c k (v + 1) i) → A_M_laysSquares_103 4 K n k v3 h3 := by
          intro q2
          induction q2 with
          | zero => intro v3 h3 _ y1 y2 e; omega
          | succ q2 ih2 =>
            intro v3 h3 az y1 y2 e2 f3 w3 e53 e93
            refine s_M_laysSquares_103 ⟨fun c3 => fin h3 f3 w3 e53 (fun i i0 i1 => by rw [if_pos az]; exact e93 i i0 (by omega)), fun c3 => ⟨fun c4 => absurd (e53.trans az) c4, fun c4 => ⟨ib (by omega), ii (by omega), ih2 (v3 + 1) _ az (by omega) (by omega) (by omega) (f3.trans (Fr.wI (Or.inl (by decide)))) (fun i => by rw [rI_ne (by decide)]; exact w3 i) (by rw [rI_ne (by decide)]; exact e53) (fun i i0 i1 => ?_)⟩⟩⟩
            by_cases z : i = v3
            · rw [z, rI_eq, w3]; exact (tcu v3 y1 (by omega)).1
            · rw [rI_nk z]; exact e93 i i0 (by omega)
        by_cases az : A.1 = 0
        · exact copy 5 0 _ az (by decide) (by omega) (by omega) f1 (fun _ => rfl) ac1.1 (fun i i0 i1 => by omega)
        · refine s_M_laysSquares_103 ⟨fun c3 => by omega, fun c3 => ⟨fun c4 => fin _ f1 (fun _ => rfl) ac1.1 (fun i i0 i1 => by rw [if_neg az]; exact ac1.2 az i i0 i1), fun c4 => absurd (ac1.1.symm.trans c4) az⟩⟩
      · rw [show min (v + 1) (gn g) = gn g by omega] at ac
        exact ⟨by rw [rI_ne (by decide)]; exact ac.1, fun z i i0 i1 => by rw [rI_ne (by decide)]; exact ac.2 z i i0 i1⟩
  | succ m ihm =>
    intro k c a0 hn a00 hb hc q
    induction q with
    | zero => intro v hh x1 x2 e; omega
    | succ q ih =>
      intro v hh x1 x2 e ff e92 tc ac on
      have rr := r0.fr ff
      refine s_M_laysSquares_14 ⟨fun z => by omega, fun _ => ⟨ib (by omega), ?_⟩⟩
      rw [e92, rr.n]
      refine ⟨ii (by omega), fun c1 => ?_, fun c1 => ⟨ii (by omega), on _ (ff.trans (Fr.wI (Or.inl (by decide)))) (fun i i0 i1 => by rw [rI_nk (by omega)]; exact tc i i0 i1) ?_⟩⟩
      · rw [show min (v + 1) (gn g) = v + 1 by omega] at ac
        have f1 : Fr [92, 93] [(12, 53)] h (wI hh 92 k (v + 1)) := ff.trans (Fr.wI (Or.inl (by decide)))
        have r1 := r0.fr f1
        have room := fold_room (k := k) (c := c) (n := n) r0.ok a00 (show 0 ≤ v + 1 by omega) c1 hb
        generalize hA : foldN (sqS g n (m + 1) k c) (v + 1).toNat a0 = A at ac room
        have ac1 : AccM n A (wI hh 92 k (v + 1)) := ⟨by rw [rI_ne (by decide)]; exact ac.1, fun z i i0 i1 => by rw [rI_ne (by decide)]; exact ac.2 z i i0 i1⟩
        have tc1 : ∀ i : Int, 0 ≤ i → i < k → (wI hh 92 k (v + 1)).1 92 i = c i := fun i i0 i1 => by rw [rI_nk (by omega)]; exact tc i i0 i1
        have fs : foldN (sqS g n (m + 1) k c) (min (v + 1 + 1) (gn g)).toNat a0 = sqS g n (m + 1) k c (v + 1) A := by
          rw [show min (v + 1 + 1) (gn g) = v + 1 + 1 by omega, fold_s (by omega), hA]
        have skip : ¬ (isO g n (v + 1) ∧ CanR g n (updI c k (v + 1)) (k + 1)) → A_M_laysSquares_14 4 K n k (wI hh 92 k (v + 1)) := fun hno => ih (v + 1) _ (by omega) (by omega) (by omega) f1 rI_eq tc1 (by rw [fs, sqS_n hno]; exact ac1) on
        refine mIsOf (by decide) r1 (by omega) c1 (fun ho => br1 ⟨ii (by omega), ?_⟩) (fun hno => br0 (skip (fun z => hno z.1)))
        have tcu : ∀ i : Int, 0 ≤ i → i < (k : Int) + 1 → (wI hh 92 k (v + 1)).1 92 i = updI c k (v + 1) i ∧ (0 ≤ updI c k (v + 1) i ∧ updI c k (v + 1) i < gn g) ∧ isO g n (updI c k (v + 1) i) := fun i i0 i1 => by
          by_cases z : i = k
          · rw [show updI c k (v + 1) i = v + 1 from if_pos z, z, rI_eq]
            exact ⟨rfl, ⟨by omega, c1⟩, ho⟩
          · rw [show updI c k (v + 1) i = c i from if_neg z, tc1 i i0 (by omega)]
            exact ⟨rfl, hc i i0 (by omega)⟩
        refine mCanRows (by decide) r1 n1 (by omega) (by omega) tcu (fun can => br1' ⟨fun c2 => by omega, fun c2 => ⟨ib (by omega), ?_⟩⟩) (fun hno => br0' (skip (fun z => hno z.2)))
        have ey : sqS g n (m + 1) k c (v + 1) A = foldN (sqS g n m ((k : Int) + 1) (updI c k (v + 1))) (gn g).toNat A := sqS_y ⟨ho, can⟩
        have go := ihm (k + 1) (updI c k (v + 1)) A (by omega) room.1 room.2 (fun i i0 i1 => (tcu i i0 (by omega)).2) ((gn g).toNat + 2) (-1) (wI (wI hh 92 k (v + 1)) 92 ((k + 1 : Nat) : Int) (-1)) (by omega) (by omega) (by omega) (f1.trans (Fr.wI (Or.inl (by decide)))) rI_eq (fun i i0 i1 => by rw [rI_nk (by omega)]; exact (tcu i i0 (by omega)).1) (by
          rw [show min (-1 + 1) (gn g) = 0 by omega]
          exact ⟨by rw [rI_ne (by decide)]; exact ac1.1, fun z i i0 i1 => by rw [rI_ne (by decide)]; exact ac1.2 z i i0 i1⟩) (fun h' f' t' a' => by
          rw [show ((k + 1 : Nat) : Int) - 1 = k by omega]
          refine ih (v + 1) h' (by omega) (by omega) (by omega) f' ?_ (fun i i0 i1 => ?_) ?_ on
          · rw [t' k (by omega) (by omega)]; exact if_pos rfl
          · rw [t' i i0 (by omega)]; exact if_neg (by omega)
          · rw [fs, ey]; exact a')
        rw [show ((k + 1 : Nat) : Int) = (k : Int) + 1 by omega] at go
        exact go
      · rw [show min (v + 1) (gn g) = gn g by omega] at ac
        exact ⟨by rw [rI_ne (by decide)]; exact ac.1, fun z i i0 i1 => by rw [rI_ne (by decide)]; exact ac.2 z i i0 i1⟩
/-- all squares of the side n -/
noncomputable def sqA (g : G) (n : Int) : Acc := sqF g n n.toNat 0 (fun _ => 0) (0, fun _ => 0)
/-- the answer of square -/
noncomputable def sqAns (g : G) (n q : Int) : Int := if q = -1 then (sqA g n).1 else if (sqA g n).1 = 0 then -2 else (sqA g n).2 q
theorem mSquare (hd : 5 < d) {n q : Int} (r : RepM g h) (k0 : ¬ (2 ≤ n ∧ n ≤ 4 ∧ -1 ≤ q ∧ q < n) → K (-1) h) (k : ∀ h', 2 ≤ n ∧ n ≤ 4 ∧ -1 ≤ q ∧ q < n → Fr [92, 93] [(12, 53)] h h' → K (sqAns g n q) h') : Call d M_M_square [vR 12 (-1), vI n, vI q] h K := by
  have nb := r.ok.nb
  refine c_M_square 5 hd (mIn (by decide) (fun n0 n1 => br1 ⟨ii (by omega), mIn (by decide) (fun q0 q1 => br1' ?_) (fun c => br0' (k0 (by omega)))⟩) (fun c => br0 (k0 (by omega))))
  have G : 2 ≤ n ∧ n ≤ 4 ∧ -1 ≤ q ∧ q < n := ⟨n0, n1, q0, by omega⟩
  have fin : ∀ h', Fr [92, 93] [(12, 53)] h h' → AccM n (sqA g n) h' → (q ≠ -1 → ((h'.1 12 53 ≠ 0 → inb q 4 ∧ K (h'.1 93 q) h') ∧ (h'.1 12 53 = 0 → K (-2) h'))) ∧ (q = -1 → K (h'.1 12 53) h') := fun h' f' a' => by
    have kk := k h' G f'
    unfold sqAns at kk
    refine ⟨fun hq => ⟨fun hz => ⟨ib (by omega), ?_⟩, fun hz => ?_⟩, fun hq => ?_⟩
    · rw [if_neg hq, if_neg (by rw [← a'.1]; exact hz)] at kk
      rw [a'.2 (by rw [← a'.1]; exact hz) q (by omega) (by omega)]; exact kk
    · rw [if_neg hq, if_pos (by rw [← a'.1]; exact hz)] at kk; exact kk
    · rw [if_pos hq, ← a'.1] at kk; exact kk
  refine c_M_laysSquares 4 (by decide) ?_
  obtain ⟨m, hm⟩ : ∃ m : Nat, n = 1 + m := ⟨(n - 1).toNat, by omega⟩
  have em : n.toNat = m + 1 := by omega
  have hp : p40 (m + 1) ≤ 2560000 := by
    have : m = 1 ∨ m = 2 ∨ m = 3 := by omega
    rcases this with rfl | rfl | rfl <;> decide
  have es : sqA g n = foldN (sqS g n m 0 (fun _ => 0)) (gn g).toNat (0, fun _ => 0) := by
    unfold sqA
    rw [em]; rfl
  refine mLevel r (by omega) n1 m 0 (fun _ => 0) (0, fun _ => 0) (by omega) (Int.le_refl 0) (by show (0 : Int) + _ ≤ _; omega) (fun i i0 i1 => by omega) ((gn g).toNat + 2) (-1) _ (by omega) (by omega) (by omega) ((Fr.wI (Or.inr (by decide))).trans (Fr.wI (Or.inl (by decide)))) rI_eq (fun i i0 i1 => by omega) (by
    rw [show min (-1 + 1) (gn g) = 0 by omega]
    exact ⟨by rw [rI_ne (by decide)]; exact rI_eq, fun z => absurd rfl z⟩) (fun h' f' _ a' => s_M_laysSquares_14 ⟨fun _ => ?_, fun z => by omega⟩)
  have a' : AccM n (foldN (sqS g n m 0 (fun _ => 0)) (gn g).toNat (0, fun _ => 0)) h' := a'
  rw [← es] at a'
  exact fin h' f' a'
end MSQ

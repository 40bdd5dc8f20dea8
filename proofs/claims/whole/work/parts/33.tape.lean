/-! the tape: how many bytes, and which (0 to 255) -/
abbrev Tp : Type := Int × (Int → Int)
def RepMT (t : Tp) (h : AH) : Prop := (0 ≤ t.1 ∧ t.1 ≤ 200) ∧ h.1 12 11 = t.1 ∧ ∀ k, 0 ≤ k → k < t.1 → (0 ≤ t.2 k ∧ t.2 k < 256) ∧ h.1 64 k = sgn (t.2 k)
def RepCT (t : Tp) (h : AH) : Prop := (0 ≤ t.1 ∧ t.1 ≤ 200) ∧ h.1 1 1 = t.1 ∧ ∀ k, 0 ≤ k → k < t.1 → (0 ≤ t.2 k ∧ t.2 k < 256) ∧ h.1 13 k = t.2 k
/-- what was taken last, as the class can read it -/
def TakC (n : Int) (f : Int → Int) (h : AH) : Prop := h.1 1 2 = n ∧ (0 ≤ n ∧ n ≤ 200) ∧ ∀ k, 0 ≤ k → k < n → (0 ≤ f k ∧ f k < 256) ∧ h.1 13 k = f k
def fedT (t : Tp) (v : Int) : Tp := (t.1 + 4, fun k => if k < t.1 then t.2 k else byt v (k - t.1))
def fed5 (t : Tp) (a b c d e : Int) : Tp := fedT (fedT (fedT (fedT (fedT t a) b) c) d) e
theorem RepMT.fr {t : Tp} {L : List Nat} {F : List (Nat × Int)} {h h' : AH} (r : RepMT t h) (f : Fr L F h h') (h1 : (∀ o ∈ [12, 64], o ∉ L) := by decide) (h2 : 64 ∉ F.map Prod.fst := by decide) (h3 : ((12 : Nat), (11 : Int)) ∉ F := by decide) : RepMT t h' := by
  refine ⟨r.1, by rw [f.f 12 11 (h1 12 (by decide)) h3]; exact r.2.1, fun k a b => ?_⟩
  rw [f.i 64 (h1 64 (by decide)) h2]
  exact r.2.2 k a b
theorem RepCT.fr {t : Tp} {L : List Nat} {F : List (Nat × Int)} {h h' : AH} (r : RepCT t h) (f : Fr L F h h') (h1 : (∀ o ∈ [1, 13], o ∉ L) := by decide) (h2 : 13 ∉ F.map Prod.fst := by decide) (h3 : ((1 : Nat), (1 : Int)) ∉ F := by decide) : RepCT t h' := by
  refine ⟨r.1, by rw [f.f 1 1 (h1 1 (by decide)) h3]; exact r.2.1, fun k a b => ?_⟩
  rw [f.i 13 (h1 13 (by decide)) h2]
  exact r.2.2 k a b
theorem TakC.fr {n : Int} {q : Int → Int} {L : List Nat} {F : List (Nat × Int)} {h h' : AH} (r : TakC n q h) (f : Fr L F h h') (h1 : (∀ o ∈ [1, 13], o ∉ L) := by decide) (h2 : 13 ∉ F.map Prod.fst := by decide) (h3 : ((1 : Nat), (2 : Int)) ∉ F := by decide) : TakC n q h' := by
  refine ⟨by rw [f.f 1 2 (h1 1 (by decide)) h3]; exact r.1, r.2.1, fun k a b => ?_⟩
  rw [f.i 13 (h1 13 (by decide)) h2]
  exact r.2.2 k a b
section T1
variable {d : Nat} {h : AH} {K : Int → AH → Prop} {t : Tp}
theorem mTypes (hd : 0 < d) {v : Int} (hv : inI v) (r : RepMT t h) (hn : t.1 + 4 ≤ 200) (k : ∀ h', RepMT (fedT t v) h' → Fr [64] [(12, 11)] h h' → K 0 h') : Call d M_M_types [vR 12 (-1), vI v] h K := by
  obtain ⟨r1, r2, r3⟩ := r
  refine c_M_types 0 hd ?_
  have key : ∀ m : Nat, ∀ (j : Int) (hh : AH), -1 ≤ j → j ≤ 3 → j + 1 = m → hh.1 12 11 = t.1 + (3 - j) → (∀ k, 0 ≤ k → k < t.1 + (3 - j) → hh.1 64 k = sgn (if k < t.1 then t.2 k else byt v (k - t.1))) → Fr [64] [(12, 11)] h hh → A_M_types_2 0 K v j hh := by
    intro m
    induction m with
    | zero =>
      intro j hh a b e f1 f2 f3
      refine s_M_types_2 ⟨fun c => k hh ⟨⟨by show 0 ≤ t.1 + 4; omega, hn⟩, by rw [f1]; show _ = t.1 + 4; omega, fun i x y => ⟨?_, f2 i x (by have y2 : i < t.1 + 4 := y; omega)⟩⟩ f3, fun c => by omega⟩
      show 0 ≤ (if i < t.1 then t.2 i else byt v (i - t.1)) ∧ (if i < t.1 then t.2 i else byt v (i - t.1)) < 256
      split
      · exact (r3 i x (by assumption)).1
      · exact byt_b _ _
    | succ m ih =>
      intro j hh a b e f1 f2 f3
      have hb := byt_m hv j (by omega) b
      have hs := sgn_b (byt_b v (3 - j)).1 (byt_b v (3 - j)).2
      refine s_M_types_2 ⟨fun c => by omega, fun c => ?_⟩
      rw [f1, hb]
      refine ⟨ii (by omega), ib (by omega), hs, ii (by omega), ii (by omega), ih (j - 1) _ (by omega) (by omega) (by omega) ?_ (fun i x y => ?_) ?_⟩
      · rw [rI_eq]; omega
      · rw [rI_ne (by decide)]
        by_cases hi : i = t.1 + (3 - j)
        · rw [hi, rI_eq, if_neg (by omega), show t.1 + (3 - j) - t.1 = 3 - j by omega]
        · rw [rI_nk hi]
          exact f2 i x (by omega)
      · exact f3.trans ((Fr.wI (Or.inl (by decide))).trans (Fr.wI (Or.inr (by decide))))
  exact key 4 3 h (by decide) (by decide) (by decide) (by omega) (fun i x y => by rw [if_pos (by omega)]; exact (r3 i x (by omega)).2) Fr.refl
theorem mFeed (hd : 1 < d) {a b c e f : Int} (ha : inI a) (hb : inI b) (hc : inI c) (he : inI e) (hf : inI f) (r : RepMT t h) (kT : t.1 + 20 ≤ 200 → ∀ h', RepMT (fed5 t a b c e f) h' → Fr [64] [(12, 11)] h h' → K (t.1 + 20) h') (kF : ¬ (t.1 + 20 ≤ 200) → K (-1) h) : Call d M_M_feed [vR 12 (-1), vI a, vI b, vI c, vI e, vI f] h K := by
  have e1 := r.2.1
  have e2 := r.1
  refine c_M_feed 1 hd ?_
  rw [e1]
  refine ⟨ii (by omega), fun g => ?_, fun g => kF (by omega)⟩
  refine mTypes (by decide) ha r (by omega) (fun h1 r1 f1 => ?_)
  refine mTypes (by decide) hb r1 (by show t.1 + 4 + 4 ≤ 200; omega) (fun h2 r2 f2 => ?_)
  refine mTypes (by decide) hc r2 (by show t.1 + 4 + 4 + 4 ≤ 200; omega) (fun h3 r3 f3 => ?_)
  refine mTypes (by decide) he r3 (by show t.1 + 4 + 4 + 4 + 4 ≤ 200; omega) (fun h4 r4 f4 => ?_)
  refine mTypes (by decide) hf r4 (by show t.1 + 4 + 4 + 4 + 4 + 4 ≤ 200; omega) (fun h5 r5 f5 => ?_)
  have e5 : h5.1 12 11 = t.1 + 20 := by
    rw [r5.2.1]
    show t.1 + 4 + 4 + 4 + 4 + 4 = _
    omega
  rw [e5]
  exact kT g h5 r5 ((((f1.trans f2).trans f3).trans f4).trans f5)
/-! the class' tape -/
theorem tByte (hd : 0 < d) {n i : Int} {f : Int → Int} (r : TakC n f h) (kT : 0 ≤ i → i < n → K (f i) h) (kF : ¬ (0 ≤ i ∧ i < n) → K (-1) h) : Call d M_Tape_byteAt [vR 1 (-1), vI i] h K := by
  obtain ⟨r1, r2, r3⟩ := r
  refine c_Tape_byteAt 0 hd ⟨fun c => kF (by omega), fun c => ⟨fun c2 => kF (by omega), fun c2 => ⟨fun c3 => by omega, fun c3 => ⟨ib (by omega), ?_⟩⟩⟩⟩
  rw [(r3 i c (by omega)).2]
  exact kT c (by omega)
theorem tTake (hd : 0 < d) {n : Int} (r : RepCT t h) (kT : 0 ≤ n → n ≤ t.1 → ∀ h', RepCT (0, t.2) h' → TakC n t.2 h' → Fr [] [(1, 1), (1, 2)] h h' → K 1 h') (kF : ¬ (0 ≤ n ∧ n ≤ t.1) → K 0 h) : Call d M_Tape_take [vR 1 (-1), vI n] h K := by
  obtain ⟨r1, r2, r3⟩ := r
  refine c_Tape_take 0 hd ⟨fun c => kF (by omega), fun c => ⟨fun c2 => kT c (by omega) _ ⟨⟨Int.le_refl 0, by show (0 : Int) ≤ 200; decide⟩, rI_eq, fun k x y => by have y2 : k < 0 := y; omega⟩ ⟨?_, by omega, fun k x y => ?_⟩ ?_, fun c2 => kF (by omega)⟩⟩
  · rw [rI_nk (by decide), rI_eq]
  · rw [rI_ne (by decide), rI_ne (by decide)]
    exact r3 k x (by omega)
  · exact (Fr.wI (Or.inr (by decide))).trans (Fr.wI (Or.inr (by decide)))
theorem tHasRoom (hd : 0 < d) (r : RepCT t h) (kT : t.1 + 20 ≤ 200 → K 1 h) (kF : ¬ (t.1 + 20 ≤ 200) → K 0 h) : Call d M_Tape_hasRoom [vR 1 (-1)] h K := by
  obtain ⟨r1, r2, r3⟩ := r
  exact c_Tape_hasRoom 0 hd ⟨ii (by omega), fun c => kF (by omega), fun c => kT (by omega)⟩
theorem tPut (hd : 0 < d) {v : Int} (hv : inI v) (r : RepCT t h) (hn : t.1 + 4 ≤ 200) (k : ∀ h', RepCT (fedT t v) h' → Fr [13] [(1, 1)] h h' → K 0 h') : Call d M_Tape_putNumber [vR 1 (-1), vI v] h K := by
  obtain ⟨r1, r2, r3⟩ := r
  refine c_Tape_putNumber 0 hd ?_
  have key : ∀ m : Nat, ∀ (j : Int) (hh : AH), -1 ≤ j → j ≤ 3 → j + 1 = m → hh.1 1 1 = t.1 + (3 - j) → (∀ k, 0 ≤ k → k < t.1 + (3 - j) → hh.1 13 k = (if k < t.1 then t.2 k else byt v (k - t.1))) → Fr [13] [(1, 1)] h hh → A_Tape_putNumber_3 0 K v (8 * j) hh := by
    intro m
    induction m with
    | zero =>
      intro j hh a b e f1 f2 f3
      refine s_Tape_putNumber_3 ⟨fun c => k hh ⟨⟨by show 0 ≤ t.1 + 4; omega, hn⟩, by rw [f1]; show _ = t.1 + 4; omega, fun i x y => ⟨?_, f2 i x (by have y2 : i < t.1 + 4 := y; omega)⟩⟩ f3, fun c => by omega⟩
      show 0 ≤ (if i < t.1 then t.2 i else byt v (i - t.1)) ∧ (if i < t.1 then t.2 i else byt v (i - t.1)) < 256
      split
      · exact (r3 i x (by assumption)).1
      · exact byt_b _ _
    | succ m ih =>
      intro j hh a b e f1 f2 f3
      refine s_Tape_putNumber_3 ⟨fun c => by omega, fun c => ?_⟩
      rw [f1, byt_c v j (by omega) b, show 8 * j - 8 = 8 * (j - 1) by omega]
      refine ⟨fun c2 => by omega, fun c2 => ⟨ib (by omega), ii (by omega), ii (by omega), ih (j - 1) _ (by omega) (by omega) (by omega) ?_ (fun i x y => ?_) ?_⟩⟩
      · rw [rI_eq]; omega
      · rw [rI_ne (by decide)]
        by_cases hi : i = t.1 + (3 - j)
        · rw [hi, rI_eq, if_neg (by omega), show t.1 + (3 - j) - t.1 = 3 - j by omega]
        · rw [rI_nk hi]
          exact f2 i x (by omega)
      · exact f3.trans ((Fr.wI (Or.inl (by decide))).trans (Fr.wI (Or.inr (by decide))))
  exact key 4 3 h (by decide) (by decide) (by decide) (by omega) (fun i x y => by rw [if_pos (by omega)]; exact (r3 i x (by omega)).2) Fr.refl
theorem tLetterAt (hd : 1 < d) {n i : Int} {f : Int → Int} (r : TakC n f h) (h0 : 0 ≤ i) (h1 : i < n) (k : K (f i - 97) h) : Call d M_Tape_letterAt [vR 1 (-1), vI i] h K := by
  have b := (r.2.2 i h0 h1).1
  exact c_Tape_letterAt 1 hd (tByte (by decide) r (fun _ _ => ⟨ii (by omega), k⟩) (fun c => absurd ⟨h0, h1⟩ c))
def isLet (b : Int) : Prop := 97 ≤ b ∧ b ≤ 122
theorem tIsLetterAt (hd : 1 < d) {n i : Int} {f : Int → Int} (r : TakC n f h) (h0 : 0 ≤ i) (h1 : i < n) (kT : isLet (f i) → K 1 h) (kF : ¬ isLet (f i) → K 0 h) : Call d M_Tape_isLetterAt [vR 1 (-1), vI i] h K := by
  refine c_Tape_isLetterAt 1 hd (tByte (by decide) r (fun _ _ => ⟨fun c => kF (fun z => by have := z.1; omega), fun c => tByte (by decide) r (fun _ _ => ⟨fun c2 => kF (fun z => by have := z.2; omega), fun c2 => kT ⟨c, c2⟩⟩) (fun c => absurd ⟨h0, h1⟩ c)⟩) (fun c => absurd ⟨h0, h1⟩ c))
theorem tAllLetters (hd : 2 < d) {n : Int} {f : Int → Int} (r : TakC n f h) (kT : (∀ i, 0 ≤ i → i < n → isLet (f i)) → K 1 h) (kF : ¬ (∀ i, 0 ≤ i → i < n → isLet (f i)) → K 0 h) : Call d M_Tape_isAllLetters [vR 1 (-1)] h K := by
  have nb := r.2.1
  refine c_Tape_isAllLetters 2 hd ?_
  have key : ∀ m : Nat, ∀ v : Int, 0 ≤ v → v ≤ n → n - v < m → (∀ i, 0 ≤ i → i < v → isLet (f i)) → A_Tape_isAllLetters_2 2 K v h := by
    intro m
    induction m with
    | zero => intro v a b e; omega
    | succ m ih =>
      intro v a b e hv
      refine s_Tape_isAllLetters_2 ?_
      rw [r.1]
      refine ⟨fun c => kT (fun i x y => hv i x (by omega)), fun c => tIsLetterAt (by decide) r a c (fun s => br1' ⟨ii (by omega), ih (v + 1) (by omega) (by omega) (by omega) (fun i x y => ?_)⟩) (fun s => br0' (kF (fun z => s (z v a c))))⟩
      by_cases hi : i = v
      · rw [hi]; exact s
      · exact hv i x (by omega)
  exact key (n.toNat + 1) 0 (by omega) (by omega) (by omega) (fun i x y => by omega)
end T1

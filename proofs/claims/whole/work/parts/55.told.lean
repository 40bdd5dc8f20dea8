/-! words that are told: the first p bytes of the tape -/
def ToldOk (g : G) (f : Int → Int) (p : Int) : Prop := ∀ i, 0 ≤ i → i < p → (0 ≤ f i ∧ f i < gn g) ∧ ∀ j, 0 ≤ j → j < i → f j ≠ f i
theorem ToldOk.next {g : G} {f : Int → Int} {p : Int} (t : ToldOk g f p) (h0 : 0 ≤ f p ∧ f p < gn g) (h1 : ∀ j, 0 ≤ j → j < p → f j ≠ f p) : ToldOk g f (p + 1) := fun i i0 i1 => by
  by_cases e : i = p
  · rw [e]; exact ⟨h0, h1⟩
  · exact t i i0 (by omega)
section TO
variable {d : Nat} {g : G} {h : AH} {K : Int → AH → Prop}
theorem mTakesWords (hd : 1 < d) {p : Int} {t : Tp} (r : RepM g h) (rt : RepMT t h) (p0 : 0 ≤ p) (p1 : p ≤ 14) (p2 : p ≤ t.1) (kT : ∀ h', ToldOk g t.2 p → (∀ i, 0 ≤ i → i < p → h'.1 88 i = t.2 i) → RepMT (0, t.2) h' → Fr [88] [(12, 11)] h h' → K 1 h') (kF : ∀ h', ¬ ToldOk g t.2 p → RepMT (0, t.2) h' → Fr [88] [(12, 11)] h h' → K 0 h') : Call d M_M_takesWords [vR 12 (-1), vI p] h K := by
  have nb := r.ok.nb
  have f0 : Fr [88] [(12, 11)] h (wI h 12 11 0) := Fr.wI (Or.inr (by decide))
  have t0 : RepMT (0, t.2) (wI h 12 11 0) := ⟨⟨Int.le_refl 0, show (0 : Int) ≤ 200 by decide⟩, rI_eq, fun k k0 k1 => by have k1 : k < 0 := k1; omega⟩
  have e64 : ∀ i, 0 ≤ i → i < p → (wI h 12 11 0).1 64 i = sgn (t.2 i) := fun i i0 i1 => by
    rw [rI_ne (by decide)]
    exact (rt.2.2 i i0 (by omega)).2
  refine c_M_takesWords 1 hd ?_
  have key : ∀ m : Nat, ∀ (v2 : Int) (hh : AH), 0 ≤ v2 → v2 ≤ p → p - v2 < m → ToldOk g t.2 v2 → (∀ i, 0 ≤ i → i < v2 → hh.1 88 i = t.2 i) → Fr [88] [] (wI h 12 11 0) hh → A_M_takesWords_7 1 K p v2 hh := by
    intro m
    induction m with
    | zero => intro v2 hh x1 x2 e; omega
    | succ m ih =>
      intro v2 hh x1 x2 e to tl f
      have fh : Fr [88] [(12, 11)] h hh := f0.trans (f.mono (by decide) (by decide))
      refine s_M_takesWords_7 ⟨fun c => ?_, fun c => ?_⟩
      · have e2 : v2 = p := by omega
        rw [e2] at to tl
        exact kT hh to tl (t0.fr f) fh
      · have eb : hh.1 64 v2 = sgn (t.2 v2) := by rw [f.i 64]; exact e64 v2 x1 c
        have bb := (rt.2.2 v2 x1 (by omega)).1
        have f1 : Fr [88] [] (wI h 12 11 0) (wI hh 88 v2 (hh.1 64 v2)) := f.trans (Fr.wI (Or.inl (by decide)))
        have fh1 : Fr [88] [(12, 11)] h (wI hh 88 v2 (hh.1 64 v2)) := f0.trans (f1.mono (by decide) (by decide))
        have sg : sgn (t.2 v2) = t.2 v2 ∨ (sgn (t.2 v2) < 0 ∧ 128 ≤ t.2 v2) := by
          unfold sgn
          split
          · exact Or.inl rfl
          · right; omega
        refine ⟨ib (by omega), ib (by omega), mIsWord (by decide) (r.fr fh1) (fun w0 w1 => br1' ?_) (fun nw => br0' (kF _ (fun z => ?_) (t0.fr f1) fh1))⟩
        · rw [eb] at w0 w1
          have es : sgn (t.2 v2) = t.2 v2 := by omega
          rw [es] at w0 w1
          have e88 : ∀ i, 0 ≤ i → i < v2 + 1 → (wI hh 88 v2 (hh.1 64 v2)).1 88 i = t.2 i := fun i i0 i1 => by
            by_cases z : i = v2
            · rw [z, rI_eq, eb, es]
            · rw [rI_nk z]; exact tl i i0 (by omega)
          have inner : ∀ m : Nat, ∀ v3 : Int, 0 ≤ v3 → v3 ≤ v2 → v2 - v3 < m → (∀ j, 0 ≤ j → j < v3 → t.2 j ≠ t.2 v2) → A_M_takesWords_41 1 K p v2 v3 (wI hh 88 v2 (hh.1 64 v2)) := by
            intro m
            induction m with
            | zero => intro v3 y1 y2 e; omega
            | succ m ih2 =>
              intro v3 y1 y2 e2 tj
              refine s_M_takesWords_41 ⟨fun c2 => ⟨ii (by omega), ih (v2 + 1) _ (by omega) (by omega) (by omega) (to.next ⟨w0, w1⟩ (fun j j0 j1 => tj j j0 (by omega))) e88 f1⟩, fun c2 => ⟨ib (by omega), ib (by omega), ?_⟩⟩
              rw [e88 v3 y1 (by omega), e88 v2 x1 (by omega)]
              refine ⟨fun c3 => ⟨ii (by omega), ih2 (v3 + 1) (by omega) (by omega) (by omega) (fun j j0 j1 => ?_)⟩, fun c3 => kF _ (fun z => (z v2 x1 c).2 v3 y1 c2 c3) (t0.fr f1) fh1⟩
              by_cases ej : j = v3
              · rw [ej]; exact c3
              · exact tj j j0 (by omega)
          exact inner (v2.toNat + 1) 0 (by decide) x1 (by omega) (fun j j0 j1 => by omega)
        · have q := (z v2 x1 c).1
          rw [eb] at nw
          omega
  exact key (p.toNat + 1) 0 _ (by decide) p0 (by omega) (fun i i0 i1 => by omega) (fun i i0 i1 => by omega) Fr.refl
theorem mAreUsed (hd : 1 < d) {p : Int} {f : Int → Int} (r : RepM g h) (p0 : 0 ≤ p) (p1 : p ≤ 14) (to : ToldOk g f p) (tl : ∀ i, 0 ≤ i → i < p → h.1 88 i = f i) (kT : (∀ i, 0 ≤ i → i < p → us g (f i)) → K 1 h) (kF : ¬ (∀ i, 0 ≤ i → i < p → us g (f i)) → K 0 h) : Call d M_M_areUsed [vR 12 (-1), vI p] h K := by
  refine c_M_areUsed 1 hd ?_
  have key : ∀ m : Nat, ∀ v2 : Int, 0 ≤ v2 → v2 ≤ p → p - v2 < m → (∀ i, 0 ≤ i → i < v2 → us g (f i)) → A_M_areUsed_2 1 K p v2 h := by
    intro m
    induction m with
    | zero => intro v2 x1 x2 e; omega
    | succ m ih =>
      intro v2 x1 x2 e t
      refine s_M_areUsed_2 ⟨fun c => kT (fun i i0 i1 => t i i0 (by omega)), fun c => ⟨ib (by omega), ?_⟩⟩
      rw [tl v2 x1 c]
      have q := (to v2 x1 c).1
      exact mIsUsed (by decide) r q.1 q.2 (fun u => br1' ⟨ii (by omega), ih (v2 + 1) (by omega) (by omega) (by omega) (fun i i0 i1 => by
        by_cases z : i = v2
        · rw [z]; exact u
        · exact t i i0 (by omega))⟩) (fun nu => br0' (kF (fun z => nu (z v2 x1 c))))
  exact key (p.toNat + 1) 0 (by decide) p0 (by omega) (fun i i0 i1 => by omega)
theorem cAreUsed (hd : 2 < d) {p : Int} {f : Int → Int} (r : RepCW g h) (e10 : h.1 10 10 = p) (p0 : 0 ≤ p) (p1 : p ≤ 14) (to : ToldOk g f p) (tl : ∀ i, 0 ≤ i → i < p → h.1 48 i = f i) (kT : (∀ i, 0 ≤ i → i < p → us g (f i)) → K 1 h) (kF : ¬ (∀ i, 0 ≤ i → i < p → us g (f i)) → K 0 h) : Call d M_Told_areUsed [vR 10 (-1)] h K := by
  refine c_Told_areUsed 2 hd ?_
  have key : ∀ m : Nat, ∀ v2 : Int, 0 ≤ v2 → v2 ≤ p → p - v2 < m → (∀ i, 0 ≤ i → i < v2 → us g (f i)) → A_Told_areUsed_2 2 K v2 h := by
    intro m
    induction m with
    | zero => intro v2 x1 x2 e; omega
    | succ m ih =>
      intro v2 x1 x2 e t
      refine s_Told_areUsed_2 ?_
      rw [e10]
      refine ⟨fun c => kT (fun i i0 i1 => t i i0 (by omega)), fun c => ⟨ib (by omega), ?_⟩⟩
      rw [tl v2 x1 c]
      have q := (to v2 x1 c).1
      exact wIsUsed (by decide) r (fun _ _ u => br1' ⟨ii (by omega), ih (v2 + 1) (by omega) (by omega) (by omega) (fun i i0 i1 => by
        by_cases z : i = v2
        · rw [z]; exact u
        · exact t i i0 (by omega))⟩) (fun nu => br0' (kF (fun z => nu ⟨q.1, q.2, z v2 x1 c⟩)))
  exact key (p.toNat + 1) 0 (by decide) p0 (by omega) (fun i i0 i1 => by omega)
end TO

/-! the class: words that are told -/
section RW
variable {d : Nat} {g : G} {h : AH} {K : Int → AH → Prop}
theorem cReadWords (hd : 1 < d) {p : Int} {f : Int → Int} (r : RepCW g h) (rt : TakC p f h) (p0 : 0 ≤ p) (p1 : p ≤ 14) (kT : ∀ h', ToldOk g f p → h'.1 10 10 = p → (∀ i, 0 ≤ i → i < p → h'.1 48 i = f i) → Fr [48] [(10, 10)] h h' → K 1 h') (kF : ∀ h', ¬ ToldOk g f p → Fr [48] [(10, 10)] h h' → K 0 h') : Call d M_Told_readWords [vR 10 (-1), vI p] h K := by
  have nb := r.ok.nb
  refine c_Told_readWords 1 hd ?_
  have key : ∀ m : Nat, ∀ (N : Nat) (v4 : Int) (hh : AH), 0 ≤ v4 → v4 ≤ p → p - v4 < m → N < 1099511627776 → (∀ b : Nat, N.testBit b = true ↔ ∃ j, 0 ≤ j ∧ j < v4 ∧ f j = b) → ToldOk g f v4 → hh.1 10 10 = v4 → (∀ i, 0 ≤ i → i < v4 → hh.1 48 i = f i) → Fr [48] [(10, 10)] h hh → A_Told_readWords_10 1 K p N v4 hh := by
    intro m
    induction m with
    | zero => intro N v4 hh x1 x2 e; omega
    | succ m ih =>
      intro N v4 hh x1 x2 e hN hb to e10 tl fr
      have q : TakC p f hh := ⟨by rw [fr.f 1 2]; exact rt.1, rt.2.1, fun k k0 k1 => ⟨(rt.2.2 k k0 k1).1, by rw [fr.i 13]; exact (rt.2.2 k k0 k1).2⟩⟩
      refine s_Told_readWords_10 ⟨fun c => ?_, fun c => ⟨fun c2 => by omega, fun c2 => tByte (by decide) q (fun _ _ => wHas (by decide) (r.fr fr) (fun w0 w1 => br1 ?_) (fun nw => br0 (kF hh (fun z => nw (z v4 x1 c).1) fr))) (fun z => absurd ⟨x1, c⟩ z)⟩⟩
      · have e4 : v4 = p := by omega
        rw [e4] at to e10 tl
        exact kT hh to e10 tl fr
      · have ew : f v4 = (((f v4).toNat : Nat) : Int) := by omega
        have ba := bit_and (U := N) hN (w := (f v4).toNat) (by omega)
        have bo := bit_or hN (w := (f v4).toNat) (by omega)
        rw [← ew] at ba bo
        rw [ba]
        by_cases ht : N.testBit (f v4).toNat = true
        · rw [if_pos ht]
          obtain ⟨j, j0, j1, j2⟩ := (hb _).mp ht
          exact br1 (kF hh (fun z => (z v4 x1 c).2 j j0 j1 (by rw [j2]; exact ew.symm)) fr)
        · rw [if_neg ht]
          refine br0 ⟨ib (by omega), ii (by omega), ii (by omega), ?_⟩
          rw [bo.1]
          refine ih _ (v4 + 1) _ (by omega) (by omega) (by omega) bo.2 (fun b => ?_) (to.next ⟨w0, w1⟩ (fun j j0 j1 z => ht ((hb _).mpr ⟨j, j0, j1, by rw [z]; exact ew⟩))) (by rw [rI_eq, e10]) (fun i i0 i1 => ?_) ((fr.trans (Fr.wI (Or.inl (by decide)))).trans (Fr.wI (Or.inr (by decide))))
          · rw [bit_or_test, hb]
            refine ⟨fun z => ?_, fun ⟨j, j0, j1, j2⟩ => ?_⟩
            · rcases z with ⟨j, j0, j1, j2⟩ | z
              · exact ⟨j, j0, by omega, j2⟩
              · exact ⟨v4, x1, by omega, by omega⟩
            · by_cases y : j = v4
              · rw [y] at j2; exact Or.inr (by omega)
              · exact Or.inl ⟨j, j0, by omega, j2⟩
          · rw [rI_ne (by decide)]
            by_cases z : i = v4
            · rw [z, rI_eq]
            · rw [rI_nk z]; exact tl i i0 (by omega)
  have f0 : Fr [48] [(10, 10)] h (wI h 10 10 0) := Fr.wI (Or.inr (by decide))
  exact key (p.toNat + 1) 0 0 _ (by decide) p0 (by omega) (by decide) (fun b => ⟨fun z => by simp at z, fun ⟨j, j0, j1, _⟩ => by omega⟩) (fun i i0 i1 => by omega) rI_eq (fun i i0 i1 => by omega) f0
end RW

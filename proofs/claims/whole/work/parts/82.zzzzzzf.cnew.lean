/-! the class' best row -/
theorem cnt_one {Q Q' : Int → Prop} {v0 : Int} : ∀ n : Nat, (∀ v : Int, 0 ≤ v → v < n → Q' v → Q v ∨ v = v0) → cnt Q' n ≤ cnt Q n + 1 ∧ ((n : Int) ≤ v0 → cnt Q' n ≤ cnt Q n)
  | 0, _ => ⟨by show (0 : Int) ≤ 0 + 1; omega, fun _ => Int.le_refl _⟩
  | n + 1, hh => by
    have ih := cnt_one n (fun v a b => hh v a (by omega))
    by_cases q : Q' n
    · rw [cnt_t q]
      by_cases p : Q n
      · rw [cnt_t p]
        exact ⟨by omega, fun z => by have := ih.2 (by omega); omega⟩
      · rw [cnt_f p]
        have e : (n : Int) = v0 := (hh n (by omega) (by omega) q).elim (fun y => absurd y p) id
        have := ih.2 (by omega)
        exact ⟨by omega, fun z => by omega⟩
    · rw [cnt_f q]
      by_cases p : Q n
      · rw [cnt_t p]
        exact ⟨by omega, fun z => by omega⟩
      · rw [cnt_f p]
        exact ⟨ih.1, fun z => ih.2 (by omega)⟩
theorem cnt_img {P : Int → Prop} {H : Int → Int → Prop} (fn : ∀ w v v', H w v → H w v' → v = v') (n : Nat) : ∀ m : Nat, cnt (fun v => ∃ w : Int, (0 ≤ w ∧ w < m) ∧ P w ∧ H w v) n ≤ cnt P m
  | 0 => by
    have e := cnt_none (P := fun v => ∃ w : Int, (0 ≤ w ∧ w < ((0 : Nat) : Int)) ∧ P w ∧ H w v) n (fun v _ _ ⟨w, a, _⟩ => by omega)
    rw [e]
    exact Int.le_refl _
  | m + 1 => by
    have ih := cnt_img (P := P) fn n m
    by_cases p : P m
    · rw [cnt_t p]
      by_cases q : ∃ v0, H m v0
      · obtain ⟨v0, q⟩ := q
        have := (cnt_one (Q := fun v => ∃ w : Int, (0 ≤ w ∧ w < (m : Int)) ∧ P w ∧ H w v) (Q' := fun v => ∃ w : Int, (0 ≤ w ∧ w < ((m + 1 : Nat) : Int)) ∧ P w ∧ H w v) (v0 := v0) n (fun v v0' v1 ⟨w, a, b, c⟩ => by
          by_cases z : w = m
          · rw [z] at c
            exact Or.inr (fn _ _ _ c q)
          · exact Or.inl ⟨w, by omega, b, c⟩)).1
        omega
      · have := cnt_mono (P := fun v => ∃ w : Int, (0 ≤ w ∧ w < ((m + 1 : Nat) : Int)) ∧ P w ∧ H w v) (P' := fun v => ∃ w : Int, (0 ≤ w ∧ w < (m : Int)) ∧ P w ∧ H w v) n (fun v _ _ ⟨w, a, b, c⟩ => by
          by_cases z : w = m
          · rw [z] at c
            exact absurd ⟨v, c⟩ q
          · exact ⟨w, by omega, b, c⟩)
        omega
    · rw [cnt_f p]
      have := cnt_mono (P := fun v => ∃ w : Int, (0 ≤ w ∧ w < ((m + 1 : Nat) : Int)) ∧ P w ∧ H w v) (P' := fun v => ∃ w : Int, (0 ≤ w ∧ w < (m : Int)) ∧ P w ∧ H w v) n (fun v _ _ ⟨w, a, b, c⟩ => by
        by_cases z : w = m
        · rw [z] at b
          exact absurd b p
        · exact ⟨w, by omega, b, c⟩)
      omega
section CNG
variable {d : Nat} {g : G} {lw : LW} {h : AH} {Q : Int → AH → Prop} {n : Int} {f : Int → Int}
theorem jH_le (ok : OkG g) : jH g lw n f ≤ jW g n f := by
  have nb := ok.nb
  have e := cnt_img (P := fun w => us g w ∧ NearR g w n f) (H := fun w v => HeapIs g lw w v) (fun w v v' a b => a.uniq b) (gn g).toNat (gn g).toNat
  have e2 : jH g lw n f = cnt (fun v => ∃ w : Int, (0 ≤ w ∧ w < (((gn g).toNat : Nat) : Int)) ∧ (us g w ∧ NearR g w n f) ∧ HeapIs g lw w v) (gn g).toNat := cnt_ext _ (fun v _ _ => ⟨fun ⟨w, a, b, c, e⟩ => ⟨w, by omega, ⟨b, c⟩, e⟩, fun ⟨w, a, b, e⟩ => ⟨w, by omega, b.1, b.2, e⟩⟩)
  rw [e2]
  exact e
theorem sameKey {n' : Int} {f' : Int → Int} (a : NewOk g n' f') (n0 : 1 ≤ n ∧ n ≤ 8) (ok : okF f n.toNat) (e : keyN f' n'.toNat = keyN f n.toNat) : NewOk g n f ∧ jH g lw n' f' = jH g lw n f ∧ jW g n' f' = jW g n f := by
  have b := a.1
  have q := key_inj (by omega) (by omega) a.2.1 ok e
  have en : n' = n := by omega
  subst en
  have ex : ∀ k, 0 ≤ k → k < n' → f' k = f k := fun k k0 k1 => q.2 k k0 (by omega)
  exact ⟨a.ext ex, jH_ext ex, jW_ext ex⟩
def BestC (g : G) (lw : LW) (S : Nat → Prop) (h : AH) : Prop := (h.1 8 8 = 0 ∧ h.1 8 9 = 0 ∧ ∀ n f, S (keyN f n.toNat) → ¬ NewOk g n f) ∨ ∃ n f, NewOk g n f ∧ h.1 8 8 = jH g lw n f ∧ h.1 8 9 = jW g n f ∧ h.2.1 8 10 = (keyN f n.toNat : Int) ∧ ∀ n' f', S (keyN f' n'.toNat) → NewOk g n' f' → Bt g lw n f n' f'
theorem BestC.congr {S S' : Nat → Prop} (b : BestC g lw S h) (e : ∀ x, S' x → S x) : BestC g lw S' h := by
  rcases b with ⟨b1, b2, b3⟩ | ⟨n, f, b1, b2, b3, b4, b5⟩
  · exact Or.inl ⟨b1, b2, fun n f s => b3 n f (e _ s)⟩
  · exact Or.inr ⟨n, f, b1, b2, b3, b4, fun n' f' s => b5 n' f' (e _ s)⟩
theorem BestC.skip {S : Nat → Prop} (b : BestC g lw S h) (n0 : 1 ≤ n ∧ n ≤ 8) (ok : okF f n.toNat) (no : ¬ NewOk g n f) : BestC g lw (fun x => S x ∨ x = keyN f n.toNat) h := by
  rcases b with ⟨b1, b2, b3⟩ | ⟨n1, f1, b1, b2, b3, b4, b5⟩
  · exact Or.inl ⟨b1, b2, fun n' f' s a => s.elim (fun s => b3 n' f' s a) (fun s => no (sameKey (lw := lw) a n0 ok s).1)⟩
  · exact Or.inr ⟨n1, f1, b1, b2, b3, b4, fun n' f' s a => s.elim (fun s => b5 n' f' s a) (fun s => absurd (sameKey (lw := lw) a n0 ok s).1 no)⟩
theorem Bt.same {n1 n2 : Int} {f1 f2 : Int → Int} (b : Bt g lw n1 f1 n f) (e : keyN f2 n2.toNat = keyN f n.toNat) (e1 : jH g lw n2 f2 = jH g lw n f) (e2 : jW g n2 f2 = jW g n f) : Bt g lw n1 f1 n2 f2 := by
  unfold Bt at *
  rw [e, e1, e2]
  exact b
theorem cHeapsOf (hd : 1 < d) {N : Nat} (r : RepCW g h) (hp : HeapsC g lw h) (hN : N < 1099511627776) (bits : ∀ b : Nat, N.testBit b = true → (b : Int) < gn g ∧ us g b) (k : Q (cnt (fun v => ∃ w, (0 ≤ w ∧ w < gn g) ∧ N.testBit w.toNat = true ∧ HeapIs g lw w v) (gn g).toNat) h) : Call d M_NewWords_heapsOf [vR 8 (-1), vL (N : Int)] h Q := by
  have nb := r.1.1.nb
  refine c_NewWords_heapsOf 1 hd ?_
  have key : ∀ (m : Nat) (v : Int) (M : Nat), (m : Int) = gn g - v → 0 ≤ v → M < 1099511627776 → (∀ x : Int, 0 ≤ x → (M.testBit x.toNat = true ↔ ∃ w, (0 ≤ w ∧ w < v) ∧ N.testBit w.toNat = true ∧ h.1 38 w = x)) → A_NewWords_heapsOf_5 1 Q (N : Int) (M : Int) v h := by
    intro m
    induction m with
    | zero =>
      intro v M e v0 hM bb
      refine s_NewWords_heapsOf_5 ⟨fun _ => jLBit (by decide) hM ?_, fun z => by rw [r.1.2.1.1] at z; omega⟩
      have e2 := pop_cnt (P := fun v => ∃ w, (0 ≤ w ∧ w < gn g) ∧ N.testBit w.toNat = true ∧ HeapIs g lw w v) (n := gn g) (N := M) (fun x => by
        have := bb x (by omega)
        rw [Int.toNat_natCast] at this
        rw [this]
        constructor
        · rintro ⟨w, a, b, c⟩
          have u := bits w.toNat b
          rw [Int.toNat_of_nonneg a.1] at u
          have hi := hp w a.1 u.1 u.2
          rw [c] at hi
          have := hi.1
          exact ⟨by omega, w, by omega, b, hi⟩
        · rintro ⟨_, w, a, b, c⟩
          have u := bits w.toNat b
          rw [Int.toNat_of_nonneg a.1] at u
          exact ⟨w, by omega, b, (hp w a.1 u.1 u.2).uniq c⟩) nb.1 nb.2
      rw [e2]
      exact k
    | succ m ih =>
      intro v M e v0 hM bb
      refine s_NewWords_heapsOf_5 ⟨fun z => by rw [r.1.2.1.1] at z; omega, fun _ => ?_⟩
      have e1 := bit_and hN (w := v.toNat) (by omega)
      rw [Int.toNat_of_nonneg v0] at e1
      rw [e1]
      by_cases t : N.testBit v.toNat = true
      · rw [if_pos t]
        have u := bits v.toNat t
        rw [Int.toNat_of_nonneg v0] at u
        have hb := (hp v v0 u.1 u.2).1
        refine br1 ⟨ib (by omega), ii (by omega), ?_⟩
        obtain ⟨o1, o2⟩ := lor1 hM hb.1 (by omega)
        rw [o1]
        refine ih (v + 1) _ (by omega) (by omega) o2 (fun x x0 => ?_)
        rw [bor_t hb.1 x0, bb x x0]
        constructor
        · rintro (⟨w, a, b, c⟩ | y)
          · exact ⟨w, by omega, b, c⟩
          · exact ⟨v, by omega, t, y⟩
        · rintro ⟨w, a, b, c⟩
          by_cases z : w = v
          · rw [z] at c; exact Or.inr c
          · exact Or.inl ⟨w, by omega, b, c⟩
      · rw [if_neg t]
        refine br0 ⟨ii (by omega), ih (v + 1) M (by omega) (by omega) hM (fun x x0 => ?_)⟩
        rw [bb x x0]
        constructor
        · rintro ⟨w, a, b, c⟩
          exact ⟨w, by omega, b, c⟩
        · rintro ⟨w, a, b, c⟩
          by_cases z : w = v
          · rw [z] at b; exact absurd b t
          · exact ⟨w, by omega, b, c⟩
  exact key (gn g).toNat 0 0 (by omega) (Int.le_refl 0) (by decide) (fun x x0 => ⟨fun z => by simp at z, fun ⟨w, a, _⟩ => by omega⟩)
theorem cWeigh (hd : 2 < d) {N : Nat} {S : Nat → Prop} (r : RepCW g h) (hp : HeapsC g lw h) (n0 : 1 ≤ n ∧ n ≤ 8) (okf : okF f n.toNat) (hN : N < 1099511627776) (bits : ∀ b : Nat, N.testBit b = true ↔ (b : Int) < gn g ∧ us g b ∧ (NearR g b n f ∨ same g b n f)) (ex : ∃ b : Nat, N.testBit b = true) (b : BestC g lw S h) (k : ∀ h', BestC g lw (fun x => S x ∨ x = keyN f n.toNat) h' → Fr [] [(8, 8), (8, 9), (8, 10)] h h' → Q 0 h') : Call d M_NewWords_weigh [vR 8 (-1), vL (keyN f n.toNat : Int), vL (N : Int)] h Q := by
  have nb := r.1.1.nb
  by_cases held : ∃ w, 0 ≤ w ∧ w < gn g ∧ same g w n f
  · -- a word
    have no : ¬ NewOk g n f := fun z => by
      obtain ⟨w, a, b, c⟩ := held
      exact z.2.2.1 w a b c
    have skip := k h (b.skip n0 okf no) Fr.refl
    have at21 : ∀ v5 s0 : Int, A_NewWords_weigh_21 2 Q (keyN f n.toNat : Int) v5 s0 h := fun v5 s0 => s_NewWords_weigh_21 ⟨fun _ => skip, fun _ => wHolds (by decide) r (fun _ => br1' skip) (fun y => by
      obtain ⟨w, a, b, c⟩ := held
      exact absurd ((same_key r.1.1 (by omega) n0.2 okf a b).mp c) (y w a b))⟩
    exact c_NewWords_weigh 2 hd (jLBit (by decide) hN ⟨fun _ => cHeapsOf (by decide) r hp hN (fun b t => ⟨((bits b).mp t).1, ((bits b).mp t).2.1⟩) (at21 _ _), fun _ => at21 _ _⟩)
  · have noS : ∀ w, 0 ≤ w → w < gn g → ¬ same g w n f := fun w a b c => held ⟨w, a, b, c⟩
    have bits2 : ∀ b : Nat, N.testBit b = true ↔ (b : Int) < gn g ∧ us g b ∧ NearR g b n f := fun b => by
      rw [bits b]
      exact ⟨fun z => ⟨z.1, z.2.1, z.2.2.elim id (fun y => absurd y (noS b (by omega) z.1))⟩, fun z => ⟨z.1, z.2.1, Or.inl z.2.2⟩⟩
    have ok : NewOk g n f := ⟨n0, okf, noS, by
      obtain ⟨b, t⟩ := ex
      have q := (bits2 b).mp t
      exact ⟨b, by omega, q.2.1, q.2.2⟩⟩
    have ec : pop N 40 = jW g n f := pop_cnt bits2 nb.1 nb.2
    have eh : cnt (fun v => ∃ w, (0 ≤ w ∧ w < gn g) ∧ N.testBit w.toNat = true ∧ HeapIs g lw w v) (gn g).toNat = jH g lw n f := cnt_ext _ (fun v _ _ => by
      constructor
      · rintro ⟨w, a, t, c⟩
        have q := (bits2 w.toNat).mp t
        rw [Int.toNat_of_nonneg a.1] at q
        exact ⟨w, a, q.2.1, q.2.2, c⟩
      · rintro ⟨w, a, u, nr, c⟩
        refine ⟨w, a, (bits2 w.toNat).mpr ?_, c⟩
        rw [Int.toNat_of_nonneg a.1]
        exact ⟨a.2, u, nr⟩)
    have jp := jH_pos (lw := lw) r.1.1 ok
    have jl := jH_le (lw := lw) (n := n) (f := f) r.1.1
    have at21 : A_NewWords_weigh_21 2 Q (keyN f n.toNat : Int) (jW g n f) (jH g lw n f) h := by
      refine s_NewWords_weigh_21 ⟨fun z => ?_, fun z => wHolds (by decide) r (fun ⟨w, a, b, c⟩ => absurd ((same_key r.1.1 (by omega) n0.2 okf a b).mpr c) (noS w a b)) (fun _ => br0' (k _ ?_ (((Fr.wI (Or.inr (by decide))).trans (Fr.wI (Or.inr (by decide)))).trans (Fr.wL (Or.inr (by decide))))))⟩
      · rcases b with ⟨b1, b2, b3⟩ | ⟨n1, f1, b1, b2, b3, b4, b5⟩
        · rw [b1, if_pos (by omega)] at z
          exact absurd z (by decide)
        · refine k h (Or.inr ⟨n1, f1, b1, b2, b3, b4, fun n' f' s a => s.elim (fun s => b5 n' f' s a) (fun s => ?_)⟩) Fr.refl
          have q := sameKey (lw := lw) a n0 okf s
          refine Bt.same ?_ s q.2.1 q.2.2
          rw [b2, b3, b4] at z
          unfold Bt
          by_cases z1 : jH g lw n1 f1 < jH g lw n f
          · rw [if_pos z1] at z
            exact absurd z (by decide)
          · rw [if_neg z1] at z
            by_cases z2 : jH g lw n f = jH g lw n1 f1
            · rw [if_pos z2] at z
              by_cases z3 : jW g n1 f1 < jW g n f
              · rw [if_pos z3] at z
                exact absurd z (by decide)
              · rw [if_neg z3] at z
                by_cases z4 : jW g n f = jW g n1 f1
                · rw [if_pos z4] at z
                  by_cases z5 : (keyN f1 n1.toNat : Int) ≤ (keyN f n.toNat : Int)
                  · exact Or.inr ⟨z2, Or.inr ⟨z4, by omega⟩⟩
                  · rw [if_neg z5] at z
                    exact absurd z (by decide)
                · exact Or.inr ⟨z2, Or.inl (by omega)⟩
            · exact Or.inl (by omega)
      · refine Or.inr ⟨n, f, ok, ?_, ?_, rL_eq, fun n' f' s a => ?_⟩
        · show (wI (wI h 8 8 (jH g lw n f)) 8 9 (jW g n f)).1 8 8 = _
          rw [rI_nk (by decide)]
          exact rI_eq
        · show (wI (wI h 8 8 (jH g lw n f)) 8 9 (jW g n f)).1 8 9 = _
          exact rI_eq
        · rcases s with s | s
          · rcases b with ⟨b1, b2, b3⟩ | ⟨n1, f1, b1, b2, b3, b4, b5⟩
            · exact absurd a (b3 n' f' s)
            · refine Bt.trans (n' := n1) (f' := f1) ?_ (b5 n' f' s a)
              rw [b2, b3, b4] at z
              unfold Bt
              by_cases z1 : jH g lw n1 f1 < jH g lw n f
              · exact Or.inl z1
              · rw [if_neg z1] at z
                by_cases z2 : jH g lw n f = jH g lw n1 f1
                · rw [if_pos z2] at z
                  by_cases z3 : jW g n1 f1 < jW g n f
                  · exact Or.inr ⟨z2.symm, Or.inl z3⟩
                  · rw [if_neg z3] at z
                    by_cases z4 : jW g n f = jW g n1 f1
                    · rw [if_pos z4] at z
                      by_cases z5 : (keyN f1 n1.toNat : Int) ≤ (keyN f n.toNat : Int)
                      · rw [if_pos z5] at z
                        exact absurd rfl z
                      · exact Or.inr ⟨z2.symm, Or.inr ⟨z4.symm, by omega⟩⟩
                    · rw [if_neg z4] at z
                      exact absurd rfl z
                · rw [if_neg z2] at z
                  exact absurd rfl z
          · have q := sameKey (lw := lw) a n0 okf s
            exact Bt.same Bt.refl s q.2.1 q.2.2
    refine c_NewWords_weigh 2 hd (jLBit (by decide) hN ?_)
    rw [ec]
    refine ⟨fun _ => cHeapsOf (by decide) r hp hN (fun b t => ⟨((bits b).mp t).1, ((bits b).mp t).2.1⟩) ?_, fun z => ?_⟩
    · rw [eh]
      exact at21
    · have e1 : jH g lw n f = 1 := by omega
      rw [e1] at at21
      exact at21
end CNG

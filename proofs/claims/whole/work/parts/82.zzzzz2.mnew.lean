/-! the reference's new word: a row is tried -/
theorem ssh63 : ∀ s : Fin 64, ((Int32.ofNat s.val).toInt64 &&& 63).toBitVec.smod 64 = BitVec.ofNat 64 s.val := by decide +kernel
theorem lshr_nat {a s : Nat} (ha : a < 9223372036854775808) (hs : s < 64) : lshr (a : Int) (s : Int) = ((a >>> s : Nat) : Int) := by
  unfold lshr
  rw [ofNatI]
  have h3 : a >>> s ≤ a := Nat.shiftRight_le a s
  refine tL _ ?_ (Nat.lt_of_le_of_lt h3 ha)
  show ((Int64.ofInt (a : Int)).toBitVec.sshiftRight' (((Int32.ofNat s).toInt64 &&& 63).toBitVec.smod 64)).toNat = _
  rw [ssh63 ⟨s, hs⟩]
  have hm : (Int64.ofInt (a : Int)).toBitVec.msb = false := by
    rw [BitVec.msb_eq_false_iff_two_mul_lt, natOfL a (by omega)]
    omega
  show ((Int64.ofInt (a : Int)).toBitVec.sshiftRight (BitVec.ofNat 64 s).toNat).toNat = _
  rw [BitVec.sshiftRight_eq_of_msb_false hm, BitVec.toNat_ushiftRight, natOfL a (by omega), BitVec.toNat_ofNat, Nat.mod_eq_of_lt (show s < 2 ^ 64 by omega)]
theorem bit_ands {U : Nat} (hU : U < 1099511627776) {w : Int} (w0 : 0 ≤ w) (hw : w < 64) : l2i (land (lshr (U : Int) w) 1) = if U.testBit w.toNat = true then 1 else 0 := by
  have h1 := lshr_nat (a := U) (s := w.toNat) (by omega) (by omega)
  have h2 := lushr_nat (a := U) (s := w.toNat) (by omega) (by omega)
  have h3 := bit_and hU (w := w.toNat) (by omega)
  rw [h2] at h3
  rw [Int.toNat_of_nonneg w0] at h1
  rw [h1, h3]
  split <;> rfl
theorem NearR.congr {g : G} {w n : Int} {f f' : Int → Int} (e : ∀ k, 0 ≤ k → k < n → f k = f' k) (q : NearR g w n f) : NearR g w n f' := by
  rcases q with ⟨l, i, b, q1, q2⟩ | ⟨l, i, b, q0, q1, q2, q3⟩ | ⟨l, p, b, q⟩ | ⟨l, p, b, q⟩
  · exact Or.inl ⟨l, i, b, by rw [← e i (by omega) (by omega)]; exact q1, fun k x y z => by rw [← e k x y]; exact q2 k x y z⟩
  · exact Or.inr (Or.inl ⟨l, i, b, q0, by rw [← e i (by omega) (by omega)]; exact q1, by rw [← e (i + 1) (by omega) (by omega)]; exact q2, fun k x y z z2 => by rw [← e k x y]; exact q3 k x y z z2⟩)
  · refine Or.inr (Or.inr (Or.inl ⟨l, p, b, fun k x y => ?_⟩))
    rw [q k x y]
    by_cases z : k < p
    · rw [if_pos z]; exact e k x (by omega)
    · rw [if_neg z]; exact e (k + 1) (by omega) (by omega)
  · exact Or.inr (Or.inr (Or.inr ⟨l, p, b, fun k x y => by rw [← e k x y]; exact q k x y⟩))
theorem cnt_ext {P P' : Int → Prop} (m : Nat) (h : ∀ v : Int, 0 ≤ v → v < m → (P v ↔ P' v)) : cnt P m = cnt P' m := Int.le_antisymm (cnt_mono m (fun v a b => (h v a b).mp)) (cnt_mono m (fun v a b => (h v a b).mpr))
theorem lk_ext {f f' : Int → Int} : ∀ (n : Nat), (∀ k : Int, 0 ≤ k → k < n → f k = f' k) → lk f n = lk f' n
  | 0, _ => rfl
  | n + 1, h => by
    unfold lk
    rw [lk_ext n (fun k a b => h k a (by omega)), h n (by omega) (by omega)]
section EX
variable {g : G} {lw : LW} {n : Int} {f f' : Int → Int}
theorem jW_ext (e : ∀ k, 0 ≤ k → k < n → f k = f' k) : jW g n f = jW g n f' := cnt_ext _ (fun v _ _ => ⟨fun z => ⟨z.1, z.2.congr e⟩, fun z => ⟨z.1, z.2.congr (fun k a b => (e k a b).symm)⟩⟩)
theorem jH_ext (e : ∀ k, 0 ≤ k → k < n → f k = f' k) : jH g lw n f = jH g lw n f' := cnt_ext _ (fun v _ _ => ⟨fun ⟨w, a, b, c, z⟩ => ⟨w, a, b, c.congr e, z⟩, fun ⟨w, a, b, c, z⟩ => ⟨w, a, b, c.congr (fun k a b => (e k a b).symm), z⟩⟩)
theorem same_ext {w : Int} (e : ∀ k, 0 ≤ k → k < n → f k = f' k) (q : same g w n f) : same g w n f' := ⟨q.1, fun k a b => by rw [q.2 k a b, e k a b]⟩
theorem NewOk.ext (e : ∀ k, 0 ≤ k → k < n → f k = f' k) (q : NewOk g n f) : NewOk g n f' := ⟨q.1, fun k a b => by rw [← e k a (by omega)]; exact q.2.1 k a b, fun w a b z => q.2.2.1 w a b (same_ext (fun k a b => (e k a b).symm) z), by
  obtain ⟨w, a, b, c⟩ := q.2.2.2
  exact ⟨w, a, b, c.congr e⟩⟩
theorem key_ext (n0 : 0 ≤ n) (e : ∀ k, 0 ≤ k → k < n → f k = f' k) : keyN f n.toNat = keyN f' n.toNat := by
  unfold keyN
  rw [lk_ext n.toNat (fun k a b => e k a (by omega))]
end EX
theorem lk_lex {f f' : Int → Int} : ∀ (n : Nat) (i : Int), 0 ≤ i → i < n → okF f n → okF f' n → (∀ k : Int, 0 ≤ k → k < i → f k = f' k) → f i < f' i → lk f n < lk f' n
  | 0, i, a, b, _, _, _, _ => by
    have b : i < ((0 : Nat) : Int) := b
    omega
  | n + 1, i, a, b, hf, hf', e, l => by
    unfold lk
    have f1 := hf n (by omega) (by omega)
    have f2 := hf' n (by omega) (by omega)
    by_cases z : i = n
    · rw [lk_ext n (fun k x y => e k x (by omega))]
      rw [z] at l
      omega
    · have := lk_lex n i a (by omega) (fun k x y => hf k x (by omega)) (fun k x y => hf' k x (by omega)) e l
      omega
/-- no worse than the other row -/
def Bt (g : G) (lw : LW) (n : Int) (f : Int → Int) (n' : Int) (f' : Int → Int) : Prop := jH g lw n' f' < jH g lw n f ∨ (jH g lw n' f' = jH g lw n f ∧ (jW g n' f' < jW g n f ∨ (jW g n' f' = jW g n f ∧ keyN f n.toNat ≤ keyN f' n'.toNat)))
theorem Bt.trans {g : G} {lw : LW} {n n' n2 : Int} {f f' f2 : Int → Int} (a : Bt g lw n f n' f') (b : Bt g lw n' f' n2 f2) : Bt g lw n f n2 f2 := by
  unfold Bt at *
  omega
theorem Bt.ext {g : G} {lw : LW} {n n' : Int} {f f' f2 : Int → Int} (n0 : 0 ≤ n') (a : Bt g lw n f n' f') (e : ∀ k, 0 ≤ k → k < n' → f2 k = f' k) : Bt g lw n f n' f2 := by
  unfold Bt at *
  rw [jH_ext e, jW_ext e, key_ext n0 e]
  exact a
theorem Bt.refl {g : G} {lw : LW} {n : Int} {f : Int → Int} : Bt g lw n f n f := Or.inr ⟨rfl, Or.inr ⟨rfl, Nat.le_refl _⟩⟩
def HW (g : G) (lw : LW) (h : AH) : Prop := ∀ w, 0 ≤ w → w < gn g → us g w → HeapIs g lw w (h.1 85 w)
/-- the best of the rows of S -/
def BestM (g : G) (lw : LW) (S : Int → (Int → Int) → Prop) (h : AH) : Prop := (h.1 12 41 = 0 ∧ h.1 12 42 = 0 ∧ ∀ n f, S n f → ¬ NewOk g n f) ∨ ∃ n f, NewOk g n f ∧ h.1 12 41 = jH g lw n f ∧ h.1 12 42 = jW g n f ∧ h.1 12 43 = n ∧ (∀ k, 0 ≤ k → k < n → h.1 84 k = f k) ∧ ∀ n' f', S n' f' → NewOk g n' f' → Bt g lw n f n' f'
def andR (S : Int → (Int → Int) → Prop) (n : Int) (f : Int → Int) (n' : Int) (f' : Int → Int) : Prop := S n' f' ∨ (n' = n ∧ ∀ k, 0 ≤ k → k < n → f' k = f k)
theorem BestM.skip {g : G} {lw : LW} {S : Int → (Int → Int) → Prop} {h : AH} {n : Int} {f : Int → Int} (b : BestM g lw S h) (hn : ¬ NewOk g n f) : BestM g lw (andR S n f) h := by
  have no : ∀ f', (∀ k, 0 ≤ k → k < n → f' k = f k) → ¬ NewOk g n f' := fun f' e z => hn (z.ext e)
  rcases b with ⟨b1, b2, b3⟩ | ⟨m, e, b1, b2, b3, b4, b5, b6⟩
  · refine Or.inl ⟨b1, b2, fun n' f' z => ?_⟩
    rcases z with z | ⟨rfl, z⟩
    · exact b3 n' f' z
    · exact no f' z
  · refine Or.inr ⟨m, e, b1, b2, b3, b4, b5, fun n' f' z y => ?_⟩
    rcases z with z | ⟨rfl, z⟩
    · exact b6 n' f' z y
    · exact absurd y (no f' z)
/-- the best stays -/
theorem BestM.keep {g : G} {lw : LW} {S : Int → (Int → Int) → Prop} {h : AH} {n m : Int} {f e : Int → Int} (n0 : 0 ≤ n) (b1 : NewOk g m e) (b2 : h.1 12 41 = jH g lw m e) (b3 : h.1 12 42 = jW g m e) (b4 : h.1 12 43 = m) (b5 : ∀ k, 0 ≤ k → k < m → h.1 84 k = e k) (b6 : ∀ n' f', S n' f' → NewOk g n' f' → Bt g lw m e n' f') (bt : Bt g lw m e n f) : BestM g lw (andR S n f) h := by
  refine Or.inr ⟨m, e, b1, b2, b3, b4, b5, fun n' f' z y => ?_⟩
  rcases z with z | ⟨rfl, z⟩
  · exact b6 n' f' z y
  · exact bt.ext n0 z
/-- it becomes the row -/
theorem BestM.take {g : G} {lw : LW} {S : Int → (Int → Int) → Prop} {h h' : AH} {n : Int} {f : Int → Int} (b : BestM g lw S h) (hn : NewOk g n f) (ht : ∀ m e, NewOk g m e → h.1 12 41 = jH g lw m e → h.1 12 42 = jW g m e → h.1 12 43 = m → (∀ k, 0 ≤ k → k < m → h.1 84 k = e k) → Bt g lw n f m e) (b2 : h'.1 12 41 = jH g lw n f) (b3 : h'.1 12 42 = jW g n f) (b4 : h'.1 12 43 = n) (b5 : ∀ k, 0 ≤ k → k < n → h'.1 84 k = f k) : BestM g lw (andR S n f) h' := by
  refine Or.inr ⟨n, f, hn, b2, b3, b4, b5, fun n' f' z y => ?_⟩
  have n0 := hn.1.1
  rcases z with z | ⟨rfl, z⟩
  · rcases b with ⟨_, _, c3⟩ | ⟨m, e, c1, c2, c3, c4, c5, c6⟩
    · exact absurd y (c3 n' f' z)
    · exact (ht m e c1 c2 c3 c4 c5).trans (c6 n' f' z y)
  · exact Bt.refl.ext (by omega) z

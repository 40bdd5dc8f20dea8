/-! the class: keys, words come, go and change -/
def okF (f : Int → Int) (n : Nat) : Prop := ∀ k : Int, 0 ≤ k → k < n → 0 ≤ f k ∧ f k ≤ 25
theorem key_len {f : Int → Int} {n : Nat} (hn : n ≤ 8) (hf : okF f n) : keyN f n >>> 40 = n := by
  have h := (key_lt hn hf).1
  rw [Nat.shiftRight_eq_div_pow]
  unfold keyN
  omega
theorem key_at {f : Int → Int} {n : Nat} (hn : n ≤ 8) (hf : okF f n) {i : Nat} (hi : i < n) : (keyN f n >>> (5 * (n - 1 - i))) % 32 = (f i).toNat := by
  rw [← lk_at hf i hi, Nat.shiftRight_eq_div_pow, Nat.pow_mul, show (2 : Nat) ^ 5 = 32 from rfl]
  unfold keyN
  generalize hm : n - 1 - i = m
  have hm7 : m ≤ 7 := by omega
  have e : n * 1099511627776 + lk f n = lk f n + (n * 32 ^ (7 - m) * 32) * 32 ^ m := by
    have e2 : (1099511627776 : Nat) = 32 ^ (7 - m) * 32 * 32 ^ m := by
      rw [← Nat.pow_succ, ← Nat.pow_add, show 7 - m + 1 + m = 8 by omega]
    rw [e2, Nat.add_comm, Nat.mul_assoc, Nat.mul_assoc, Nat.mul_assoc]
  rw [e, Nat.add_mul_div_right _ _ (Nat.pow_pos (by decide)), Nat.add_mul_mod_self_right]
section KEY
variable {d : Nat} {h : AH} {K : Int → AH → Prop}
theorem jLen (hd : 0 < d) {f : Int → Int} {n : Nat} (hn : n ≤ 8) (hf : okF f n) (k : K n h) : Call d M_Words_lengthOfKey [vL (keyN f n : Int)] h K := by
  have hk := (key_lt hn hf).2
  refine c_Words_lengthOfKey 0 hd ?_
  rw [show (40 : Int) = ((40 : Nat) : Int) from rfl, lushr_nat (by omega) (by decide), key_len hn hf, l2i_nat (by omega)]
  exact k
theorem jLetter (hd : 1 < d) {f : Int → Int} {n : Nat} (hn : n ≤ 8) (hf : okF f n) {i : Int} (i0 : 0 ≤ i) (i1 : i < n) (k : K (f i) h) : Call d M_Words_letterOfKey [vL (keyN f n : Int), vI i] h K := by
  have hk := (key_lt hn hf).2
  refine c_Words_letterOfKey 1 hd (jLen (by decide) hn hf ⟨ii (by omega), ii (by omega), ii (by omega), ?_⟩)
  have e5 : 5 * ((n : Int) - 1 - i) = ((5 * (n - 1 - i.toNat) : Nat) : Int) := by omega
  have hb := hf i i0 i1
  rw [e5, lushr_nat (by omega) (by omega), and_l2i, key_at hn hf (by omega), Int.toNat_of_nonneg i0, Int.toNat_of_nonneg hb.1]
  exact k
theorem cTakenKey (hd : 2 < d) {p : Int} {f : Int → Int} (tk : TakC p f h) (p0 : 0 ≤ p) (p1 : p ≤ 8) (al : ∀ i, 0 ≤ i → i < p → isLet (f i)) (k : K (keyN (fun i => f i - 97) p.toNat : Int) h) : Call d M_Tape_takenKey [vR 1 (-1)] h K := by
  have hf : ∀ n : Nat, (n : Int) ≤ p → okF (fun i => f i - 97) n := fun n hn i i0 i1 => by
    have := al i i0 (by omega)
    unfold isLet at this
    show 0 ≤ f i - 97 ∧ f i - 97 ≤ 25
    omega
  refine c_Tape_takenKey 2 hd ?_
  have key : ∀ m n : Nat, (n : Int) ≤ p → p - n < m → A_Tape_takenKey_4 2 K (lk (fun i => f i - 97) n : Int) n h := by
    intro m
    induction m with
    | zero => intro n x1 e; omega
    | succ m ih =>
      intro n x1 e
      have hl := lk_lt (hf n x1)
      have hp : 32 ^ n ≤ 32 ^ 8 := Nat.pow_le_pow_right (by decide) (by omega)
      have h8 : (32 : Nat) ^ 8 = 1099511627776 := rfl
      refine s_Tape_takenKey_4 ?_
      rw [tk.1]
      refine ⟨fun c => c_Words_keyOf 1 (by decide) ?_, fun c => tLetterAt (by decide) tk (by omega) c ⟨ii (by omega), ?_⟩⟩
      · have en : (n : Int) = p := by omega
        have e2 : p.toNat = n := by omega
        have ho := or_low (a := n) (b := lk (fun i => f i - 97) n) (k := 40) (by omega)
        have hs : n <<< 40 = n * 1099511627776 := by rw [Nat.shiftLeft_eq]
        rw [← en, show (40 : Int) = ((40 : Nat) : Int) from rfl, lshl_nat (by omega) (by decide), lor_nat (by omega) (by omega), ho]
        rw [e2] at k
        exact k
      · have hb := hf (n + 1) (by omega) n (by omega) (by omega)
        have hb : 0 ≤ f n - 97 ∧ f n - 97 ≤ 25 := hb
        have hl2 := lk_lt (hf (n + 1) (by omega))
        have hp2 : 32 ^ n ≤ 32 ^ 7 := Nat.pow_le_pow_right (by decide) (by omega)
        have h7 : (32 : Nat) ^ 7 = 34359738368 := rfl
        have hs : lk (fun i => f i - 97) n <<< 5 = lk (fun i => f i - 97) n * 32 := by rw [Nat.shiftLeft_eq]
        have ho := or_low (a := lk (fun i => f i - 97) n) (b := (f n - 97).toNat) (k := 5) (by omega)
        have e3 : f n - 97 = (((f n - 97).toNat : Nat) : Int) := by omega
        rw [e3, show (5 : Int) = ((5 : Nat) : Int) from rfl, lshl_nat (by omega) (by decide), lor_nat (by omega) (by omega), ho]
        have := ih (n + 1) (by omega) (by omega)
        exact this
  exact key 10 0 (by omega) (by omega)
end KEY
section CWD
variable {d : Nat} {g : G} {h : AH} {K : Int → AH → Prop}
theorem same_key {g : G} (ok : OkG g) {p : Int} {f : Int → Int} (p0 : 0 ≤ p) (p1 : p ≤ 8) (hf : okF f p.toNat) {w : Int} (w0 : 0 ≤ w) (w1 : w < gn g) : same g w p f ↔ gkey g w = keyN f p.toNat := by
  have lb := ok.lb w0 w1
  constructor
  · rintro ⟨h1, h2⟩
    unfold gkey keyN
    rw [h1, lk_congr (f := gt g w) (f' := f) (n := p.toNat) (fun k k0 k1 => h2 k k0 (by omega))]
  · intro h
    unfold gkey at h
    have q := key_inj (by omega) (by omega) (fun k k0 k1 => ok.tb w0 w1 k0 (by omega)) hf h
    exact ⟨by omega, fun k k0 k1 => q.2 k k0 (by omega)⟩
theorem cSetBarred (hd : 1 < d) {w v : Int} (r : RepCW g h) (w0 : 0 ≤ w) (w1 : w < gn g) (hv : v = 0 ∨ v = 1) (ha : inI (h.1 2 9 + 1)) (k1 : ∀ h', gb g w ≠ v → RepCW (gBar g w v) h' → h'.1 2 9 = h.1 2 9 + 1 → Fr [19] [(2, 8), (2, 9)] h h' → K 1 h') (k0 : gb g w = v → K 0 h) : Call d M_Words_setBarred [vR 2 (-1), vI w, vI v] h K := by
  have nb := r.ok.nb
  refine c_Words_setBarred 1 hd ⟨ib (by omega), ?_⟩
  rw [r.1.b w0 w1]
  refine ⟨fun c => ⟨hv, ?_⟩, k0⟩
  have r1 : RepW0 (gBar g w v) (wI h 19 w v) := ⟨ok_bar r.ok hv, ⟨by rw [rI_ne (by decide)]; exact r.n, by rw [rI_ne (by decide)]; exact r.s⟩, fun u u0 u1 => by
    obtain ⟨⟨q1, q2, q3, q4, q5⟩, q6⟩ := r.1.2.2 u u0 u1
    refine ⟨⟨by rw [rI_ne (by decide)]; exact q1, by rw [rI_ne (by decide)]; exact q2, by rw [rI_ne (by decide)]; exact q3, ?_, q5⟩, q6⟩
    show _ = if u = w then v else gb g u
    by_cases z : u = w
    · rw [if_pos z, z, rI_eq]
    · rw [if_neg z, rI_nk z]; exact q4⟩
  have e9 : (wI h 19 w v).1 2 9 = h.1 2 9 := rI_ne (by decide)
  exact wFindUsed (by decide) r1 (by rw [e9]; exact ha) (fun h' r' a' f' => k1 h' c r' (by rw [a', e9]) ((Fr.wI (Or.inl (by decide))).trans (f'.mono (by decide) (by decide))))
theorem cSetKnown (hd : 0 < d) {w n : Int} (r : RepCW g h) (w0 : 0 ≤ w) (w1 : w < gn g) (n0 : 0 ≤ n) (n1 : n ≤ 99) (ha : inI (h.1 2 9 + 1)) (k : ∀ h', RepCW (gKnow g w n) h' → h'.1 2 9 = h.1 2 9 + 1 → Fr [17] [(2, 9)] h h' → K 0 h') : Call d M_Words_setKnown [vR 2 (-1), vI w, vI n] h K := by
  have nb := r.ok.nb
  refine c_Words_setKnown 0 hd ⟨ib (by omega), ha, k _ ⟨⟨ok_know r.ok n0 n1, ⟨?_, ?_⟩, fun u u0 u1 => ?_⟩, ?_⟩ rI_eq ((Fr.wI (Or.inl (by decide))).trans (Fr.wI (Or.inr (by decide))))⟩
  · rw [rI_nk (by decide), rI_ne (by decide)]; exact r.n
  · rw [rI_nk (by decide), rI_ne (by decide)]; exact r.s
  · obtain ⟨⟨q1, q2, q3, q4, q5⟩, q6⟩ := r.1.2.2 u u0 u1
    refine ⟨⟨by rw [rI_ne (by decide), rI_ne (by decide)]; exact q1, ?_, by rw [rI_ne (by decide), rI_ne (by decide)]; exact q3, by rw [rI_ne (by decide), rI_ne (by decide)]; exact q4, q5⟩, q6⟩
    show _ = if u = w then n else gk g u
    rw [rI_ne (by decide)]
    by_cases z : u = w
    · rw [if_pos z, z, rI_eq]
    · rw [if_neg z, rI_nk z]; exact q2
  · obtain ⟨U, u1, u2⟩ := r.2
    exact ⟨U, u1, u2⟩
theorem cSetSpoken (hd : 1 < d) {s : Int} (r : RepCW g h) (s0 : -1 ≤ s) (s1 : s ≤ 3) (ha : inI (h.1 2 9 + 1)) (k : ∀ h', RepCW (gSpeak g s) h' → h'.1 2 9 = h.1 2 9 + 1 → Fr [] [(2, 7), (2, 8), (2, 9)] h h' → K 0 h') : Call d M_Words_setSpoken [vR 2 (-1), vI s] h K := by
  have r1 : RepW0 (gSpeak g s) (wI h 2 7 s) := ⟨ok_speak r.ok s0 s1, ⟨by rw [rI_nk (by decide)]; exact r.n, rI_eq⟩, fun u u0 u1 => by
    obtain ⟨⟨q1, q2, q3, q4, q5⟩, q6⟩ := r.1.2.2 u u0 u1
    exact ⟨⟨by rw [rI_ne (by decide)]; exact q1, by rw [rI_ne (by decide)]; exact q2, by rw [rI_ne (by decide)]; exact q3, by rw [rI_ne (by decide)]; exact q4, q5⟩, q6⟩⟩
  have e9 : (wI h 2 7 s).1 2 9 = h.1 2 9 := rI_nk (by decide)
  exact c_Words_setSpoken 1 hd (wFindUsed (by decide) r1 (by rw [e9]; exact ha) (fun h' r' a' f' => k h' r' (by rw [a', e9]) ((Fr.wI (Or.inr (by decide))).trans (f'.mono (by decide) (by decide)))))
theorem cTakeLast (hd : 1 < d) (r : RepCW g h) (hn : gn g ≠ 0) (ha : inI (h.1 2 9 + 1)) (k : ∀ h', RepCW (gOff g) h' → h'.1 2 9 = h.1 2 9 + 1 → Fr [] [(2, 6), (2, 8), (2, 9)] h h' → K (gl g (gn g - 1)) h') : Call d M_Words_takeLast [vR 2 (-1)] h K := by
  have nb := r.ok.nb
  refine c_Words_takeLast 1 hd ?_
  rw [r.n]
  refine ⟨fun c => ⟨ii (by omega), ?_⟩, fun c => absurd c hn⟩
  have r1 : RepW0 (gOff g) (wI h 2 6 (gn g - 1)) := ⟨ok_off r.ok hn, ⟨rI_eq, by rw [rI_nk (by decide)]; exact r.s⟩, fun u u0 u1 => by
    obtain ⟨⟨q1, q2, q3, q4, q5⟩, q6⟩ := r.1.2.2 u u0 (by have u1 : u < gn g - 1 := u1; omega)
    exact ⟨⟨by rw [rI_ne (by decide)]; exact q1, by rw [rI_ne (by decide)]; exact q2, by rw [rI_ne (by decide)]; exact q3, by rw [rI_ne (by decide)]; exact q4, q5⟩, q6⟩⟩
  have e9 : (wI h 2 6 (gn g - 1)).1 2 9 = h.1 2 9 := rI_nk (by decide)
  refine wFindUsed (by decide) r1 (by rw [e9]; exact ha) (fun h' r' a' f' => ?_)
  have en : h'.1 2 6 = gn g - 1 := r'.n
  have fa : Fr [] [(2, 6), (2, 8), (2, 9)] h h' := (Fr.wI (Or.inr (by decide))).trans (f'.mono (by decide) (by decide))
  rw [en, fa.i 15, r.1.l (by omega) (by omega)]
  exact ⟨ib (by omega), k h' r' (by rw [a', e9]) fa⟩
theorem cAdd (hd : 2 < d) {p n o : Int} {f : Int → Int} (r : RepCW g h) (hn : gn g < 40) (p0 : 1 ≤ p ∧ p ≤ 8) (n0 : 0 ≤ n ∧ n ≤ 99) (o0 : 1 ≤ o ∧ o ≤ 15) (hf : okF f p.toNat) (ha : inI (h.1 2 9 + 1)) (k : ∀ h', RepCW (gAdd g p f n o) h' → h'.1 2 9 = h.1 2 9 + 1 → Fr [14, 15, 16, 17, 18, 19] [(2, 6), (2, 8), (2, 9)] h h' → K (gn g) h') : Call d M_Words_add [vR 2 (-1), vL (keyN f p.toNat : Int), vI n, vI o] h K := by
  have nb := r.ok.nb
  refine c_Words_add 2 hd ?_
  rw [r.n]
  refine ⟨fun _ => ⟨ib (by omega), jLen (by decide) (by omega) hf ?_⟩, fun c => by omega⟩
  rw [Int.toNat_of_nonneg (by omega)]
  have f1 : Fr [14, 15, 16, 17, 18, 19] [(2, 6), (2, 8), (2, 9)] h (wI (wL h 16 (gn g) (keyN f p.toNat : Int)) 15 (gn g) p) := (Fr.wL (Or.inl (by decide))).trans (Fr.wI (Or.inl (by decide)))
  generalize hh1 : wI (wL h 16 (gn g) (keyN f p.toNat : Int)) 15 (gn g) p = h1 at f1
  have e15 : ∀ u, h1.1 15 u = if u = gn g then p else h.1 15 u := fun u => by
    rw [← hh1]
    by_cases z : u = gn g
    · rw [if_pos z, z, rI_eq]
    · rw [if_neg z, rI_nk z]; rfl
  have e16 : ∀ u, h1.2.1 16 u = if u = gn g then (keyN f p.toNat : Int) else h.2.1 16 u := fun u => by
    rw [← hh1]
    show (wL h 16 (gn g) (keyN f p.toNat : Int)).2.1 16 u = _
    by_cases z : u = gn g
    · rw [if_pos z, z, rL_eq]
    · rw [if_neg z, rL_nk z]
  have e14 : ∀ u i, h1.2.2 14 u i = h.2.2 14 u i := fun u i => by rw [← hh1]; rfl
  have eo : ∀ o' : Nat, o' ≠ 15 → ∀ u, h1.1 o' u = h.1 o' u := fun o' ho u => by
    rw [← hh1, rI_ne ho]; rfl
  have key : ∀ m : Nat, ∀ (v6 : Int) (hh : AH), 0 ≤ v6 → v6 ≤ p → p - v6 < m → Fr [14] [] h1 hh → (∀ u i, u ≠ gn g → hh.2.2 14 u i = h.2.2 14 u i) → (∀ i, 0 ≤ i → i < v6 → hh.2.2 14 (gn g) i = f i) → A_Words_add_37 2 K (keyN f p.toNat : Int) n o (gn g) v6 hh := by
    intro m
    induction m with
    | zero => intro v6 hh x1 x2 e; omega
    | succ m ih =>
      intro v6 hh x1 x2 e ff s1 s2
      have q15 : hh.1 15 (gn g) = p := by rw [ff.i 15, e15, if_pos rfl]
      have fin : v6 = p → A_Words_add_78 2 K n o (gn g) hh := by
        intro ev
        have q6 : hh.1 2 6 = gn g := by rw [ff.i 2, eo 2 (by decide)]; exact r.n
        have q7 : hh.1 2 7 = gs g := by rw [ff.i 2, eo 2 (by decide)]; exact r.s
        have q9 : hh.1 2 9 = h.1 2 9 := by rw [ff.i 2, eo 2 (by decide)]
        refine s_Words_add_78 ⟨ib (by omega), ?_⟩
        rw [q6]
        refine ⟨ii (by omega), ?_⟩
        generalize hX : wI (wI (wI (wI hh 17 (gn g) n) 18 (gn g) o) 19 (gn g) 0) 2 6 (gn g + 1) = X
        have fX : Fr [14, 15, 16, 17, 18, 19] [(2, 6), (2, 8), (2, 9)] h X := by
          rw [← hX]
          exact ((((f1.trans (ff.mono (by decide) (by decide))).trans (Fr.wI (Or.inl (by decide)))).trans (Fr.wI (Or.inl (by decide)))).trans (Fr.wI (Or.inl (by decide)))).trans (Fr.wI (Or.inr (by decide)))
        have x17 : ∀ u, X.1 17 u = if u = gn g then n else hh.1 17 u := fun u => by
          rw [← hX, rI_ne (by decide), rI_ne (by decide), rI_ne (by decide)]
          by_cases z : u = gn g
          · rw [if_pos z, z, rI_eq]
          · rw [if_neg z, rI_nk z]
        have x18 : ∀ u, X.1 18 u = if u = gn g then o else hh.1 18 u := fun u => by
          rw [← hX, rI_ne (by decide), rI_ne (by decide)]
          by_cases z : u = gn g
          · rw [if_pos z, z, rI_eq]
          · rw [if_neg z, rI_nk z, rI_ne (by decide)]
        have x19 : ∀ u, X.1 19 u = if u = gn g then 0 else hh.1 19 u := fun u => by
          rw [← hX, rI_ne (by decide)]
          by_cases z : u = gn g
          · rw [if_pos z, z, rI_eq]
          · rw [if_neg z, rI_nk z, rI_ne (by decide), rI_ne (by decide)]
        have x15 : ∀ u, X.1 15 u = hh.1 15 u := fun u => by
          rw [← hX, rI_ne (by decide), rI_ne (by decide), rI_ne (by decide), rI_ne (by decide)]
        have xl : ∀ u, X.2.1 16 u = hh.2.1 16 u := fun u => by rw [← hX]; rfl
        have xr : ∀ u i, X.2.2 14 u i = hh.2.2 14 u i := fun u i => by rw [← hX]; rfl
        have x9 : X.1 2 9 = h.1 2 9 := by
          rw [← hX, rI_nk (by decide), rI_ne (by decide), rI_ne (by decide), rI_ne (by decide)]; exact q9
        have rX : RepW0 (gAdd g p f n o) X := ⟨ok_add r.ok hn p0 n0 o0 (fun i i0 i1 => hf i i0 (by omega)), ⟨by rw [← hX]; exact rI_eq, by rw [← hX, rI_nk (by decide), rI_ne (by decide), rI_ne (by decide), rI_ne (by decide)]; exact q7⟩, fun u u0 u1 => by
          have u1 : u < gn g + 1 := u1
          by_cases z : u = gn g
          · have d1 : gl (gAdd g p f n o) u = p := if_pos z
            have d2 : gt (gAdd g p f n o) u = f := if_pos z
            refine ⟨⟨?_, ?_, ?_, ?_, ?_⟩, fun i i0 i1 => ?_⟩
            · rw [d1, x15, z]; exact q15
            · rw [x17, if_pos z]; exact (if_pos z).symm
            · rw [x18, if_pos z]; exact (if_pos z).symm
            · rw [x19, if_pos z]; exact (if_pos z).symm
            · rw [xl, ff.l 16, e16, if_pos z]
              unfold gkey
              rw [d1, d2]
            · rw [d1] at i1
              rw [d2, xr, z]
              exact s2 i i0 (by omega)
          · obtain ⟨⟨q1, q2, q3, q4, q5⟩, q6'⟩ := r.1.2.2 u u0 (by omega)
            have d1 : gl (gAdd g p f n o) u = gl g u := if_neg z
            have d2 : gt (gAdd g p f n o) u = gt g u := if_neg z
            refine ⟨⟨?_, ?_, ?_, ?_, ?_⟩, fun i i0 i1 => ?_⟩
            · rw [d1, x15, ff.i 15, e15, if_neg z]; exact q1
            · rw [x17, if_neg z, ff.i 17, eo 17 (by decide)]; exact q2.trans (if_neg z).symm
            · rw [x18, if_neg z, ff.i 18, eo 18 (by decide)]; exact q3.trans (if_neg z).symm
            · rw [x19, if_neg z, ff.i 19, eo 19 (by decide)]; exact q4.trans (if_neg z).symm
            · rw [xl, ff.l 16, e16, if_neg z]
              unfold gkey at q5 ⊢
              rw [d1, d2]; exact q5
            · rw [d1] at i1
              rw [d2, xr, s1 u i z]; exact q6' i i0 i1⟩
        exact wFindUsed (by decide) rX (by rw [x9]; exact ha) (fun h' r' a' f' => k h' r' (by rw [a', x9]) (fX.trans (f'.mono (by decide) (by decide))))
      refine s_Words_add_37 ⟨ib (by omega), ?_⟩
      rw [q15]
      refine ⟨fun c => fin (by omega), fun c => ⟨fun c2 => by omega, fun c2 => jLetter (by decide) (by omega) hf x1 (by omega) ⟨ib (by omega), ii (by omega), ih (v6 + 1) _ (by omega) (by omega) (by omega) (ff.trans (Fr.wR (by decide))) (fun u i hu => ?_) (fun i i0 i1 => ?_)⟩⟩⟩
      · rw [rR_nk (fun z => hu z.1)]; exact s1 u i hu
      · by_cases z : i = v6
        · rw [z]; exact if_pos ⟨rfl, rfl, rfl⟩
        · rw [rR_nk (fun y => z y.2)]; exact s2 i i0 (by omega)
  exact key 9 0 h1 (by decide) (by omega) (by omega) Fr.refl (fun u i hu => e14 u i) (fun i i0 i1 => by omega)
end CWD

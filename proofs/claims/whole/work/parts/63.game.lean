/-! the game of not coming back -/
def wn (e : Int → Int → Int) (f : Int → Int) (p : Nat) : Nat → Nat → Nat → Prop
  | 0, _, _ => False
  | k + 1, N, a => ∃ i : Nat, i < p ∧ ¬ N.testBit i = true ∧ e (f a) (f i) ≠ 0 ∧ ¬ wn e f p k (N ||| 1 <<< i) i
/-- who is to go from the place a wins, when the places of N have been come to -/
def win (e : Int → Int → Int) (f : Int → Int) (p N a : Nat) : Prop := wn e f p (2 ^ p) N a
theorem wn_fuel {e : Int → Int → Int} {f : Int → Int} {p : Nat} : ∀ (k k' N a : Nat), N < 2 ^ p → 2 ^ p - N ≤ k → 2 ^ p - N ≤ k' → (wn e f p k N a ↔ wn e f p k' N a)
  | 0, _, _, _, h0, h1, _ => by omega
  | _ + 1, 0, _, _, h0, _, h2 => by omega
  | k + 1, k' + 1, N, a, h0, h1, h2 => by
    have key : ∀ i, i < p → ¬ N.testBit i = true → (wn e f p k (N ||| 1 <<< i) i ↔ wn e f p k' (N ||| 1 <<< i) i) := fun i hi hb => by
      have h3 := or_lt h0 hi
      have h4 := or_gt hb
      exact wn_fuel k k' _ i h3 (by omega) (by omega)
    constructor
    · rintro ⟨i, i1, i2, i3, i4⟩
      exact ⟨i, i1, i2, i3, fun z => i4 ((key i i1 i2).mpr z)⟩
    · rintro ⟨i, i1, i2, i3, i4⟩
      exact ⟨i, i1, i2, i3, fun z => i4 ((key i i1 i2).mp z)⟩
theorem win_iff {e : Int → Int → Int} {f : Int → Int} {p N a : Nat} (hN : N < 2 ^ p) : win e f p N a ↔ ∃ i : Nat, i < p ∧ ¬ N.testBit i = true ∧ e (f a) (f i) ≠ 0 ∧ ¬ win e f p (N ||| 1 <<< i) i := by
  unfold win
  have h0 : 0 < 2 ^ p := Nat.two_pow_pos _
  obtain ⟨k, hk⟩ : ∃ k, 2 ^ p = k + 1 := ⟨2 ^ p - 1, by omega⟩
  have key : ∀ i, i < p → ¬ N.testBit i = true → (wn e f p k (N ||| 1 <<< i) i ↔ wn e f p (2 ^ p) (N ||| 1 <<< i) i) := fun i hi hb => by
    have h3 := or_lt hN hi
    have h4 := or_gt hb
    exact wn_fuel k _ _ i h3 (by omega) (by omega)
  constructor
  · intro h
    rw [hk] at h
    obtain ⟨i, i1, i2, i3, i4⟩ := h
    exact ⟨i, i1, i2, i3, fun z => i4 ((key i i1 i2).mpr z)⟩
  · rintro ⟨i, i1, i2, i3, i4⟩
    rw [hk]
    exact ⟨i, i1, i2, i3, fun z => i4 ((key i i1 i2).mp z)⟩
/-- who begins can go to the place i and win -/
def Good (e : Int → Int → Int) (f : Int → Int) (p i : Nat) : Prop := i < p ∧ i ≠ 0 ∧ e (f 0) (f i) ≠ 0 ∧ ¬ win e f p (1 ||| 1 <<< i) i
def GameA (e : Int → Int → Int) (f : Int → Int) (p : Nat) (q r : Int) : Prop := ((∀ i, ¬ Good e f p i) ∧ r = if q = 0 then 0 else -2) ∨ ∃ i, Good e f p i ∧ (∀ j, Good e f p j → f i ≤ f j) ∧ r = if q = 0 then 1 else f i
theorem GameA.uniq {e : Int → Int → Int} {f : Int → Int} {p : Nat} {q r r' : Int} (h : GameA e f p q r) (k : GameA e f p q r') : r = r' := by
  rcases h with ⟨h1, h2⟩ | ⟨i, h1, h2, h3⟩
  · rcases k with ⟨k1, k2⟩ | ⟨j, k1, k2, k3⟩
    · rw [h2, k2]
    · exact absurd k1 (h1 j)
  · rcases k with ⟨k1, k2⟩ | ⟨j, k1, k2, k3⟩
    · exact absurd h1 (k1 i)
    · rw [h3, k3]
      have := h2 j k1
      have := k2 i h1
      split <;> omega
theorem one_bit {x w : Nat} : (1 <<< w).testBit x = true ↔ w = x := by
  have h := bit_or_test (N := 0) (w := w) (x := x)
  rw [Nat.zero_or, Nat.zero_testBit] at h
  exact ⟨fun z => (h.mp z).elim (fun y => absurd y (by decide)) id, fun z => h.mpr (Or.inr z)⟩
theorem one_test {i : Nat} : (1 : Nat).testBit i = true ↔ i = 0 := by
  have h := one_bit (x := i) (w := 0)
  rw [show 1 <<< 0 = 1 from rfl] at h
  exact ⟨fun z => (h.mp z).symm, fun z => h.mpr z.symm⟩
theorem and_zero {M N : Nat} : M &&& N = 0 ↔ ∀ i, ¬ (M.testBit i = true ∧ N.testBit i = true) := by
  constructor
  · intro h i hi
    have : (M &&& N).testBit i = true := by rw [Nat.testBit_and, hi.1, hi.2]; rfl
    rw [h, Nat.zero_testBit] at this
    exact absurd this (by decide)
  · intro h
    apply Classical.byContradiction
    intro hn
    obtain ⟨i, hi⟩ := bit_some hn
    rw [Nat.testBit_and, Bool.and_eq_true] at hi
    exact h i hi
theorem iand0 {M N : Nat} (hM : M < 2147483648) (hN : N < 2147483648) : iand (M : Int) (N : Int) = 0 ↔ ∀ i, ¬ (M.testBit i = true ∧ N.testBit i = true) := by
  rw [iand_nat hM hN, ← and_zero]
  omega
theorem iandb {N : Nat} {i : Int} (hN : N < 2147483648) (i0 : 0 ≤ i) (i1 : i ≤ 30) : iand (N : Int) (ishl 1 i) = 0 ↔ ¬ N.testBit i.toNat = true := by
  have h1 : (1 : Nat) <<< i.toNat ≤ 2 ^ 30 := by rw [Nat.one_shiftLeft]; exact Nat.pow_le_pow_right (by decide) (by omega)
  rw [ish1 i0 i1, iand0 hN (by omega)]
  constructor
  · intro h z
    exact h i.toNat ⟨z, one_bit.mpr rfl⟩
  · intro h j hj
    rw [← one_bit.mp hj.2] at hj
    exact h hj.1
def GameM (g : G) (lw : LW) (f : Int → Int) (p A : Nat) (m : Int) (h : AH) : Prop := ∀ N : Nat, m < N → N < A → ∀ a : Nat, a < p → N.testBit a = true → (win (eW g lw) f p N a → h.1 89 (13 * N + a) = 1) ∧ (¬ win (eW g lw) f p N a → h.1 89 (13 * N + a) = 0)
section GA
variable {d : Nat} {g : G} {lw : LW} {h : AH} {K : Int → AH → Prop}
theorem mWins (hd : 1 < d) {p : Int} {a N A : Nat} {f : Int → Int} (r : RepM g h) (l : LaidM g lw h) (p1 : p ≤ 12) (hA : A = 2 ^ p.toNat) (hN : N < A) (to : ToldOk g f p) (tl : ∀ i, 0 ≤ i → i < p → h.1 88 i = f i) (rm : GameM g lw f p.toNat A N h) (ha : (a : Int) < p) (kT : win (eW g lw) f p.toNat N a → K 1 h) (kF : ¬ win (eW g lw) f p.toNat N a → K 0 h) : Call d M_M_wins [vR 12 (-1), vI p, vI (N : Int), vI (a : Int)] h K := by
  have hA2 : A ≤ 4096 := by rw [hA]; exact pow_le_k 12 p1
  refine c_M_wins 1 hd ?_
  have key : ∀ m : Nat, ∀ v4 : Int, 0 ≤ v4 → v4 ≤ p → p - v4 < m → (∀ i : Nat, (i : Int) < v4 → ¬ (¬ N.testBit i = true ∧ eW g lw (f a) (f i) ≠ 0 ∧ ¬ win (eW g lw) f p.toNat (N ||| 1 <<< i) i)) → A_M_wins_3 1 K p N a v4 h := by
    intro m
    induction m with
    | zero => intro v4 x1 x2 e; omega
    | succ m ih =>
      intro v4 x1 x2 e no
      have ev : v4 = ((v4.toNat : Nat) : Int) := by omega
      have next : ¬ (¬ N.testBit v4.toNat = true ∧ eW g lw (f a) (f v4) ≠ 0 ∧ ¬ win (eW g lw) f p.toNat (N ||| 1 <<< v4.toNat) v4.toNat) → v4 < p → inI (v4 + 1) ∧ A_M_wins_3 1 K p N a (v4 + 1) h := fun hn hp => ⟨ii (by omega), ih (v4 + 1) (by omega) (by omega) (by omega) (fun i hi => by
        by_cases z : (i : Int) = v4
        · rw [← z, Int.toNat_natCast] at hn; exact hn
        · exact no i (by omega))⟩
      refine s_M_wins_3 ⟨fun c => kF (fun hw => ?_), fun c => ?_⟩
      · obtain ⟨i, i1, i2, i3, i4⟩ := (win_iff (hA ▸ hN)).mp hw
        exact no i (by omega) ⟨i2, i3, i4⟩
      · rw [ibit (by omega) x1 (by omega)]
        by_cases hb : N.testBit v4.toNat = true
        · rw [if_pos hb]
          exact ⟨fun _ => next (fun z => z.1 hb) c, fun z => absurd z (by decide)⟩
        · rw [if_neg hb]
          refine ⟨fun z => absurd rfl z, fun _ => mStepTold (by decide) r l (by omega) to tl (by omega) ha x1 c ?_⟩
          have sb := sc_b g lw (f a) (f v4)
          by_cases hz : (sc g lw (f a) (f v4)).1 = 0
          · rw [if_pos hz]
            exact ⟨fun _ => next (fun z => z.2.1 hz) c, fun z => absurd z (by decide)⟩
          · rw [if_neg hz]
            refine ⟨fun z => by omega, fun _ => ?_⟩
            have hN' := or_lt (p := p.toNat) (i := v4.toNat) (hA ▸ hN) (by omega)
            have hgt := or_gt hb
            have ra := rm (N ||| 1 <<< v4.toNat) (by omega) (by rw [hA]; exact hN') v4.toNat (by omega) (bit_or_test.mpr (Or.inr rfl))
            rw [ior1 (p := p.toNat) (hA ▸ hN) (by omega) x1 (by omega)]
            rw [← hA] at hN'
            rw [← ev] at ra
            have win2 : ¬ win (eW g lw) f p.toNat (N ||| 1 <<< v4.toNat) v4.toNat → win (eW g lw) f p.toNat N a := fun z => (win_iff (hA ▸ hN)).mpr ⟨v4.toNat, by omega, hb, by rw [← ev]; exact hz, z⟩
            generalize N ||| 1 <<< v4.toNat = N' at ra hN' next win2
            refine ⟨ii (by omega), ii (by omega), ib (by omega), fun z => next (fun y => z (ra.2 y.2.2)) c, fun z => kT (win2 (fun y => ?_))⟩
            have := ra.1 y
            omega
  exact key (p.toNat + 1) 0 (by decide) (by omega) (by omega) (fun i hi => by omega)
theorem mGame (hd : 5 < d) {p q : Int} {t : Tp} (r : RepM g h) (rt : RepMT t h) (rl : RepML lw h) (k0 : ¬ (2 ≤ p ∧ p ≤ 12 ∧ 0 ≤ q ∧ q ≤ 1 ∧ p ≤ t.1) → K (-1) h) (k3 : ∀ h', 2 ≤ p ∧ p ≤ 12 ∧ 0 ≤ q ∧ q ≤ 1 ∧ p ≤ t.1 → ¬ (ToldOk g t.2 p ∧ ∀ i, 0 ≤ i → i < p → us g (t.2 i)) → RepMT (0, t.2) h' → Fr [76, 77, 78, 79, 80, 88, 89] [(12, 11)] h h' → K (-3) h') (k : ∀ h' x, 2 ≤ p ∧ p ≤ 12 ∧ 0 ≤ q ∧ q ≤ 1 ∧ p ≤ t.1 → (ToldOk g t.2 p ∧ ∀ i, 0 ≤ i → i < p → us g (t.2 i)) → GameA (eW g lw) t.2 p.toNat q x → RepMT (0, t.2) h' → Fr [76, 77, 78, 79, 80, 88, 89] [(12, 11)] h h' → K x h') : Call d M_M_game [vR 12 (-1), vI p, vI q] h K := by
  refine c_M_game 5 hd (mIn (by decide) (fun p0 p1 => br1 (mIn (by decide) (fun q0 q1 => br1 ⟨fun c => ?_, fun c => k0 (by rw [rt.2.1] at c; omega)⟩) (fun c => br0 (k0 (by omega))))) (fun c => br0 (k0 (by omega))))
  rw [rt.2.1] at c
  have G : 2 ≤ p ∧ p ≤ 12 ∧ 0 ≤ q ∧ q ≤ 1 ∧ p ≤ t.1 := ⟨p0, p1, q0, q1, c⟩
  refine mTakesWords (by decide) r rt (by omega) (by omega) c (fun h1 to tl rt1 f1 => br1 ?_) (fun h1 nt rt1 f1 => br0 (k3 h1 G (fun z => nt z.1) rt1 (f1.mono (by decide) (by decide))))
  refine mAreUsed (by decide) (r.fr f1) (by omega) (by omega) to tl (fun ua => br1' ?_) (fun nu => br0' (k3 h1 G (fun z => nu z.2) rt1 (f1.mono (by decide) (by decide))))
  refine mLaysSteps (by decide) (r.fr f1) (rl.fr f1) (fun h2 ls f2 => ?_)
  have r2 := (r.fr f1).fr f2
  have tl2 : ∀ i, 0 ≤ i → i < p → h2.1 88 i = t.2 i := fun i i0 i1 => by rw [f2.i 88]; exact tl i i0 i1
  have hA2 : 2 ^ p.toNat ≤ 4096 := pow_le_k 12 (by omega)
  have hA0 : 2 ^ 2 ≤ 2 ^ p.toNat := Nat.pow_le_pow_right (by decide) (by omega)
  have fr2 : Fr [76, 77, 78, 79, 80, 88, 89] [(12, 11)] h h2 := (f1.mono (by decide) (by decide)).trans (f2.mono (by decide) (by decide))
  have rt2 := rt1.fr f2
  generalize hA : 2 ^ p.toNat = A at hA2 hA0
  have es : ishl 1 p = (A : Int) := by rw [ish1 (by omega) (by omega), Nat.one_shiftLeft, hA]
  rw [es]
  refine ⟨ii (by omega), ?_⟩
  have fin : ∀ hh x, Fr [89] [] h2 hh → GameA (eW g lw) t.2 p.toNat q x → K x hh := fun hh x ff hx => k hh x G ⟨to, ua⟩ hx (rt2.fr ff) (fr2.trans (ff.mono (by decide) (by decide)))
  have gd : ∀ i : Nat, (i : Int) < p → i ≠ 0 → (Good (eW g lw) t.2 p.toNat i ↔ eW g lw (t.2 0) (t.2 i) ≠ 0 ∧ ¬ win (eW g lw) t.2 p.toNat (1 ||| 1 <<< i) i) := fun i i1 i2 => ⟨fun z => z.2.2, fun z => ⟨by omega, i2, z⟩⟩
  have pick : ∀ m : Nat, ∀ (v3 v4 : Int) (hh : AH), q ≠ 0 → 1 ≤ v4 → v4 ≤ p → p - v4 < m → Fr [89] [] h2 hh → GameM g lw t.2 p.toNat A 0 hh → ((v3 = -2 ∧ ∀ i : Nat, (i : Int) < v4 → ¬ Good (eW g lw) t.2 p.toNat i) ∨ ∃ i, Good (eW g lw) t.2 p.toNat i ∧ v3 = t.2 i ∧ ∀ j : Nat, (j : Int) < v4 → Good (eW g lw) t.2 p.toNat j → t.2 i ≤ t.2 j) → A_M_game_139 5 K p v3 v4 hh := by
    intro m
    induction m with
    | zero => intro v3 v4 hh hq x1 x2 e; omega
    | succ m ih =>
      intro v3 v4 hh hq x1 x2 e ff gm b
      refine s_M_game_139 ⟨fun c2 => fin hh v3 ff ?_, fun c2 => ?_⟩
      · rcases b with ⟨b1, b2⟩ | ⟨i, b1, b2, b3⟩
        · exact Or.inl ⟨fun i hi => b2 i (by have := hi.1; omega) hi, by rw [if_neg hq]; exact b1⟩
        · exact Or.inr ⟨i, b1, fun j hj => b3 j (by have := hj.1; omega) hj, by rw [if_neg hq]; exact b2⟩
      · have ev : v4 = ((v4.toNat : Nat) : Int) := by omega
        have tlh : ∀ i, 0 ≤ i → i < p → hh.1 88 i = t.2 i := fun i i0 i1 => by rw [ff.i 88]; exact tl2 i i0 i1
        have skip : ¬ Good (eW g lw) t.2 p.toNat v4.toNat → inI (v4 + 1) ∧ A_M_game_139 5 K p v3 (v4 + 1) hh := fun hn => ⟨ii (by omega), ih v3 (v4 + 1) hh hq (by omega) (by omega) (by omega) ff gm (by
          rcases b with ⟨b1, b2⟩ | ⟨i, b1, b2, b3⟩
          · refine Or.inl ⟨b1, fun i hi => ?_⟩
            by_cases z : (i : Int) = v4
            · rw [show i = v4.toNat by omega]; exact hn
            · exact b2 i (by omega)
          · refine Or.inr ⟨i, b1, b2, fun j hj gj => ?_⟩
            by_cases z : (j : Int) = v4
            · exact absurd (by rw [show v4.toNat = j by omega]; exact gj) hn
            · exact b3 j (by omega) gj)⟩
        have take : Good (eW g lw) t.2 p.toNat v4.toNat → (∀ j : Nat, (j : Int) < v4 → Good (eW g lw) t.2 p.toNat j → t.2 v4 ≤ t.2 j) → A_M_game_194 5 K p v4 hh := fun hg hl => s_M_game_194 ⟨ib (by omega), ii (by omega), by
          rw [tlh v4 (by omega) c2]
          refine ih _ (v4 + 1) hh hq (by omega) (by omega) (by omega) ff gm (Or.inr ⟨v4.toNat, hg, by rw [← ev], fun j hj gj => ?_⟩)
          rw [← ev]
          by_cases z : (j : Int) = v4
          · rw [z]; exact Int.le_refl _
          · exact hl j (by omega) gj⟩
        have hgd := gd v4.toNat (by omega) (by omega)
        rw [← ev] at hgd
        refine mStepTold (by decide) (r2.fr ff) (ls.fr ff) (by omega) to tlh (Int.le_refl 0) (by omega) (by omega) c2 ?_
        have sb := sc_b g lw (t.2 0) (t.2 v4)
        by_cases hz : (sc g lw (t.2 0) (t.2 v4)).1 = 0
        · rw [if_pos hz]
          exact ⟨fun _ => skip (fun y => (hgd.mp y).1 hz), fun z => absurd z (by decide)⟩
        · rw [if_neg hz]
          refine ⟨fun z => by omega, fun _ => ?_⟩
          have hb : ¬ (1 : Nat).testBit v4.toNat = true := fun z => by have := one_test.mp z; omega
          have h1A : 1 < 2 ^ p.toNat := by rw [hA]; omega
          have hN' := or_lt (p := p.toNat) (i := v4.toNat) h1A (by omega)
          have hgt := or_gt hb
          have ra := gm (1 ||| 1 <<< v4.toNat) (by omega) (by rw [← hA]; exact hN') v4.toNat (by omega) (bit_or_test.mpr (Or.inr rfl))
          have eo := ior1 (N := 1) (i := v4) (p := p.toNat) h1A (by omega) (by omega) (by omega)
          rw [show ((1 : Nat) : Int) = 1 from rfl] at eo
          rw [eo]
          rw [hA] at hN'
          rw [← ev] at ra
          generalize 1 ||| 1 <<< v4.toNat = N' at ra hN' hgd
          refine ⟨ii (by omega), ii (by omega), ib (by omega), fun z => skip (fun y => z (ra.2 (hgd.mp y).2)), fun z => ?_⟩
          have hg : Good (eW g lw) t.2 p.toNat v4.toNat := hgd.mpr ⟨hz, fun y => by have := ra.1 y; omega⟩
          refine ⟨fun z2 => take hg (fun j hj gj => ?_), fun z2 => ⟨ib (by omega), ?_⟩⟩
          · rcases b with ⟨b1, b2⟩ | ⟨i, b1, b2, b3⟩
            · exact absurd gj (b2 j hj)
            · have := (to i (by omega) (by have := b1.1; omega)).1
              omega
          · rcases b with ⟨b1, b2⟩ | ⟨i, b1, b2, b3⟩
            · exact absurd b1 z2
            · rw [tlh v4 (by omega) c2, b2]
              refine ⟨fun hle => ⟨ii (by omega), ih _ (v4 + 1) hh hq (by omega) (by omega) (by omega) ff gm (Or.inr ⟨i, b1, rfl, fun j hj gj => ?_⟩)⟩, fun hlt => take hg (fun j hj gj => ?_)⟩
              · by_cases z : (j : Int) = v4
                · rw [z]; exact hle
                · exact b3 j (by omega) gj
              · have := b3 j hj gj; omega
  have sets : ∀ m : Nat, ∀ (v3 : Int) (hh : AH), 0 ≤ v3 → v3 < A → v3 < m → Fr [89] [] h2 hh → GameM g lw t.2 p.toNat A v3 hh → A_M_game_58 5 K p q v3 hh := by
    intro m
    induction m with
    | zero => intro v3 hh x1 x2 e; omega
    | succ m ih =>
      intro v3 hh x1 x2 e ff gm
      refine s_M_game_58 ⟨fun c2 => ?_, fun c2 => ?_⟩
      · rw [show v3 = 0 by omega] at gm
        refine ⟨fun hq => pick (p.toNat + 1) (-2) 1 hh hq (by decide) (by omega) (by omega) ff gm (Or.inl ⟨rfl, fun i hi z => z.2.1 (by omega)⟩), fun hq => fin hh _ ff ?_⟩
        have q1 := gm 1 (by decide) (by omega) 0 (by omega) (one_test.mpr rfl)
        rw [show 13 * ((1 : Nat) : Int) + ((0 : Nat) : Int) = 13 by decide] at q1
        have wi := win_iff (e := eW g lw) (f := t.2) (p := p.toNat) (N := 1) (a := 0) (by omega)
        by_cases hw : win (eW g lw) t.2 p.toNat 1 0
        · rw [q1.1 hw]
          have hgood : ∃ i, Good (eW g lw) t.2 p.toNat i := by
            obtain ⟨i, i1, i2, i3, i4⟩ := wi.mp hw
            exact ⟨i, i1, fun z => i2 (one_test.mpr z), i3, i4⟩
          obtain ⟨i, hi⟩ := hgood
          have hpos : ∀ j, Good (eW g lw) t.2 p.toNat j → 0 ≤ t.2 j := fun j hj => (to j (by omega) (by have := hj.1; omega)).1.1
          obtain ⟨u, u0, ⟨j, j1, j2⟩, u2⟩ := least_nat (P := fun v => ∃ j, Good (eW g lw) t.2 p.toNat j ∧ t.2 j = v) (n := 0) ((t.2 i).toNat + 1) (t.2 i) (by have := hpos i hi; omega) (hpos i hi) ⟨i, hi, rfl⟩
          refine Or.inr ⟨j, j1, fun l hl => ?_, by rw [if_pos hq]⟩
          by_cases z : t.2 l < t.2 j
          · exact absurd ⟨l, hl, rfl⟩ (u2 (t.2 l) (hpos l hl) (by omega))
          · omega
        · rw [q1.2 hw]
          exact Or.inl ⟨fun i hi => hw (wi.mpr ⟨i, hi.1, fun z => hi.2.1 (one_test.mp z), hi.2.2⟩), by rw [if_pos hq]⟩
      · have ev : v3 = ((v3.toNat : Nat) : Int) := by omega
        have hN : v3.toNat < A := by omega
        generalize hNN : v3.toNat = N at ev hN
        subst ev
        have at' : ∀ m : Nat, ∀ (v4 : Int) (h3 : AH), 0 ≤ v4 → v4 ≤ p → p - v4 < m → Fr [89] [] h2 h3 → GameM g lw t.2 p.toNat A N h3 → (∀ a : Nat, (a : Int) < v4 → a < p.toNat → N.testBit a = true → (win (eW g lw) t.2 p.toNat N a → h3.1 89 (13 * N + a) = 1) ∧ (¬ win (eW g lw) t.2 p.toNat N a → h3.1 89 (13 * N + a) = 0)) → A_M_game_65 5 K p q N v4 h3 := by
          intro m
          induction m with
          | zero => intro v4 h3 y1 y2 e; omega
          | succ m ih2 =>
            intro v4 h3 y1 y2 e2 f3 gm3 s
            refine s_M_game_65 ⟨fun c3 => ⟨ii (by omega), ih _ h3 (by omega) (by omega) (by omega) f3 (fun N' n1 n2 a a1 a2 => ?_)⟩, fun c3 => ?_⟩
            · by_cases z : N' = N
              · rw [z] at a2 ⊢; exact s a (by omega) a1 a2
              · exact gm3 N' (by omega) n2 a a1 a2
            · have ew : v4 = ((v4.toNat : Nat) : Int) := by omega
              rw [ibit (by omega) y1 (by omega)]
              by_cases hb : N.testBit v4.toNat = true
              · rw [if_pos hb]
                refine ⟨fun z => absurd rfl z, fun _ => ⟨ii (by omega), ii (by omega), ?_⟩⟩
                have nextw : ∀ x : Int, ((win (eW g lw) t.2 p.toNat N v4.toNat → x = 1) ∧ (¬ win (eW g lw) t.2 p.toNat N v4.toNat → x = 0)) → inb (13 * (N : Int) + v4) 53248 ∧ (inI (v4 + 1) ∧ A_M_game_65 5 K p q N (v4 + 1) (wI h3 89 (13 * (N : Int) + v4) x)) := fun x hx => ⟨ib (by omega), ii (by omega), ih2 (v4 + 1) _ (by omega) (by omega) (by omega) (f3.trans (Fr.wI (Or.inl (by decide)))) (fun N' n1 n2 a a1 a2 => by rw [rI_nk (by omega)]; exact gm3 N' n1 n2 a a1 a2) (fun a a1 a2 a3 => by
                  by_cases z : (a : Int) = v4
                  · rw [z, rI_eq, show a = v4.toNat by omega]; exact hx
                  · rw [rI_nk (by omega)]; exact s a (by omega) a2 a3)⟩
                have go := mWins (d := 5) (h := h3) (a := v4.toNat) (K := fun r6 h5 => inb ((13 * (N : Int)) + v4) 53248 ∧ (inI (v4 + 1) ∧ A_M_game_65 5 K p q N (v4 + 1) (wI h5 89 ((13 * (N : Int)) + v4) (if r6 = 0 then (0 : Int) else 1)))) (by decide) (r2.fr f3) (ls.fr f3) p1 hA.symm hN to (fun i i0 i1 => by rw [f3.i 88]; exact tl2 i i0 i1) gm3 (by omega) (fun hw => nextw _ ⟨fun _ => rfl, fun z => absurd hw z⟩) (fun hw => nextw _ ⟨fun z => absurd z hw, fun _ => rfl⟩)
                rw [← ew] at go
                exact go
              · rw [if_neg hb]
                refine ⟨fun _ => ⟨ii (by omega), ih2 (v4 + 1) h3 (by omega) (by omega) (by omega) f3 gm3 (fun a a1 a2 a3 => ?_)⟩, fun z => absurd z (by decide)⟩
                by_cases z : (a : Int) = v4
                · exact absurd (by rw [show v4.toNat = a by omega]; exact a3) hb
                · exact s a (by omega) a2 a3
        exact at' (p.toNat + 1) 0 hh (by decide) (by omega) (by omega) ff gm (fun a a1 => by omega)
  exact sets (A + 1) _ h2 (by omega) (by omega) (by omega) Fr.refl (fun N n1 n2 => by omega)
end GA

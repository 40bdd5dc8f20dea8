/-! the class: the game -/
def MaskP (P : Nat → Prop) (v : Int) (M : Nat) : Prop := ∀ j, M.testBit j = true ↔ (j : Int) < v ∧ P j
theorem MaskP.start {P : Nat → Prop} : MaskP P 0 0 := fun j => ⟨fun z => by rw [Nat.zero_testBit] at z; exact absurd z (by decide), fun z => by omega⟩
theorem MaskP.put {P : Nat → Prop} {v : Int} {M : Nat} (m : MaskP P v M) (v0 : 0 ≤ v) (hp : P v.toNat) : MaskP P (v + 1) (M ||| 1 <<< v.toNat) := fun j => by
  rw [bit_or_test, m j]
  refine ⟨fun z => ?_, fun z => ?_⟩
  · rcases z with z | z
    · exact ⟨by omega, z.2⟩
    · rw [z] at hp; exact ⟨by omega, hp⟩
  · by_cases y : v.toNat = j
    · exact Or.inr y
    · exact Or.inl ⟨by omega, z.2⟩
theorem MaskP.skip {P : Nat → Prop} {v : Int} {M : Nat} (m : MaskP P v M) (v0 : 0 ≤ v) (hp : ¬ P v.toNat) : MaskP P (v + 1) M := fun j => by
  rw [m j]
  refine ⟨fun z => ⟨by omega, z.2⟩, fun z => ⟨?_, z.2⟩⟩
  by_cases y : v.toNat = j
  · rw [y] at hp; exact absurd z.2 hp
  · omega
theorem MaskP.full {P : Nat → Prop} {v p : Int} {M : Nat} (m : MaskP P v M) (e : v = p) : MaskP P p M := e ▸ m
theorem MaskP.uniq {P : Nat → Prop} {v : Int} {M N : Nat} (m : MaskP P v M) (n : MaskP P v N) : M = N := Nat.eq_of_testBit_eq (fun i => by
  have h1 := m i
  have h2 := n i
  by_cases z : M.testBit i = true
  · rw [z, h2.mpr (h1.mp z)]
  · have : ¬ N.testBit i = true := fun y => z (h1.mpr (h2.mp y))
    cases hM : M.testBit i <;> cases hN : N.testBit i <;> simp_all)
def SBits (g : G) (lw : LW) (f : Int → Int) (p : Int) (m : Int) (h : AH) : Prop := ∀ i : Nat, (i : Int) < m → (i : Int) < p → ∃ M : Nat, M < 2 ^ p.toNat ∧ h.1 51 i = (M : Int) ∧ MaskP (fun j => eW g lw (f i) (f j) ≠ 0) p M
def WinC (g : G) (lw : LW) (f : Int → Int) (p : Int) (m : Int) (h : AH) : Prop := ∀ N : Nat, m < N → N < 2 ^ p.toNat → ∃ M : Nat, M < 2 ^ p.toNat ∧ h.1 52 N = (M : Int) ∧ MaskP (fun a => win (eW g lw) f p.toNat N a) p M
def LostP (g : G) (lw : LW) (f : Int → Int) (p : Int) (N : Nat) : Nat → Prop := fun j => ¬ N.testBit j = true ∧ ¬ win (eW g lw) f p.toNat (N ||| 1 <<< j) j
section CGA
variable {d : Nat} {g : G} {lw : LW} {h : AH} {K : Int → AH → Prop}
theorem cStepBits (hd : 1 < d) {p : Int} {f : Int → Int} (r : RepCW g h) (l : LaidC g lw h) (e10 : h.1 10 10 = p) (p0 : 1 ≤ p) (p1 : p ≤ 12) (to : ToldOk g f p) (tl : ∀ i, 0 ≤ i → i < p → h.1 48 i = f i) (k : ∀ h', SBits g lw f p p h' → Fr [51] [] h h' → K 0 h') : Call d M_Told_findStepBits [vR 10 (-1)] h K := by
  have hA2 : 2 ^ p.toNat ≤ 4096 := pow_le_k 12 p1
  refine c_Told_findStepBits 1 hd ?_
  have E10 : ∀ hh, Fr [51] [] h hh → hh.1 10 10 = p := fun hh ff => by rw [ff.i 10]; exact e10
  have inner : ∀ m : Nat, ∀ (v1 v2 : Int) (M : Nat) (hh : AH), 0 ≤ v1 → v1 < p → 0 ≤ v2 → v2 ≤ p → (p - v1) * 13 - v2 < m → Fr [51] [] h hh → SBits g lw f p v1 hh → M < 2 ^ p.toNat → hh.1 51 v1 = (M : Int) → MaskP (fun j => eW g lw (f v1) (f j) ≠ 0) v2 M → A_Told_findStepBits_25 1 K v1 v2 hh := by
    intro m
    induction m with
    | zero => intro v1 v2 M hh x1 x2 x3 x4 e; omega
    | succ m ih =>
      intro v1 v2 M hh x1 x2 x3 x4 e ff s hM e51 mk
      refine s_Told_findStepBits_25 ?_
      rw [E10 hh ff]
      refine ⟨fun c => ⟨ii (by omega), s_Told_findStepBits_2 ?_⟩, fun c => ⟨ib (by omega), ib (by omega), ?_⟩⟩
      · have s' : SBits g lw f p (v1 + 1) hh := fun i i1 i2 => by
          by_cases z : (i : Int) = v1
          · rw [show v2 = p by omega] at mk
            exact ⟨M, hM, by rw [z]; exact e51, by rw [z]; exact mk⟩
          · exact s i (by omega) i2
        rw [E10 hh ff]
        refine ⟨fun c2 => k hh (fun i i1 i2 => s' i (by omega) i2) ff, fun c2 => ⟨fun c3 => by omega, fun c3 => ⟨ib (by omega), ih (v1 + 1) 0 0 _ (by omega) c2 (by decide) (by omega) (by omega) (ff.trans (Fr.wI (Or.inl (by decide)))) (fun i i1 i2 => ?_) (Nat.two_pow_pos _) rI_eq MaskP.start⟩⟩⟩
        rw [rI_nk (by omega)]; exact s' i i1 i2
      · rw [ff.i 48, ff.i 48, tl v1 x1 x2, tl v2 x3 c]
        have b1 := (to v1 x1 x2).1
        have b2 := (to v2 x3 c).1
        have ev : v2 = ((v2.toNat : Nat) : Int) := by omega
        refine cLeads (by decide) (r.fr ff) (l.fr ff) b1.1 b1.2 b2.1 b2.2 (fun hy => br1 ⟨ib (by omega), ii (by omega), ?_⟩) (fun hn => br0 ⟨ii (by omega), ih v1 (v2 + 1) M hh x1 x2 (by omega) (by omega) (by omega) ff s hM e51 (mk.skip x3 (fun z => z (by rw [← ev]; exact hn)))⟩)
        rw [e51, ior1 hM (by omega) x3 (by omega)]
        refine ih v1 (v2 + 1) _ _ x1 x2 (by omega) (by omega) (by omega) (ff.trans (Fr.wI (Or.inl (by decide)))) (fun i i1 i2 => by rw [rI_nk (by omega)]; exact s i i1 i2) (or_lt hM (by omega)) rI_eq (mk.put x3 (by rw [← ev]; exact hy))
  refine s_Told_findStepBits_2 ?_
  rw [e10]
  exact ⟨fun c => by omega, fun c => ⟨fun c2 => by omega, fun c2 => ⟨ib (by omega), inner ((p.toNat + 1) * 13) 0 0 0 _ (by decide) (by omega) (by decide) (by omega) (by omega) (Fr.wI (Or.inl (by decide))) (fun i i1 => by omega) (Nat.two_pow_pos _) rI_eq MaskP.start⟩⟩⟩
theorem cLostAfter (hd : 0 < d) {p : Int} {N : Nat} {f : Int → Int} (e10 : h.1 10 10 = p) (p0 : 1 ≤ p) (p1 : p ≤ 12) (hN : N < 2 ^ p.toNat) (wc : WinC g lw f p N h) (k : ∀ M : Nat, M < 2 ^ p.toNat → MaskP (LostP g lw f p N) p M → K M h) : Call d M_Told_lostAfter [vR 10 (-1), vI (N : Int)] h K := by
  have hA2 : 2 ^ p.toNat ≤ 4096 := pow_le_k 12 p1
  refine c_Told_lostAfter 0 hd ?_
  have key : ∀ m : Nat, ∀ (M : Nat) (v3 : Int), 0 ≤ v3 → v3 ≤ p → p - v3 < m → M < 2 ^ p.toNat → MaskP (LostP g lw f p N) v3 M → A_Told_lostAfter_4 0 K N M v3 h := by
    intro m
    induction m with
    | zero => intro M v3 x1 x2 e; omega
    | succ m ih =>
      intro M v3 x1 x2 e hM mk
      refine s_Told_lostAfter_4 ?_
      rw [e10]
      refine ⟨fun c => k M hM (mk.full (by omega)), fun c => ?_⟩
      have bN := iandb (N := N) (i := v3) (by omega) x1 (by omega)
      have skip : ¬ LostP g lw f p N v3.toNat → inI (v3 + 1) ∧ A_Told_lostAfter_4 0 K N M (v3 + 1) h := fun hn => ⟨ii (by omega), ih M (v3 + 1) (by omega) (by omega) (by omega) hM (mk.skip x1 hn)⟩
      refine ⟨fun c2 => skip (fun z => c2 (bN.mpr z.1)), fun c2 => ?_⟩
      have hb := bN.mp c2
      have hN' := or_lt (p := p.toNat) (i := v3.toNat) hN (by omega)
      have hgt := or_gt hb
      obtain ⟨W, w1, w2, w3⟩ := wc (N ||| 1 <<< v3.toNat) (by omega) hN'
      have eo := ior1 (N := N) (i := v3) (p := p.toNat) hN (by omega) x1 (by omega)
      rw [eo, w2]
      have bW := iandb (N := W) (i := v3) (by omega) x1 (by omega)
      have hw : W.testBit v3.toNat = true ↔ win (eW g lw) f p.toNat (N ||| 1 <<< v3.toNat) v3.toNat := by
        rw [w3]
        exact ⟨fun z => z.2, fun z => ⟨by omega, z⟩⟩
      refine ⟨ib (by omega), fun c3 => skip (fun z => c3 (bW.mpr (fun y => z.2 (hw.mp y)))), fun c3 => ⟨ii (by omega), ?_⟩⟩
      rw [ior1 hM (by omega) x1 (by omega)]
      exact ih _ (v3 + 1) (by omega) (by omega) (by omega) (or_lt hM (by omega)) (mk.put x1 ⟨hb, fun y => (bW.mp c3) (hw.mpr y)⟩)
  exact key (p.toNat + 1) 0 0 (by decide) (by omega) (by omega) (Nat.two_pow_pos _) MaskP.start
theorem cPlacesFrom (hd : 0 < d) {p : Int} {T : Nat} {f : Int → Int} (e10 : h.1 10 10 = p) (p0 : 1 ≤ p) (p1 : p ≤ 12) (hT : T < 2 ^ p.toNat) (s : SBits g lw f p p h) (k : ∀ M : Nat, M < 2 ^ p.toNat → MaskP (fun a => ∃ j : Nat, (j : Int) < p ∧ eW g lw (f a) (f j) ≠ 0 ∧ T.testBit j = true) p M → K M h) : Call d M_Told_placesFrom [vR 10 (-1), vI (T : Int)] h K := by
  have hA2 : 2 ^ p.toNat ≤ 4096 := pow_le_k 12 p1
  refine c_Told_placesFrom 0 hd ?_
  have key : ∀ m : Nat, ∀ (M : Nat) (v3 : Int), 0 ≤ v3 → v3 ≤ p → p - v3 < m → M < 2 ^ p.toNat → MaskP (fun a => ∃ j : Nat, (j : Int) < p ∧ eW g lw (f a) (f j) ≠ 0 ∧ T.testBit j = true) v3 M → A_Told_placesFrom_4 0 K T M v3 h := by
    intro m
    induction m with
    | zero => intro M v3 x1 x2 e; omega
    | succ m ih =>
      intro M v3 x1 x2 e hM mk
      refine s_Told_placesFrom_4 ⟨fun c => k M hM (fun j => ?_), fun c => ?_⟩
      · have hT0 : T = 0 := by omega
        rw [mk j]
        constructor
        · rintro ⟨-, i, -, -, z⟩
          rw [hT0, Nat.zero_testBit] at z
          exact absurd z (by decide)
        · rintro ⟨-, i, -, -, z⟩
          rw [hT0, Nat.zero_testBit] at z
          exact absurd z (by decide)
      · rw [e10]
        refine ⟨fun c2 => k M hM (mk.full (by omega)), fun c2 => ⟨fun c3 => by omega, fun c3 => ⟨ib (by omega), ?_⟩⟩⟩
        have ev : v3 = ((v3.toNat : Nat) : Int) := by omega
        obtain ⟨S, s1, s2, s3⟩ := s v3.toNat (by omega) (by omega)
        rw [← ev] at s2
        rw [s2]
        refine ⟨fun z => ⟨ii (by omega), ih M (v3 + 1) (by omega) (by omega) (by omega) hM (mk.skip x1 (fun y => ?_))⟩, fun z => ⟨ii (by omega), ?_⟩⟩
        · rw [iand0 (by omega) (by omega)] at z
          obtain ⟨j, j1, j2, j3⟩ := y
          exact z j ⟨(s3 j).mpr ⟨j1, j2⟩, j3⟩
        · rw [ior1 hM (by omega) x1 (by omega)]
          refine ih _ (v3 + 1) (by omega) (by omega) (by omega) (or_lt hM (by omega)) (mk.put x1 ?_)
          apply Classical.byContradiction
          intro hn
          apply z
          rw [iand0 (by omega) (by omega)]
          intro j hj
          have := (s3 j).mp hj.1
          exact hn ⟨j, this.1, this.2, hj.2⟩
  exact key (p.toNat + 1) 0 0 (by decide) (by omega) (by omega) (Nat.two_pow_pos _) MaskP.start
theorem cWinning (hd : 2 < d) {p : Int} {f : Int → Int} (r : RepCW g h) (l : LaidC g lw h) (e10 : h.1 10 10 = p) (p0 : 2 ≤ p) (p1 : p ≤ 12) (to : ToldOk g f p) (tl : ∀ i, 0 ≤ i → i < p → h.1 48 i = f i) (k : ∀ h' w, ((w = -1 ∧ ∀ i, ¬ Good (eW g lw) f p.toNat i) ∨ (∃ i, Good (eW g lw) f p.toNat i ∧ (∀ j, Good (eW g lw) f p.toNat j → f i ≤ f j) ∧ w = f i ∧ 0 ≤ w)) → Fr [51, 52] [] h h' → K w h') : Call d M_Told_winningWord [vR 10 (-1)] h K := by
  have hA2 : 2 ^ p.toNat ≤ 4096 := pow_le_k 12 p1
  have hA0 : 2 ^ 2 ≤ 2 ^ p.toNat := Nat.pow_le_pow_right (by decide) (by omega)
  have es : ishl 1 p = ((2 ^ p.toNat : Nat) : Int) := by rw [ish1 (by omega) (by omega), Nat.one_shiftLeft]
  refine c_Told_winningWord 2 hd ?_
  rw [e10]
  refine ⟨fun _ => ?_, fun c => by omega⟩
  refine cStepBits (by decide) r l e10 (by omega) p1 to tl (fun h1 s1 f1 => ?_)
  have E10 : ∀ hh, Fr [52] [] h1 hh → hh.1 10 10 = p := fun hh ff => by rw [ff.i 10, f1.i 10]; exact e10
  have E48 : ∀ hh, Fr [52] [] h1 hh → ∀ i, 0 ≤ i → i < p → hh.1 48 i = f i := fun hh ff i i0 i1 => by rw [ff.i 48, f1.i 48]; exact tl i i0 i1
  have ES : ∀ hh, Fr [52] [] h1 hh → SBits g lw f p p hh := fun hh ff i i1 i2 => by
    obtain ⟨M, m1, m2, m3⟩ := s1 i i1 i2
    exact ⟨M, m1, by rw [ff.i 51]; exact m2, m3⟩
  rw [E10 h1 Fr.refl, es]
  refine ⟨ii (by omega), ?_⟩
  have fin : ∀ m : Nat, ∀ (Gd : Nat) (v2 v3 : Int) (hh : AH), 0 ≤ v3 → v3 ≤ p → p - v3 < m → Fr [52] [] h1 hh → Gd < 2 ^ p.toNat → MaskP (Good (eW g lw) f p.toNat) p Gd → ((v2 = -1 ∧ ∀ i : Nat, (i : Int) < v3 → ¬ Good (eW g lw) f p.toNat i) ∨ (∃ i, Good (eW g lw) f p.toNat i ∧ (∀ j : Nat, (j : Int) < v3 → Good (eW g lw) f p.toNat j → f i ≤ f j) ∧ v2 = f i ∧ 0 ≤ v2)) → A_Told_winningWord_66 2 K Gd v2 v3 hh := by
    intro m
    induction m with
    | zero => intro Gd v2 v3 hh x1 x2 e; omega
    | succ m ih =>
      intro Gd v2 v3 hh x1 x2 e ff hG mk b
      refine s_Told_winningWord_66 ?_
      rw [E10 hh ff]
      refine ⟨fun c => k hh v2 ?_ ((f1.mono (by decide) (by decide)).trans (ff.mono (by decide) (by decide))), fun c => ?_⟩
      · rcases b with ⟨b1, b2⟩ | ⟨i, b1, b2, b3⟩
        · exact Or.inl ⟨b1, fun i hi => b2 i (by have := hi.1; omega) hi⟩
        · exact Or.inr ⟨i, b1, fun j hj => b2 j (by have := hj.1; omega) hj, b3⟩
      · rw [ibitu (by omega) x1 (by omega)]
        have ev : v3 = ((v3.toNat : Nat) : Int) := by omega
        by_cases hb : Gd.testBit v3.toNat = true
        · rw [if_pos hb]
          have hg := ((mk v3.toNat).mp hb).2
          have pos := (to v3 x1 c).1
          have take : (∀ j : Nat, (j : Int) < v3 → Good (eW g lw) f p.toNat j → f v3 ≤ f j) → A_Told_winningWord_97 2 K Gd v3 hh := fun hl => s_Told_winningWord_97 ⟨ib (by omega), ii (by omega), by
            rw [E48 hh ff v3 x1 c]
            refine ih Gd _ (v3 + 1) hh (by omega) (by omega) (by omega) ff hG mk (Or.inr ⟨v3.toNat, hg, fun j hj gj => ?_, by rw [← ev], pos.1⟩)
            rw [← ev]
            by_cases z : (j : Int) = v3
            · rw [z]; exact Int.le_refl _
            · exact hl j (by omega) gj⟩
          refine ⟨fun z => absurd z (by decide), fun _ => ⟨fun z => take (fun j hj gj => ?_), fun z => ⟨ib (by omega), ?_⟩⟩⟩
          · rcases b with ⟨b1, b2⟩ | ⟨i, b1, b2, b3, b4⟩
            · exact absurd gj (b2 j hj)
            · omega
          · rw [E48 hh ff v3 x1 c]
            rcases b with ⟨b1, b2⟩ | ⟨i, b1, b2, b3, b4⟩
            · exact absurd b1 z
            · refine ⟨fun hle => ⟨ii (by omega), ih Gd v2 (v3 + 1) hh (by omega) (by omega) (by omega) ff hG mk (Or.inr ⟨i, b1, fun j hj gj => ?_, b3, b4⟩)⟩, fun hlt => take (fun j hj gj => ?_)⟩
              · by_cases z : (j : Int) = v3
                · rw [z, ← b3]; exact hle
                · exact b2 j (by omega) gj
              · have := b2 j hj gj; omega
        · rw [if_neg hb]
          refine ⟨fun _ => ⟨ii (by omega), ih Gd v2 (v3 + 1) hh (by omega) (by omega) (by omega) ff hG mk ?_⟩, fun z => absurd rfl z⟩
          have hn : ¬ Good (eW g lw) f p.toNat v3.toNat := fun z => hb ((mk _).mpr ⟨by omega, z⟩)
          rcases b with ⟨b1, b2⟩ | ⟨i, b1, b2, b3⟩
          · refine Or.inl ⟨b1, fun i hi => ?_⟩
            by_cases z : (i : Int) = v3
            · rw [show i = v3.toNat by omega]; exact hn
            · exact b2 i (by omega)
          · refine Or.inr ⟨i, b1, fun j hj gj => ?_, b3⟩
            by_cases z : (j : Int) = v3
            · exact absurd (by rw [show v3.toNat = j by omega]; exact gj) hn
            · exact b2 j (by omega) gj
  have sets : ∀ m : Nat, ∀ (v1 : Int) (hh : AH), 0 ≤ v1 → v1 < ((2 ^ p.toNat : Nat) : Int) → v1 < m → Fr [52] [] h1 hh → WinC g lw f p v1 hh → A_Told_winningWord_24 2 K v1 hh := by
    intro m
    induction m with
    | zero => intro v1 hh x1 x2 e; omega
    | succ m ih =>
      intro v1 hh x1 x2 e ff wc
      refine s_Told_winningWord_24 ⟨fun c => ?_, fun c => ?_⟩
      · rw [show v1 = 0 by omega] at wc
        have go := cLostAfter (d := 2) (h := hh) (N := 1) (f := f) (lw := lw) (K := fun r2 h1 => A_Told_winningWord_66 2 K (iand (hh.1 51 0) r2) (-1) 0 h1) (by decide) (E10 hh ff) (by omega) p1 (by omega) (fun N n1 n2 => wc N (by omega) n2) (fun M m1 m2 => ?_)
        · exact go
        · obtain ⟨S, s1', s2, s3⟩ := ES hh ff 0 (by omega) (by omega)
          rw [show ((0 : Nat) : Int) = 0 from rfl] at s2
          rw [s2, iand_nat (by omega) (by omega)]
          refine fin (p.toNat + 1) _ (-1) 0 hh (by decide) (by omega) (by omega) ff (Nat.lt_of_le_of_lt Nat.and_le_left s1') (fun j => ?_) (Or.inl ⟨rfl, fun i hi => by omega⟩)
          rw [Nat.testBit_and, Bool.and_eq_true, s3 j, m2 j]
          constructor
          · rintro ⟨⟨y1, y2⟩, -, y3, y4⟩
            exact ⟨y1, by omega, fun z => y3 (one_test.mpr z), y2, y4⟩
          · rintro ⟨y1, y2, y3, y4, y5⟩
            exact ⟨⟨y1, y4⟩, y1, fun z => y3 (one_test.mp z), y5⟩
      · have ev : v1 = ((v1.toNat : Nat) : Int) := by omega
        have hN : v1.toNat < 2 ^ p.toNat := by omega
        generalize hNN : v1.toNat = N at ev hN
        subst ev
        refine cLostAfter (by decide) (E10 hh ff) (by omega) p1 hN wc (fun M m1 m2 => cPlacesFrom (by decide) (E10 hh ff) (by omega) p1 m1 (ES hh ff) (fun W w1 w2 => ⟨ib (by omega), ii (by omega), ih _ _ (by omega) (by omega) (by omega) (ff.trans (Fr.wI (Or.inl (by decide)))) (fun N' n1 n2 => ?_)⟩))
        by_cases z : N' = N
        · rw [z, rI_eq]
          refine ⟨W, w1, rfl, fun a => ?_⟩
          rw [w2 a]
          show _ ↔ (a : Int) < p ∧ win (eW g lw) f p.toNat N a
          rw [win_iff hN]
          constructor
          · rintro ⟨y1, j, y2, y3, y4⟩
            have y5 := ((m2 j).mp y4).2
            exact ⟨y1, j, by omega, y5.1, y3, y5.2⟩
          · rintro ⟨y1, j, y2, y3, y4, y5⟩
            exact ⟨y1, j, by omega, y4, (m2 j).mpr ⟨by omega, y3, y5⟩⟩
        · rw [rI_nk (by omega)]
          exact wc N' (by omega) n2
  exact sets (2 ^ p.toNat + 1) _ h1 (by omega) (by omega) (by omega) Fr.refl (fun N n1 n2 => by omega)
end CGA

/-! what no way can do without -/
theorem lminus {x y : Nat} (hx : x < 9223372036854775808) : land (x : Int) (lxor (y : Int) (-1)) = ((x ^^^ (x &&& y) : Nat) : Int) := by
  unfold land lxor
  have hb : x ^^^ (x &&& y) < 2 ^ 63 := Nat.xor_lt_two_pow (by omega) (Nat.lt_of_le_of_lt Nat.and_le_left (by omega))
  have h1 : (Int64.ofInt (x : Int) &&& Int64.ofInt ((Int64.ofInt (y : Int) ^^^ Int64.ofInt (-1)).toInt)) = Int64.ofInt ((x ^^^ (x &&& y) : Nat) : Int) := by
    rw [Int64.ofInt_toInt]
    apply Int64.toBitVec.inj
    show BitVec.ofInt 64 (x : Int) &&& (BitVec.ofInt 64 (y : Int) ^^^ BitVec.ofInt 64 (-1)) = BitVec.ofInt 64 ((x ^^^ (x &&& y) : Nat) : Int)
    rw [BitVec.ofInt_natCast, BitVec.ofInt_natCast, BitVec.ofInt_natCast, show BitVec.ofInt 64 (-1) = BitVec.allOnes 64 by decide]
    apply BitVec.eq_of_getLsbD_eq
    intro i hi
    rw [BitVec.getLsbD_and, BitVec.getLsbD_xor, BitVec.getLsbD_ofNat, BitVec.getLsbD_ofNat, BitVec.getLsbD_ofNat, BitVec.getLsbD_allOnes, Nat.testBit_xor, Nat.testBit_and]
    cases x.testBit i <;> cases y.testBit i <;> simp [hi]
  rw [h1]
  exact okL ⟨by omega, by omega⟩
theorem minus_test {x y i : Nat} : (x ^^^ (x &&& y)).testBit i = true ↔ x.testBit i = true ∧ ¬ y.testBit i = true := by
  rw [Nat.testBit_xor, Nat.testBit_and]
  cases x.testBit i <;> cases y.testBit i <;> simp
theorem minus_lt {x y : Nat} (hx : x < 1099511627776) : x ^^^ (x &&& y) < 1099511627776 := Nat.xor_lt_two_pow (n := 40) hx (Nat.lt_of_le_of_lt Nat.and_le_left hx)
theorem cnt_mono {P P' : Int → Prop} : ∀ m : Nat, (∀ v : Int, 0 ≤ v → v < m → P v → P' v) → cnt P m ≤ cnt P' m
  | 0, _ => Int.le_refl _
  | m + 1, h => by
    have ih := cnt_mono m (fun v h0 h1 => h v h0 (by omega))
    by_cases p : P m
    · rw [cnt_t p, cnt_t (h m (by omega) (by omega) p)]; omega
    · rw [cnt_f p]
      have := cnt_b P' m
      by_cases p' : P' m
      · rw [cnt_t p']; omega
      · rw [cnt_f p']; exact ih
theorem cnt_strict {P P' : Int → Prop} (w : Int) : ∀ m : Nat, 0 ≤ w → w < m → (∀ v : Int, 0 ≤ v → v < m → P v → P' v) → P' w → ¬ P w → cnt P m + 1 ≤ cnt P' m
  | 0, h0, h1, _, _, _ => by omega
  | m + 1, h0, h1, h, hw, hn => by
    by_cases e : (m : Int) = w
    · have := cnt_mono (P := P) (P' := P') m (fun v v0 v1 => h v v0 (by omega))
      rw [cnt_f (P := P) (by rw [e]; exact hn), cnt_t (P := P') (by rw [e]; exact hw)]
      omega
    · have ih := cnt_strict w m h0 (by omega) (fun v v0 v1 => h v v0 (by omega)) hw hn
      by_cases p : P m
      · rw [cnt_t p, cnt_t (h m (by omega) (by omega) p)]; omega
      · rw [cnt_f p]
        by_cases p' : P' m
        · rw [cnt_t p']; omega
        · rw [cnt_f p']; exact ih
/-- there is a way from a to b that keeps off c -/
def hasW (g : G) (lw : LW) (c a b : Int) : Prop := ∃ n x, Pw (eW g lw) (fun v => UW g v ∧ v ≠ c) a b n x
theorem hasW_all {g : G} {lw : LW} {c a b : Int} (hc : ¬ (0 ≤ c ∧ c < gn g)) : hasW g lw c a b ↔ has g lw a b :=
  ⟨fun ⟨n, x, p⟩ => ⟨n, x, Pw.sub (fun v hv => hv.1) p⟩, fun ⟨n, x, p⟩ => ⟨n, x, Pw.sub (fun v hv => ⟨hv, fun z => hc (by have := hv.1; omega)⟩) p⟩⟩
theorem hasW_self {g : G} {lw : LW} {c a : Int} (a0 : 0 ≤ a) (a1 : a < gn g) (u : us g a) (hc : a ≠ c) : hasW g lw c a a := ⟨0, 0, rfl, ⟨⟨⟨a0, a1⟩, u⟩, hc⟩, rfl⟩
theorem hasW_step {g : G} {lw : LW} {c a v w : Int} (h : hasW g lw c a v) (w0 : 0 ≤ w) (w1 : w < gn g) (hw : w ≠ c) (hs : (sc g lw v w).1 ≠ 0) : hasW g lw c a w := by
  obtain ⟨n, x, p⟩ := h
  exact ⟨n + 1, x + (64 * eW g lw v w + 1 + 0), Pw.app p ⟨(Pw.ends p).2, w, 0, hs, ⟨rfl, ⟨⟨⟨w0, w1⟩, (sc_us hs).2⟩, hw⟩, rfl⟩, rfl⟩⟩
/-- what holds of a and goes along steps holds of all that can be come to -/
theorem hasW_closed {g : G} {lw : LW} {c b : Int} (C : Int → Prop) (cl : ∀ x y, 0 ≤ x → x < gn g → 0 ≤ y → y < gn g → y ≠ c → C x → (sc g lw x y).1 ≠ 0 → C y) : ∀ {n : Nat} {a x : Int}, Pw (eW g lw) (fun v => UW g v ∧ v ≠ c) a b n x → C a → C b
  | 0, a, x, p, h => by rw [← p.1]; exact h
  | n + 1, a, x, p, h => by
    obtain ⟨ha, w, y, h1, h2, -⟩ := p
    have hw := (Pw.ends h2).1
    exact hasW_closed C cl h2 (cl a w ha.1.1.1 ha.1.1.2 hw.1.1.1 hw.1.1.2 hw.2 h h1)
/-- bit w is set: no way from a to b can do without w -/
def NeedIs (g : G) (lw : LW) (a b : Int) (m : Int) (N : Nat) : Prop := N < 1099511627776 ∧ ∀ w : Nat, N.testBit w = true ↔ ((w : Int) < m ∧ (w : Int) ≠ a ∧ (w : Int) ≠ b ∧ has g lw a b ∧ ¬ hasW g lw w a b)
theorem NeedIs.put {g : G} {lw : LW} {a b m : Int} {N : Nat} (t : NeedIs g lw a b m N) (m0 : 0 ≤ m) (m1 : m < 40) (h1 : m ≠ a) (h2 : m ≠ b) (h3 : has g lw a b) (h4 : ¬ hasW g lw m a b) : lor (N : Int) (lshl 1 m) = ((N ||| 1 <<< m.toNat : Nat) : Int) ∧ NeedIs g lw a b (m + 1) (N ||| 1 <<< m.toNat) := by
  have e : m = ((m.toNat : Nat) : Int) := by omega
  have q := bit_or t.1 (w := m.toNat) (by omega)
  rw [← e] at q
  refine ⟨q.1, q.2, fun w => ?_⟩
  rw [bit_or_test, t.2 w]
  refine ⟨fun z => ?_, fun z => ?_⟩
  · rcases z with z | z
    · exact ⟨by omega, z.2⟩
    · have e2 : (w : Int) = m := by omega
      rw [e2]
      exact ⟨by omega, h1, h2, h3, h4⟩
  · by_cases y : m.toNat = w
    · exact Or.inr y
    · exact Or.inl ⟨by omega, z.2⟩
theorem NeedIs.skip {g : G} {lw : LW} {a b m : Int} {N : Nat} (t : NeedIs g lw a b m N) (m0 : 0 ≤ m) (hn : ¬ (m ≠ a ∧ m ≠ b ∧ has g lw a b ∧ ¬ hasW g lw m a b)) : NeedIs g lw a b (m + 1) N := by
  refine ⟨t.1, fun w => ?_⟩
  rw [t.2 w]
  refine ⟨fun z => ⟨by omega, z.2⟩, fun z => ⟨?_, z.2⟩⟩
  by_cases y : (w : Int) = m
  · rw [y] at z; exact absurd z.2 hn
  · omega
theorem NeedIs.uniq {g : G} {lw : LW} {a b m : Int} {N N' : Nat} (t : NeedIs g lw a b m N) (t' : NeedIs g lw a b m N') : N = N' := by
  refine Nat.eq_of_testBit_eq (fun i => ?_)
  have := t.2 i
  have := t'.2 i
  cases h : N.testBit i <;> cases h' : N'.testBit i <;> simp_all
section WO
variable {d : Nat} {g : G} {lw : LW} {h : AH} {K : Int → AH → Prop}
theorem mComes (hd : 2 < d) {a b c : Int} (r : RepM g h) (l : LaidM g lw h) (a0 : 0 ≤ a) (a1 : a < gn g) (b0 : 0 ≤ b) (b1 : b < gn g) (u : us g a) (hc : a ≠ c) (kT : ∀ h', hasW g lw c a b → Fr [83] [] h h' → K 1 h') (kF : ∀ h', ¬ hasW g lw c a b → Fr [83] [] h h' → K 0 h') : Call d M_M_comes [vR 12 (-1), vI a, vI b, vI c] h K := by
  have nb := r.ok.nb
  refine c_M_comes 2 hd ?_
  have fin : ∀ hh, Fr [83] [] h hh → (∀ v, 0 ≤ v → v < gn g → hh.1 83 v = 0 ∨ hh.1 83 v = 1) → (∀ v, 0 ≤ v → v < gn g → hh.1 83 v = 1 → hasW g lw c a v) → hh.1 83 a = 1 → (∀ x y, 0 ≤ x → x < gn g → 0 ≤ y → y < gn g → hh.1 83 x = 1 → hh.1 83 y = 0 → y ≠ c → (sc g lw x y).1 = 0) → A_M_comes_39 2 K b c 0 hh := by
    intro hh f t1 t2 t3 t4
    refine s_M_comes_39 ⟨fun _ => ⟨ib (by omega), t1 b b0 b1, ?_⟩, fun z => absurd rfl z⟩
    rcases t1 b b0 b1 with z | z
    · rw [z]
      refine kF hh (fun ⟨n, x, p⟩ => ?_) f
      have := hasW_closed (fun v => hh.1 83 v = 1) (fun x y x0 x1 y0 y1 yc hx hs => by
        rcases t1 y y0 y1 with q | q
        · exact absurd (t4 x y x0 x1 y0 y1 hx q yc) hs
        · exact q) p t3
      omega
    · rw [z]
      exact kT hh (t2 b b0 b1 z) f
  have pass : ∀ m : Nat, ∀ (v4 v5 v6 : Int) (hh : AH), (v4 = 0 ∨ v4 = 1) → 0 ≤ v5 → v5 < gn g → 0 ≤ v6 → v6 ≤ gn g → (cnt (fun v => hh.1 83 v = 0) (gn g).toNat + v4) * 4000 + (gn g - v5) * 42 - v6 < m → Fr [83] [] h hh → (∀ v, 0 ≤ v → v < gn g → hh.1 83 v = 0 ∨ hh.1 83 v = 1) → (∀ v, 0 ≤ v → v < gn g → hh.1 83 v = 1 → hasW g lw c a v) → hh.1 83 a = 1 → (v4 = 0 → ∀ x y, 0 ≤ x → x < gn g → 0 ≤ y → y < gn g → (x < v5 ∨ (x = v5 ∧ y < v6)) → hh.1 83 x = 1 → hh.1 83 y = 0 → y ≠ c → (sc g lw x y).1 = 0) → A_M_comes_62 2 K b c v4 v5 v6 hh := by
    intro m
    induction m with
    | zero =>
      intro v4 v5 v6 hh x0 x1 x2 x3 x4 e
      have := (cnt_b (fun v => hh.1 83 v = 0) (gn g).toNat).1
      omega
    | succ m ih =>
      intro v4 v5 v6 hh x0 x1 x2 x3 x4 e f t1 t2 t3 t4
      have rr := r.fr f
      have ll := l.fr f
      have cb := (cnt_b (fun v => hh.1 83 v = 0) (gn g).toNat).1
      have nextRow : (v4 = 0 → ∀ x y, 0 ≤ x → x < gn g → 0 ≤ y → y < gn g → (x < v5 + 1) → hh.1 83 x = 1 → hh.1 83 y = 0 → y ≠ c → (sc g lw x y).1 = 0) → inI (v5 + 1) ∧ A_M_comes_50 2 K b c v4 (v5 + 1) hh := by
        intro t5
        refine ⟨ii (by omega), s_M_comes_50 ?_⟩
        rw [rr.n]
        refine ⟨fun c2 => ?_, fun c2 => ih v4 (v5 + 1) 0 hh x0 (by omega) c2 (by decide) (by omega) (by omega) f t1 t2 t3 (fun z x y q0 q1 q2 q3 q4 => t5 z x y q0 q1 q2 q3 (by omega))⟩
        rcases x0 with z | z
        · rw [z]
          exact fin hh f t1 t2 t3 (fun x y q0 q1 q2 q3 => t5 z x y q0 q1 q2 q3 (by omega))
        · refine s_M_comes_39 ⟨fun q => by omega, fun _ => s_M_comes_50 ?_⟩
          rw [rr.n]
          exact ⟨fun c3 => by omega, fun c3 => ih 0 0 0 hh (Or.inl rfl) (by decide) c3 (by decide) (by omega) (by omega) f t1 t2 t3 (fun _ x y q0 q1 q2 q3 q4 => by omega)⟩
      refine s_M_comes_62 ?_
      rw [rr.n]
      refine ⟨fun c2 => nextRow (fun z x y q0 q1 q2 q3 q4 => t4 z x y q0 q1 q2 q3 (by omega)), fun c2 => ⟨ib (by omega), fun c3 => nextRow (fun z x y q0 q1 q2 q3 q4 p => ?_), fun c3 => ?_⟩⟩
      · by_cases e5 : x = v5
        · rw [e5, c3] at p; omega
        · exact t4 z x y q0 q1 q2 q3 (by omega) p
      · have e1 : hh.1 83 v5 = 1 := by have := t1 v5 x1 x2; omega
        have skip : (hh.1 83 v6 = 0 → v6 ≠ c → (sc g lw v5 v6).1 = 0) → inI (v6 + 1) ∧ A_M_comes_62 2 K b c v4 v5 (v6 + 1) hh := by
          intro q
          refine ⟨ii (by omega), ih v4 v5 (v6 + 1) hh x0 x1 x2 (by omega) (by omega) (by omega) f t1 t2 t3 (fun z x y q0 q1 q2 q3 q4 p1 p2 p3 => ?_)⟩
          by_cases e6 : x = v5 ∧ y = v6
          · rw [e6.1, e6.2]
            rw [e6.2] at p2 p3
            exact q p2 p3
          · exact t4 z x y q0 q1 q2 q3 (by omega) p1 p2 p3
        refine ⟨ib (by omega), fun c4 => skip (fun z => absurd z c4), fun c4 => ⟨fun c5 => skip (fun _ z => absurd c5 z), fun c5 => mIsStep (by decide) rr ll x1 x2 x3 c2 (fun hs => br1' ⟨ii (by omega), ?_⟩) (fun hs => br0' (skip (fun _ _ => hs)))⟩⟩
        have e83 : ∀ v, (wI hh 83 v6 1).1 83 v = if v = v6 then 1 else hh.1 83 v := by
          intro v
          by_cases z : v = v6
          · rw [z, rI_eq, if_pos rfl]
          · rw [rI_nk z, if_neg z]
        have cf := cnt_flip (P := fun v => hh.1 83 v = 0) (P' := fun v => (wI hh 83 v6 1).1 83 v = 0) (gn g).toNat v6 x3 (by omega) c4 (by rw [e83, if_pos rfl]; decide) (fun v z => by rw [e83, if_neg z])
        refine ih 1 v5 (v6 + 1) _ (Or.inr rfl) x1 x2 (by omega) (by omega) (by omega) (f.trans (Fr.wI (Or.inl (by decide)))) (fun v v0 v1 => ?_) (fun v v0 v1 z => ?_) ?_ (fun z => by omega)
        · rw [e83]
          split
          · exact Or.inr rfl
          · exact t1 v v0 v1
        · rw [e83] at z
          by_cases y : v = v6
          · rw [y]
            exact hasW_step (t2 v5 x1 x2 e1) x3 c2 c5 hs
          · rw [if_neg y] at z
            exact t2 v v0 v1 z
        · rw [e83]
          split
          · rfl
          · exact t3
  have start : ∀ m : Nat, ∀ (v4 : Int) (hh : AH), 0 ≤ v4 → v4 ≤ gn g → gn g - v4 < m → Fr [83] [] h hh → (∀ v, 0 ≤ v → v < v4 → hh.1 83 v = if v = a then 1 else 0) → A_M_comes_3 2 K a b c v4 hh := by
    intro m
    induction m with
    | zero => intro v4 hh x1 x2 e; omega
    | succ m ih =>
      intro v4 hh x1 x2 e f t
      refine s_M_comes_3 ?_
      rw [(r.fr f).n]
      refine ⟨fun c2 => s_M_comes_39 ⟨fun z => by omega, fun _ => s_M_comes_50 ?_⟩, fun c2 => ⟨ib (by omega), by split <;> omega, ii (by omega), ih (v4 + 1) _ (by omega) (by omega) (by omega) (f.trans (Fr.wI (Or.inl (by decide)))) (fun v v0 v1 => ?_)⟩⟩
      · rw [(r.fr f).n]
        refine ⟨fun c3 => by omega, fun c3 => pass ((cnt (fun v => hh.1 83 v = 0) (gn g).toNat) * 4000 + gn g * 42 + 1).toNat 0 0 0 hh (Or.inl rfl) (by decide) c3 (by decide) (by omega) ?_ f (fun v v0 v1 => ?_) (fun v v0 v1 z => ?_) ?_ (fun _ x y q0 q1 q2 q3 q4 => by omega)⟩
        · have := (cnt_b (fun v => hh.1 83 v = 0) (gn g).toNat).1
          omega
        · rw [t v v0 (by omega)]
          split
          · exact Or.inr rfl
          · exact Or.inl rfl
        · rw [t v v0 (by omega)] at z
          by_cases y : v = a
          · rw [y]; exact hasW_self a0 a1 u hc
          · rw [if_neg y] at z; omega
        · rw [t a a0 (by omega), if_pos rfl]
      · by_cases z : v = v4
        · rw [z, rI_eq]
        · rw [rI_nk z]; exact t v v0 (by omega)
  exact start ((gn g).toNat + 1) 0 h (by decide) (by omega) (by omega) Fr.refl (fun v v0 v1 => by omega)
theorem mWithoutB (hd : 5 < d) {a b : Int} (r : RepM g h) (rl : RepML lw h) (k0 : ∀ h', Fr [76, 77, 78, 79, 80, 83] [] h h' → (¬ (0 ≤ a ∧ a < gn g) ∨ ¬ (0 ≤ b ∧ b < gn g)) → K (-1) h') (k1 : ∀ h', Fr [76, 77, 78, 79, 80, 83] [] h h' → 0 ≤ a → a < gn g → 0 ≤ b → b < gn g → ¬ has g lw a b → K (-2) h') (k2 : ∀ h' (N : Nat), Fr [76, 77, 78, 79, 80, 83] [] h h' → 0 ≤ a → a < gn g → 0 ≤ b → b < gn g → has g lw a b → NeedIs g lw a b (gn g) N → K N h') : Call d M_M_without [vR 12 (-1), vI a, vI b] h K := by
  have nb := r.ok.nb
  have hus : has g lw a b → us g a ∧ us g b := fun ⟨n, x, p⟩ => ⟨(Pw.ends p).1.2, (Pw.ends p).2.2⟩
  refine c_M_without 5 hd (mIsWord (by decide) r (fun a0 a1 => br1 (mIsWord (by decide) r (fun b0 b1 => br1' ?_) (fun c => br0' (k0 h Fr.refl (by omega))))) (fun c => br0 (k0 h Fr.refl (by omega))))
  refine mLaysSteps (by decide) r rl (fun hs ls fs => ?_)
  have fs' : Fr [76, 77, 78, 79, 80, 83] [] h hs := fs.mono (by decide) (by decide)
  have rs := r.fr fs
  refine mIsUsed (by decide) rs a0 a1 (fun ua => br1 (mIsUsed (by decide) rs b0 b1 (fun ub => br1 (mComes (by decide) rs ls a0 a1 b0 b1 ua (by omega) (fun h' hy f => br1' ?_) (fun h' hn f => br0' (k1 h' (fs'.trans (f.mono (by decide) (by decide))) a0 a1 b0 b1 (fun z => hn ((hasW_all (by omega)).mpr z)))))) (fun nu => br0 (k1 hs fs' a0 a1 b0 b1 (fun z => nu (hus z).2))))) (fun nu => br0 (k1 hs fs' a0 a1 b0 b1 (fun z => nu (hus z).1)))
  have hab : has g lw a b := (hasW_all (by omega)).mp hy
  have key : ∀ m : Nat, ∀ (N : Nat) (v5 : Int) (hh : AH), 0 ≤ v5 → v5 ≤ gn g → gn g - v5 < m → Fr [83] [] hs hh → NeedIs g lw a b v5 N → A_M_without_59 5 K a b N v5 hh := by
    intro m
    induction m with
    | zero => intro N v5 hh x1 x2 e; omega
    | succ m ih =>
      intro N v5 hh x1 x2 e ff t
      have rr := rs.fr ff
      refine s_M_without_59 ?_
      rw [rr.n]
      refine ⟨fun c => k2 hh N (fs'.trans (ff.mono (by decide) (by decide))) a0 a1 b0 b1 hab (by have : v5 = gn g := by omega
                                                                                                 rw [this] at t; exact t), fun c => ?_⟩
      have skip : ∀ h2, Fr [83] [] hs h2 → ¬ (v5 ≠ a ∧ v5 ≠ b ∧ has g lw a b ∧ ¬ hasW g lw v5 a b) → inI (v5 + 1) ∧ A_M_without_59 5 K a b N (v5 + 1) h2 := fun h2 f2 q => ⟨ii (by omega), ih N (v5 + 1) h2 (by omega) (by omega) (by omega) f2 (t.skip x1 q)⟩
      refine ⟨fun c2 => skip hh ff (fun z => z.1 c2), fun c2 => ⟨fun c3 => skip hh ff (fun z => z.2.1 c3), fun c3 => mComes (by decide) rr (ls.fr ff) a0 a1 b0 b1 ua (fun z => c2 z.symm) (fun h2 hy2 f2 => br1' (skip h2 (ff.trans f2) (fun z => z.2.2.2 hy2))) (fun h2 hn2 f2 => br0' ⟨ii (by omega), ?_⟩)⟩⟩
      have p := t.put x1 (by omega) c2 c3 hab hn2
      rw [p.1]
      exact ih _ (v5 + 1) h2 (by omega) (by omega) (by omega) (ff.trans f2) p.2
  exact key ((gn g).toNat + 1) 0 0 h' (by decide) (by omega) (by omega) f ⟨by decide, fun w => by simp; omega⟩
end WO

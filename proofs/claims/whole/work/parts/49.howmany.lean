/-! how many rows of least cost there are; the class' least -/
/-- the sum, wrapped, of f over the words below m with P -/
noncomputable def ws (P : Int → Prop) (f : Int → Int) : Nat → Int
  | 0 => 0
  | m + 1 => @ite _ (P m) (Classical.propDecidable _) (w64 (ws P f m + f m)) (ws P f m)
theorem ws_t {P : Int → Prop} {f : Int → Int} {v : Int} (h0 : 0 ≤ v) (h : P v) : ws P f (v + 1).toNat = w64 (ws P f v.toNat + f v) := by
  rw [show (v + 1).toNat = v.toNat + 1 by omega]
  have e : ((v.toNat : Nat) : Int) = v := by omega
  show @ite _ (P (v.toNat : Nat)) (Classical.propDecidable _) _ _ = _
  rw [e, if_pos h]
theorem ws_f {P : Int → Prop} {f : Int → Int} {v : Int} (h0 : 0 ≤ v) (h : ¬ P v) : ws P f (v + 1).toNat = ws P f v.toNat := by
  rw [show (v + 1).toNat = v.toNat + 1 by omega]
  have e : ((v.toNat : Nat) : Int) = v := by omega
  show @ite _ (P (v.toNat : Nat)) (Classical.propDecidable _) _ _ = _
  rw [e, if_neg h]
theorem ws_congr {P : Int → Prop} {f f' : Int → Int} : ∀ m : Nat, (∀ v : Int, 0 ≤ v → v < m → P v → f v = f' v) → ws P f m = ws P f' m
  | 0, _ => rfl
  | m + 1, h => by
    have ih := ws_congr m (fun v h0 h1 => h v h0 (by omega))
    unfold ws
    rw [ih]
    by_cases p : P m
    · rw [if_pos p, if_pos p, h m (by omega) (by omega) p]
    · rw [if_neg p, if_neg p]
/-- w comes next after a on a row of least cost to b -/
def OnwP (g : G) (lw : LW) (a b w : Int) : Prop := (sc g lw a w).1 ≠ 0 ∧ wd g lw w b ≠ -1 ∧ (sc g lw a w).1 + wd g lw w b / 64 = wd g lw a b / 64
noncomputable def hm (g : G) (lw : LW) (b : Int) : Nat → Int → Int
  | 0, _ => 0
  | k + 1, v => if v = b then 1 else ws (OnwP g lw v b) (hm g lw b k) (gn g).toNat
theorem hm_more {g : G} {lw : LW} {b : Int} : ∀ (k : Nat) (v : Int), wd g lw v b / 64 < k → wd g lw v b ≠ -1 → hm g lw b k v = hm g lw b (k + 1) v
  | 0, v, h, hv => by
    have := (wd_is hv).nn
    omega
  | k + 1, v, h, hv => by
    show (if v = b then 1 else ws (OnwP g lw v b) (hm g lw b k) (gn g).toNat) = if v = b then 1 else ws (OnwP g lw v b) (hm g lw b (k + 1)) (gn g).toNat
    rw [ws_congr (gn g).toNat (fun w w0 w1 p => hm_more k w (by have := p.2.2; have := sc_b g lw v w; have := p.1; omega) p.2.1)]
/-- how many rows of least cost there are from v to b -/
noncomputable def hmA (g : G) (lw : LW) (v b : Int) : Int := hm g lw b 4000 v
theorem hm_at {g : G} (ok : OkG g) {lw : LW} {b : Int} (v : Int) (hv : wd g lw v b ≠ -1) : hmA g lw v b = if v = b then 1 else ws (OnwP g lw v b) (fun w => hmA g lw w b) (gn g).toNat := by
  have := wd_b ok lw v b
  unfold hmA
  rw [hm_more 4000 v (by omega) hv]
  rfl
theorem wd_zero {g : G} {lw : LW} {a b : Int} (h : wd g lw a b ≠ -1) (hz : wd g lw a b / 64 = 0) : a = b := by
  by_cases hab : a = b
  · exact hab
  · have := IsD.pos hab (wd_is h)
    omega
theorem cnt_flip {P P' : Int → Prop} : ∀ (m : Nat) (w : Int), 0 ≤ w → w < m → P w → ¬ P' w → (∀ v, v ≠ w → (P v ↔ P' v)) → cnt P' m + 1 = cnt P m
  | 0, w, h0, h1, _, _, _ => by omega
  | m + 1, w, h0, h1, hp, hn, he => by
    by_cases hw : (m : Int) = w
    · have e : cnt P' m = cnt P m := by
        have : ∀ k : Nat, (k : Int) ≤ w → cnt P' k = cnt P k := by
          intro k
          induction k with
          | zero => intro _; rfl
          | succ k ih =>
            intro hk
            have := ih (by omega)
            by_cases q : P k
            · rw [cnt_t q, cnt_t ((he k (by omega)).mp q), this]
            · rw [cnt_f q, cnt_f (fun z => q ((he k (by omega)).mpr z)), this]
        exact this m (by omega)
      rw [cnt_t (P := P) (by rw [hw]; exact hp), cnt_f (P := P') (by rw [hw]; exact hn), e]
    · have ih := cnt_flip m w h0 (by omega) hp hn he
      by_cases q : P m
      · rw [cnt_t q, cnt_t ((he m hw).mp q)]; omega
      · rw [cnt_f q, cnt_f (fun z => q ((he m hw).mpr z))]; exact ih
theorem cnt_zero {P : Int → Prop} : ∀ (m : Nat), cnt P m ≤ 0 → ∀ v : Int, 0 ≤ v → v < m → ¬ P v
  | 0, _, v, h0, h1 => by omega
  | m + 1, h, v, h0, h1 => by
    have b := cnt_b P m
    by_cases q : P m
    · rw [cnt_t q] at h; omega
    · rw [cnt_f q] at h
      by_cases hv : v = m
      · rw [hv]; exact q
      · exact cnt_zero m h v h0 (by omega)
section HM
variable {d : Nat} {g : G} {lw : LW} {h : AH} {K : Int → AH → Prop}
theorem mSumOf (hd : 2 < d) {a b p : Int} (r : RepM g h) (l : LaidM g lw h) (w : WaysM g lw h) (a0 : 0 ≤ a) (a1 : a < gn g) (b0 : 0 ≤ b) (b1 : b < gn g) (hp : p = wd g lw a b / 64) (hw : wd g lw a b ≠ -1) (k : K (ws (OnwP g lw a b) (fun v => h.2.1 82 v) (gn g).toNat) h) : Call d M_M_sumOf [vR 12 (-1), vI a, vI b, vI p] h K := by
  have nb := r.ok.nb
  have wb := wd_b r.ok lw a b
  refine c_M_sumOf 2 hd ?_
  have key : ∀ m : Nat, ∀ (v4 v6 : Int), 0 ≤ v6 → v6 ≤ gn g → gn g - v6 < m → v4 = ws (OnwP g lw a b) (fun v => h.2.1 82 v) v6.toNat → A_M_sumOf_6 2 K a b p v4 v6 h := by
    intro m
    induction m with
    | zero => intro v4 v6 x1 x2 e; omega
    | succ m ih =>
      intro v4 v6 x1 x2 e hv
      refine s_M_sumOf_6 ?_
      rw [r.n]
      refine ⟨fun c => ?_, fun c => ?_⟩
      · have : v6 = gn g := by omega
        rw [hv, this]; exact k
      · have skip : ¬ OnwP g lw a b v6 → inI (v6 + 1) ∧ A_M_sumOf_6 2 K a b p v4 (v6 + 1) h := fun hn => ⟨ii (by omega), ih v4 (v6 + 1) (by omega) (by omega) (by omega) (by rw [ws_f x1 hn]; exact hv)⟩
        refine mIsStep (by decide) r l a0 a1 x1 c (fun hs => br1 ⟨ii (by omega), ii (by omega), ib (by omega), ?_⟩) (fun hs => br0 (skip (fun z => z.1 hs)))
        have e1 := (l a v6 a0 a1 x1 c).1
        rw [if_neg hs] at e1
        have sb := sc_b g lw a v6
        have wb2 := wd_b r.ok lw v6 b
        refine mLeastOf (by decide) r.ok w x1 c b0 b1 ?_
        rw [e1]
        have lb : 0 ≤ (if wd g lw v6 b = -1 then 1000000000 else wd g lw v6 b / 64) := by split <;> omega
        refine mSum (by decide) sb.1 lb (fun hz => ⟨fun c2 => ?_, fun c2 => ?_⟩) (fun z1 z2 => ?_)
        · refine skip (fun hn => ?_)
          have := hn.2.1
          rw [if_neg this] at hz; omega
        · omega
        · have hn1 : wd g lw v6 b ≠ -1 := fun z => by rw [if_pos z] at z2; omega
          rw [if_neg hn1]
          refine ⟨fun c2 => skip (fun hn => c2 (by rw [hp]; exact hn.2.2)), fun c2 => ⟨ib (by omega), ii (by omega), ih _ (v6 + 1) (by omega) (by omega) (by omega) ?_⟩⟩
          rw [ws_t x1 ⟨hs, hn1, by rw [← hp]; exact c2⟩, hv]
  exact key ((gn g).toNat + 1) 0 0 (by decide) (by omega) (by omega) rfl
theorem mHowMany (hd : 6 < d) {a b : Int} (r : RepM g h) (rl : RepML lw h) (k : ∀ h', Fr [76, 77, 78, 79, 80, 81, 82] [] h h' → K (if ¬ (0 ≤ a ∧ a < gn g) ∨ ¬ (0 ≤ b ∧ b < gn g) then -1 else if wd g lw a b = -1 then 0 else hmA g lw a b) h') : Call d M_M_howMany [vR 12 (-1), vI a, vI b] h K := by
  have nb := r.ok.nb
  refine c_M_howMany 6 hd (mIsWord (by decide) r (fun a0 a1 => br1 (mIsWord (by decide) r (fun b0 b1 => br1' ?_) (fun c => br0' ?_))) (fun c => br0 ?_))
  · refine mLaysWays (by decide) r rl (fun h' w l f => ?_)
    have rr := r.fr f
    have f7 : Fr [76, 77, 78, 79, 80, 81, 82] [] h h' := f.mono (by decide) (by decide)
    obtain ⟨q1, q2, q3⟩ := (w a b a0 a1 b0 b1).wd r.ok (by decide)
    have wb := wd_b r.ok lw a b
    refine ⟨ii (by omega), ii (by omega), ib (by omega), fun c => ?_, fun c => ?_⟩
    · have hw := q1.mp c
      have hub := (wd_us hw).2
      have wbb := wd_self (lw := lw) b0 b1 hub.2
      have fin : ∀ hh, Fr [82] [] h' hh → hh.2.1 82 a = hmA g lw a b → K (hh.2.1 82 a) hh := by
        intro hh ff e
        have k := k hh (f7.trans (ff.mono (by decide) (by decide)))
        rw [if_neg (by omega), if_neg hw] at k
        rw [e]; exact k
      have lev : ∀ m : Nat, ∀ (v4 v5 : Int) (hh : AH), 1 ≤ v4 → v4 ≤ wd g lw a b / 64 → 0 ≤ v5 → v5 ≤ gn g → (wd g lw a b / 64 - v4) * 41 + gn g - v5 < m → Fr [82] [] h' hh → (∀ v, 0 ≤ v → v < gn g → wd g lw v b ≠ -1 → (wd g lw v b / 64 < v4 ∨ (wd g lw v b / 64 = v4 ∧ v < v5)) → hh.2.1 82 v = hmA g lw v b) → A_M_howMany_93 6 K a b (wd g lw a b / 64) v4 v5 hh := by
        intro m
        induction m with
        | zero => intro v4 v5 hh x1 x2 x3 x4 e; omega
        | succ m ih =>
          intro v4 v5 hh x1 x2 x3 x4 e ff t
          have r3 := rr.fr ff
          refine s_M_howMany_93 ?_
          rw [r3.n]
          refine ⟨fun c2 => ⟨ii (by omega), s_M_howMany_84 ⟨fun c3 => ⟨ib (by omega), fin hh ff (t a a0 a1 hw (by omega))⟩, fun c3 => ih (v4 + 1) 0 hh (by omega) c3 (by decide) (by omega) (by omega) ff (fun v v0 v1 hv z => t v v0 v1 hv (by omega))⟩⟩, fun c2 => ?_⟩
          have wv := wd_b r.ok lw v5 b
          have w3 : WaysM g lw hh := fun x y x0 x1 y0 y1 => by rw [ff.i 81]; exact w x y x0 x1 y0 y1
          refine mLeastOf (by decide) r.ok w3 x3 c2 b0 b1 ⟨fun c3 => ⟨ii (by omega), ih v4 (v5 + 1) hh x1 x2 (by omega) (by omega) (by omega) ff (fun v v0 v1 hv z => ?_)⟩, fun c3 => ?_⟩
          · by_cases hvv : v = v5
            · subst hvv
              rw [if_neg hv] at c3
              exact t v v0 v1 hv (by omega)
            · exact t v v0 v1 hv (by omega)
          · have hv5 : wd g lw v5 b ≠ -1 := fun z => by rw [if_pos z] at c3; omega
            rw [if_neg hv5] at c3
            refine mSumOf (by decide) r3 (l.fr ff) w3 x3 c2 b0 b1 c3.symm hv5 ⟨ib (by omega), ii (by omega), ih v4 (v5 + 1) _ x1 x2 (by omega) (by omega) (by omega) (ff.trans (Fr.wL (Or.inl (by decide)))) (fun v v0 v1 hv z => ?_)⟩
            by_cases hvv : v = v5
            · subst hvv
              have hvb : v ≠ b := fun z => by rw [z, wbb] at c3; omega
              rw [rL_eq, hm_at r.ok v hv, if_neg hvb]
              refine ws_congr _ (fun u u0 u1 p => t u u0 (by omega) p.2.1 (Or.inl ?_))
              have := p.2.2
              have := p.1
              have := sc_b g lw v u
              omega
            · rw [rL_nk hvv]
              exact t v v0 v1 hv (by omega)
      have start : ∀ m : Nat, ∀ (v3 : Int) (hh : AH), 0 ≤ v3 → v3 ≤ gn g → gn g - v3 < m → Fr [82] [] h' hh → (∀ v, 0 ≤ v → v < v3 → hh.2.1 82 v = if v = b then 1 else 0) → A_M_howMany_44 6 K a b v3 hh := by
        intro m
        induction m with
        | zero => intro v3 hh x1 x2 e; omega
        | succ m ih =>
          intro v3 hh x1 x2 e ff t
          have r3 := rr.fr ff
          have w3 : WaysM g lw hh := fun x y x0 x1 y0 y1 => by rw [ff.i 81]; exact w x y x0 x1 y0 y1
          refine s_M_howMany_44 ?_
          rw [r3.n]
          refine ⟨fun c2 => mLeastOf (by decide) r.ok w3 a0 a1 b0 b1 ?_, fun c2 => ⟨ib (by omega), ii (by omega), ih (v3 + 1) _ (by omega) (by omega) (by omega) (ff.trans (Fr.wL (Or.inl (by decide)))) (fun v v0 v1 => ?_)⟩⟩
          · rw [if_neg hw]
            have low : ∀ v, 0 ≤ v → v < gn g → wd g lw v b ≠ -1 → wd g lw v b / 64 < 1 → hh.2.1 82 v = hmA g lw v b := by
              intro v v0 v1 hv hz
              have := (wd_is hv).nn
              have e2 := wd_zero hv (by omega)
              rw [t v v0 (by omega), hm_at r.ok v hv, if_pos e2, if_pos e2]
            refine s_M_howMany_84 ⟨fun c3 => ⟨ib (by omega), fin hh ff (low a a0 a1 hw c3)⟩, fun c3 => ?_⟩
            exact lev ((wd g lw a b / 64) * 41 + gn g + 1).toNat 1 0 hh (by decide) c3 (by decide) (by omega) (by omega) ff (fun v v0 v1 hv z => low v v0 v1 hv (by omega))
          · by_cases hv : v = v3
            · subst hv
              rw [rL_eq]
            · rw [rL_nk hv]
              exact t v v0 (by omega)
      exact start ((gn g).toNat + 1) 0 h' (by decide) (by omega) (by omega) Fr.refl (fun v v0 v1 => by omega)
    · have k := k h' f7
      have z : wd g lw a b = -1 := by
        by_cases y : wd g lw a b = -1
        · exact y
        · have := q1.mpr y; omega
      rw [if_neg (by omega), if_pos z] at k
      exact k
  all_goals (have k := k h Fr.refl; rw [if_pos (by omega)] at k; exact k)
/-! the class -/
theorem cWayT (ok : OkG g) {a b : Int} (w : WaysC g lw h) (a0 : 0 ≤ a) (a1 : a < gn g) (b0 : 0 ≤ b) (b1 : b < gn g) : (h.2.2 36 a b < 536870912 ↔ wd g lw a b ≠ -1) ∧ (wd g lw a b ≠ -1 → h.2.2 36 a b = wd g lw a b) ∧ (wd g lw a b = -1 → h.2.2 36 a b = 536870912) := WayIs.wd ok (w a b a0 a1 b0 b1) (by decide)
theorem cIsWay' (hd : 0 < d) {a b : Int} (ok : OkG g) (w : WaysC g lw h) (a0 : 0 ≤ a) (a1 : a < gn g) (b0 : 0 ≤ b) (b1 : b < gn g) (kT : wd g lw a b ≠ -1 → K 1 h) (kF : wd g lw a b = -1 → K 0 h) : Call d M_Ways_isWay [vR 7 (-1), vI a, vI b] h K :=
  cIsWay hd ok w a0 a1 b0 b1 (fun q _ => kT ((cWayT ok w a0 a1 b0 b1).1.mp q)) (fun q => kF (wd_no q))
theorem cWCost' (hd : 0 < d) {a b : Int} (ok : OkG g) (w : WaysC g lw h) (a0 : 0 ≤ a) (a1 : a < gn g) (b0 : 0 ≤ b) (b1 : b < gn g) (hw : wd g lw a b ≠ -1) (k : K (wd g lw a b / 64) h) : Call d M_Ways_costOf [vR 7 (-1), vI a, vI b] h K :=
  cWCost hd ok w a0 a1 b0 b1 (by rw [(cWayT ok w a0 a1 b0 b1).2.1 hw]; exact k)
theorem cLengthOf (hd : 0 < d) {a b : Int} (ok : OkG g) (w : WaysC g lw h) (a0 : 0 ≤ a) (a1 : a < gn g) (b0 : 0 ≤ b) (b1 : b < gn g) (hw : wd g lw a b ≠ -1) (k : K (wd g lw a b % 64) h) : Call d M_Ways_lengthOf [vR 7 (-1), vI a, vI b] h K := by
  have nb := ok.nb
  have wb := wd_b ok lw a b
  refine c_Ways_lengthOf 0 hd ⟨ib (by omega), ib (by omega), ?_⟩
  rw [(cWayT ok w a0 a1 b0 b1).2.1 hw, Int.tmod_eq_emod_of_nonneg (by omega)]
  exact k
theorem cToward (hd : 2 < d) {a b v : Int} (r : RepCW g h) (l : LaidC g lw h) (w : WaysC g lw h) (a0 : 0 ≤ a) (a1 : a < gn g) (b0 : 0 ≤ b) (b1 : b < gn g) (hw : wd g lw a b ≠ -1) (ho : OnIs g lw a b v) (k : K v h) : Call d M_Ways_stepToward [vR 7 (-1), vI a, vI b] h K := by
  have nb := r.ok.nb
  refine c_Ways_stepToward 2 hd ?_
  have key : ∀ m : Nat, ∀ v3 : Int, 0 ≤ v3 → v3 ≤ v → v - v3 < m → A_Ways_stepToward_2 2 K a b v3 h := by
    intro m
    induction m with
    | zero => intro v3 x1 x2 e; omega
    | succ m ih =>
      intro v3 x1 x2 e
      have hv := ho.1
      have wb := wd_b r.ok lw v3 b
      have wb2 := wd_b r.ok lw a b
      have sb := sc_b g lw a v3
      obtain ⟨q1, q2, q3⟩ := cWayT r.ok w x1 (show v3 < gn g by omega) b0 b1
      have ea := (cWayT r.ok w a0 a1 b0 b1).2.1 hw
      have p0 : 0 ≤ h.2.2 36 v3 b ∧ h.2.2 36 v3 b ≤ 536870912 := by
        by_cases z : wd g lw v3 b = -1
        · rw [q3 z]; decide
        · rw [q2 z]; omega
      have skip : ¬ NextP g lw a b v3 → inI (v3 + 1) ∧ A_Ways_stepToward_2 2 K a b (v3 + 1) h := by
        intro hn
        have : v3 ≠ v := fun z => hn (by rw [z]; exact ho.2.1)
        exact ⟨ii (by omega), ih (v3 + 1) (by omega) (by omega) (by omega)⟩
      refine s_Ways_stepToward_2 ?_
      rw [r.n]
      refine ⟨fun c => by omega, fun c => cLeads (by decide) r l a0 a1 x1 (by omega) (fun hs => br1 (cStepCost (by decide) r l a0 a1 x1 (by omega) ⟨ii (by omega), ii (by omega), ib (by omega), ib (by omega), ii (by omega), ib (by omega), fun c2 => skip (fun hn => ?_), fun c2 => ?_⟩)) (fun hs => br0 (skip (fun hn => hn.1 hs)))⟩
      · rw [q2 hn.2.1, ea] at c2
        exact c2 hn.2.2
      · have z3 : wd g lw v3 b ≠ -1 := fun z => by rw [q3 z, ea] at c2; omega
        rw [q2 z3, ea] at c2
        by_cases hvv : v3 < v
        · exact absurd ⟨hs, z3, c2⟩ (ho.2.2 v3 x1 hvv)
        · have : v3 = v := by omega
          rw [this]; exact k
  have hv := ho.1
  exact key (v.toNat + 1) 0 (by decide) hv.1 (by omega)
theorem cWordAt (hd : 3 < d) {a b p : Int} (r : RepCW g h) (l : LaidC g lw h) (w : WaysC g lw h) (b0 : 0 ≤ b) (b1 : b < gn g) (hw : wd g lw a b ≠ -1) (p0 : 0 ≤ p) (p1 : p ≤ wd g lw a b % 64) (k : K (onIt g lw b p.toNat a) h) : Call d M_Ways_wordAt [vR 7 (-1), vI a, vI b, vI p] h K := by
  have nb := r.ok.nb
  refine c_Ways_wordAt 3 hd ?_
  have key : ∀ m : Nat, ∀ (v5 v6 : Int), 0 ≤ v6 → v6 ≤ p → p - v6 < m → wd g lw v5 b ≠ -1 → p - v6 ≤ wd g lw v5 b % 64 → K (onIt g lw b (p - v6).toNat v5) h → A_Ways_wordAt_6 3 K b p v5 v6 h := by
    intro m
    induction m with
    | zero => intro v5 v6 x1 x2 e; omega
    | succ m ih =>
      intro v5 v6 x1 x2 e hv hl kk
      refine s_Ways_wordAt_6 ⟨fun c4 => ?_, fun c4 => ?_⟩
      · rw [show (p - v6).toNat = 0 by omega] at kk
        exact kk
      · have u5 := (wd_us hv).1
        have ub := (wd_us hv).2
        have hne : v5 ≠ b := fun z => by
          rw [z, wd_self ub.1.1 ub.1.2 ub.2] at hl
          omega
        obtain ⟨v, ho⟩ := on_ex hne hv
        refine cToward (by decide) r l w u5.1.1 u5.1.2 b0 b1 hv ho ⟨ii (by omega), ?_⟩
        have nn := ho.nearer r.ok hv
        refine ih v (v6 + 1) (by omega) (by omega) (by omega) nn.1 (by omega) ?_
        rw [show (p - v6).toNat = (p - (v6 + 1)).toNat + 1 by omega] at kk
        have kk2 : K (onIt g lw b (p - (v6 + 1)).toNat (on g lw v5 b)) h := kk
        rw [on_of ho] at kk2
        exact kk2
  exact key (p.toNat + 1) a 0 (by decide) p0 (by omega) hw (by omega) (by rw [Int.sub_zero]; exact k)
theorem cOnward (hd : 2 < d) {a b : Int} (r : RepCW g h) (l : LaidC g lw h) (w : WaysC g lw h) (a0 : 0 ≤ a) (a1 : a < gn g) (b0 : 0 ≤ b) (b1 : b < gn g) (hw : wd g lw a b ≠ -1) (k : K (ws (OnwP g lw a b) (fun v => h.2.1 39 v) (gn g).toNat) h) : Call d M_Ways_countOnward [vR 7 (-1), vI a, vI b] h K := by
  have nb := r.ok.nb
  have wb := wd_b r.ok lw a b
  refine c_Ways_countOnward 2 hd ?_
  have key : ∀ m : Nat, ∀ (v4 v6 : Int), 0 ≤ v6 → v6 ≤ gn g → gn g - v6 < m → v4 = ws (OnwP g lw a b) (fun v => h.2.1 39 v) v6.toNat → A_Ways_countOnward_5 2 K a b v4 v6 h := by
    intro m
    induction m with
    | zero => intro v4 v6 x1 x2 e; omega
    | succ m ih =>
      intro v4 v6 x1 x2 e hv
      refine s_Ways_countOnward_5 ?_
      rw [r.n]
      refine ⟨fun c => ?_, fun c => ?_⟩
      · have : v6 = gn g := by omega
        rw [hv, this]; exact k
      · have skip : ¬ OnwP g lw a b v6 → inI (v6 + 1) ∧ A_Ways_countOnward_5 2 K a b v4 (v6 + 1) h := fun hn => ⟨ii (by omega), ih v4 (v6 + 1) (by omega) (by omega) (by omega) (by rw [ws_f x1 hn]; exact hv)⟩
        have sb := sc_b g lw a v6
        have wb2 := wd_b r.ok lw v6 b
        refine cLeads (by decide) r l a0 a1 x1 c (fun hs => br1 (cIsWay' (by decide) r.ok w x1 c b0 b1 (fun hy => br1 (cStepCost (by decide) r l a0 a1 x1 c (cWCost' (by decide) r.ok w x1 c b0 b1 hy ⟨ii (by omega), cWCost' (by decide) r.ok w a0 a1 b0 b1 hw ⟨fun c2 => skip (fun hn => c2 hn.2.2), fun c2 => ⟨ib (by omega), ii (by omega), ih _ (v6 + 1) (by omega) (by omega) (by omega) ?_⟩⟩⟩))) (fun hy => br0 (skip (fun hn => hn.2.1 hy))))) (fun hs => br0 (skip (fun z => z.1 hs)))
        rw [ws_t x1 ⟨hs, hy, c2⟩, hv]
  exact key ((gn g).toNat + 1) 0 0 (by decide) (by omega) (by omega) rfl
/-- v is among the undone the first with the least weight; -1: none is undone -/
def NearU (g : G) (h : AH) (b n v : Int) : Prop := (v = -1 ∧ ∀ u, 0 ≤ u → u < n → h.1 41 u ≠ 0) ∨ ((0 ≤ v ∧ v < n) ∧ h.1 41 v = 0 ∧ ∀ u, 0 ≤ u → u < n → h.1 41 u = 0 → h.2.2 36 v b ≤ h.2.2 36 u b)
theorem cNearest (hd : 0 < d) {b : Int} (r : RepCW g h) (b0 : 0 ≤ b) (b1 : b < gn g) (k : ∀ v, NearU g h b (gn g) v → K v h) : Call d M_Ways_nearestUndone [vR 7 (-1), vI b] h K := by
  have nb := r.ok.nb
  refine c_Ways_nearestUndone 0 hd ?_
  have key : ∀ m : Nat, ∀ (v2 v3 : Int), 0 ≤ v3 → v3 ≤ gn g → gn g - v3 < m → NearU g h b v3 v2 → A_Ways_nearestUndone_4 0 K b v2 v3 h := by
    intro m
    induction m with
    | zero => intro v2 v3 x1 x2 e; omega
    | succ m ih =>
      intro v2 v3 x1 x2 e t
      refine s_Ways_nearestUndone_4 ?_
      rw [r.n]
      refine ⟨fun c => k v2 (by have : v3 = gn g := by omega
                                rw [this] at t; exact t), fun c => ⟨ib (by omega), fun c2 => ⟨ii (by omega), ih v2 (v3 + 1) (by omega) (by omega) (by omega) ?_⟩, fun c2 => ⟨fun c3 => ⟨ii (by omega), ih v3 (v3 + 1) (by omega) (by omega) (by omega) ?_⟩, fun c3 => ?_⟩⟩⟩
      · rcases t with ⟨t1, t2⟩ | ⟨t1, t2, t3⟩
        · exact Or.inl ⟨t1, fun u u0 u1 => by
            by_cases hu : u = v3
            · rw [hu]; exact c2
            · exact t2 u u0 (by omega)⟩
        · exact Or.inr ⟨by omega, t2, fun u u0 u1 q => by
            by_cases hu : u = v3
            · rw [hu] at q; exact absurd q c2
            · exact t3 u u0 (by omega) q⟩
      · rcases t with ⟨t1, t2⟩ | ⟨t1, t2, t3⟩
        · exact Or.inr ⟨by omega, c2, fun u u0 u1 q => by
            by_cases hu : u = v3
            · rw [hu]; exact Int.le_refl _
            · exact absurd q (t2 u u0 (by omega))⟩
        · omega
      · rcases t with ⟨t1, t2⟩ | ⟨t1, t2, t3⟩
        · exact absurd t1 c3
        · refine ⟨ib (by omega), ib (by omega), fun c4 => ⟨ii (by omega), ih v2 (v3 + 1) (by omega) (by omega) (by omega) (Or.inr ⟨by omega, t2, fun u u0 u1 q => ?_⟩)⟩, fun c4 => ⟨ii (by omega), ih v3 (v3 + 1) (by omega) (by omega) (by omega) (Or.inr ⟨by omega, c2, fun u u0 u1 q => ?_⟩)⟩⟩
          · by_cases hu : u = v3
            · rw [hu]; exact c4
            · exact t3 u u0 (by omega) q
          · by_cases hu : u = v3
            · rw [hu]; exact Int.le_refl _
            · have := t3 u u0 (by omega) q
              omega
  exact key ((gn g).toNat + 1) (-1) 0 (by decide) (by omega) (by omega) (Or.inl ⟨rfl, fun u u0 u1 => by omega⟩)
theorem cCountLeast (hd : 3 < d) {a b : Int} (r : RepCW g h) (l : LaidC g lw h) (w : WaysC g lw h) (a0 : 0 ≤ a) (a1 : a < gn g) (b0 : 0 ≤ b) (b1 : b < gn g) (hw : wd g lw a b ≠ -1) (k : ∀ h', Fr [39, 41] [] h h' → K (hmA g lw a b) h') : Call d M_Ways_countLeast [vR 7 (-1), vI a, vI b] h K := by
  have nb := r.ok.nb
  refine c_Ways_countLeast 3 hd ?_
  have fin : ∀ hh, Fr [39, 41] [] h hh → (∀ v, 0 ≤ v → v < gn g → wd g lw v b ≠ -1 → wd g lw v b / 64 < wd g lw a b / 64 → hh.2.1 39 v = hmA g lw v b) → A_Ways_countLeast_122 3 K a b hh := by
    intro hh f t
    have k := k hh f
    rw [hm_at r.ok a hw] at k
    refine s_Ways_countLeast_122 ⟨fun c => ?_, fun c => ?_⟩
    · rw [if_neg c] at k
      refine cOnward (by decide) (r.fr f) (l.fr f) (w.fr f) a0 a1 b0 b1 hw ?_
      rw [ws_congr (f := fun v => hh.2.1 39 v) (f' := fun w => hmA g lw w b) _ (fun u u0 u1 p => t u u0 (by omega) p.2.1 (by have := p.2.2; have := p.1; have := sc_b g lw a u; omega))]
      exact k
    · rw [if_pos c] at k
      exact k
  have turn : ∀ m : Nat, ∀ (v4 : Int) (hh : AH), 0 ≤ v4 → v4 ≤ gn g → gn g - v4 < m → Fr [39, 41] [] h hh → cnt (fun v => hh.1 41 v = 0) (gn g).toNat ≤ gn g - v4 → (∀ v, 0 ≤ v → v < gn g → hh.1 41 v = 0 ∨ hh.1 41 v = 1) → (∀ v, 0 ≤ v → v < gn g → hh.1 41 v = 0 → wd g lw v b ≠ -1) → (∀ v, 0 ≤ v → v < gn g → hh.1 41 v ≠ 0 → wd g lw v b ≠ -1 → hh.2.1 39 v = hmA g lw v b ∧ ∀ u, 0 ≤ u → u < gn g → hh.1 41 u = 0 → wd g lw v b ≤ wd g lw u b) → A_Ways_countLeast_56 3 K a b (gn g) v4 hh := by
    intro m
    induction m with
    | zero => intro v4 hh x1 x2 e; omega
    | succ m ih =>
      intro v4 hh x1 x2 e f hc hb hu t
      have rr := r.fr f
      have ww := w.fr f
      refine s_Ways_countLeast_56 ⟨fun c => fin hh f (fun v v0 v1 hv _ => ?_), fun c => cNearest (by decide) rr b0 b1 (fun v q => ⟨fun c2 => fin hh f (fun u u0 u1 hy _ => ?_), fun c2 => ⟨fun c3 => ?_, fun c3 => fin hh f (fun u u0 u1 hy hl => ?_)⟩⟩)⟩
      · exact (t v v0 v1 (cnt_zero (P := fun v => hh.1 41 v = 0) (gn g).toNat (by omega) v v0 (by omega)) hv).1
      · rcases q with ⟨q1, q2⟩ | ⟨q1, q2, q3⟩
        · exact (t u u0 u1 (q2 u u0 u1) hy).1
        · omega
      · rcases q with ⟨q1, q2⟩ | ⟨q1, q2, q3⟩
        · exact absurd q1 c2
        · have hv := hu v q1.1 q1.2 q2
          have le : ∀ u, 0 ≤ u → u < gn g → hh.1 41 u = 0 → wd g lw v b ≤ wd g lw u b := by
            intro u u0 u1 z
            have z1 := q3 u u0 u1 z
            rw [(cWayT r.ok ww q1.1 q1.2 b0 b1).2.1 hv, (cWayT r.ok ww u0 u1 b0 b1).2.1 (hu u u0 u1 z)] at z1
            exact z1
          have f1 : Fr [39, 41] [] h (wI hh 41 v 1) := f.trans (Fr.wI (Or.inl (by decide)))
          have go : ∀ x, x = hmA g lw v b → inI (v4 + 1) ∧ A_Ways_countLeast_56 3 K a b (gn g) (v4 + 1) (wL (wI hh 41 v 1) 39 v x) := by
            intro x hx
            have e41 : ∀ u, (wL (wI hh 41 v 1) 39 v x).1 41 u = if u = v then 1 else hh.1 41 u := by
              intro u
              show (wI hh 41 v 1).1 41 u = _
              by_cases z : u = v
              · rw [z, rI_eq, if_pos rfl]
              · rw [rI_nk z, if_neg z]
            refine ⟨ii (by omega), ih (v4 + 1) _ (by omega) (by omega) (by omega) (f1.trans (Fr.wL (Or.inl (by decide)))) ?_ (fun u u0 u1 => ?_) (fun u u0 u1 z => ?_) (fun u u0 u1 z hy => ?_)⟩
            · have := cnt_flip (P := fun v => hh.1 41 v = 0) (P' := fun u => (wL (wI hh 41 v 1) 39 v x).1 41 u = 0) (gn g).toNat v q1.1 (by omega) q2 (by rw [e41, if_pos rfl]; decide) (fun u z => by rw [e41, if_neg z])
              omega
            · rw [e41]
              split
              · exact Or.inr rfl
              · exact hb u u0 u1
            · rw [e41] at z
              by_cases y : u = v
              · rw [if_pos y] at z; omega
              · rw [if_neg y] at z; exact hu u u0 u1 z
            · rw [e41] at z
              by_cases y : u = v
              · subst y
                refine ⟨by rw [rL_eq]; exact hx, fun u' u0' u1' z' => ?_⟩
                rw [e41] at z'
                by_cases y' : u' = u
                · rw [if_pos y'] at z'; omega
                · rw [if_neg y'] at z'; exact le u' u0' u1' z'
              · rw [if_neg y] at z
                obtain ⟨t1, t2⟩ := t u u0 u1 z hy
                refine ⟨?_, fun u' u0' u1' z' => ?_⟩
                · rw [rL_nk y]; exact t1
                · rw [e41] at z'
                  by_cases y' : u' = v
                  · rw [if_pos y'] at z'; omega
                  · rw [if_neg y'] at z'; exact t2 u' u0' u1' z'
          refine ⟨ib (by omega), fun c4 => ?_, fun c4 => go 1 (by rw [hm_at r.ok v hv, if_pos c4])⟩
          refine cOnward (by decide) (r.fr f1) (l.fr f1) (w.fr f1) q1.1 q1.2 b0 b1 hv (go _ ?_)
          rw [hm_at r.ok v hv, if_neg c4]
          refine ws_congr _ (fun u u0 u1 p => ?_)
          have p2 := p.2.2
          have p1 := p.1
          have sb := sc_b g lw v u
          have nd : hh.1 41 u ≠ 0 := fun z => by
            have := le u u0 (by omega) z
            omega
          exact (t u u0 (by omega) nd p.2.1).1
      · rcases q with ⟨q1, q2⟩ | ⟨q1, q2, q3⟩
        · exact absurd q1 c2
        · have nd : hh.1 41 u ≠ 0 := fun z => by
            have z1 := q3 u u0 u1 z
            rw [c3, (cWayT r.ok ww a0 a1 b0 b1).2.1 hw, (cWayT r.ok ww u0 u1 b0 b1).2.1 hy] at z1
            omega
          exact (t u u0 u1 nd hy).1
  have start : ∀ m : Nat, ∀ (v4 : Int) (hh : AH), 0 ≤ v4 → v4 ≤ gn g → gn g - v4 < m → Fr [39, 41] [] h hh → (∀ v, 0 ≤ v → v < v4 → hh.1 41 v = if wd g lw v b = -1 then 1 else 0) → A_Ways_countLeast_11 3 K a b (gn g) v4 hh := by
    intro m
    induction m with
    | zero => intro v4 hh x1 x2 e; omega
    | succ m ih =>
      intro v4 hh x1 x2 e f t
      refine s_Ways_countLeast_11 ⟨fun c => turn ((gn g).toNat + 1) 0 hh (by decide) (by omega) (by omega) f ?_ (fun v v0 v1 => ?_) (fun v v0 v1 z hy => ?_) (fun v v0 v1 z hy => ?_), fun c => ?_⟩
      · have := cnt_b (fun v => hh.1 41 v = 0) (gn g).toNat
        omega
      · rw [t v v0 (by omega)]
        split
        · exact Or.inr rfl
        · exact Or.inl rfl
      · rw [t v v0 (by omega), if_pos hy] at z
        omega
      · rw [t v v0 (by omega), if_neg hy] at z
        exact absurd rfl z
      · have put : ∀ x, (x = if wd g lw v4 b = -1 then 1 else 0) → A_Ways_countLeast_11 3 K a b (gn g) (v4 + 1) (wL (wI hh 41 v4 x) 39 v4 0) := by
          intro x hx
          refine ih (v4 + 1) _ (by omega) (by omega) (by omega) ((f.trans (Fr.wI (Or.inl (by decide)))).trans (Fr.wL (Or.inl (by decide)))) (fun v v0 v1 => ?_)
          show (wI hh 41 v4 x).1 41 v = _
          by_cases z : v = v4
          · rw [z, rI_eq]; exact hx
          · rw [rI_nk z]; exact t v v0 (by omega)
        refine cIsWay' (by decide) r.ok (w.fr f) x1 c b0 b1 (fun hy => ⟨ib (by omega), Or.inl (if_neg (by decide)), ii (by omega), put _ ?_⟩) (fun hy => ⟨ib (by omega), Or.inr (if_pos rfl), ii (by omega), put _ ?_⟩)
        · rw [if_neg hy]; rfl
        · rw [if_pos hy]; rfl
  have e26 := r.n
  rw [e26]
  exact start ((gn g).toNat + 1) 0 h (by decide) (by omega) (by omega) Fr.refl (fun v v0 v1 => by omega)
end HM

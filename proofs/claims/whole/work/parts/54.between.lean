/-! who stands between most twos -/
/-- a row of least cost from f to t may go by w -/
def TwoP (g : G) (lw : LW) (w f t : Int) : Prop := (f ≠ w ∧ t ≠ w ∧ t ≠ f) ∧ (wd g lw f w ≠ -1 ∧ wd g lw w t ≠ -1) ∧ wd g lw f w / 64 + wd g lw w t / 64 = wd g lw f t / 64
noncomputable def tbS (g : G) (lw : LW) (w : Int) : Nat → Int
  | 0 => 0
  | m + 1 => tbS g lw w m + cnt (TwoP g lw w (m : Int)) (gn g).toNat
noncomputable def tb (g : G) (lw : LW) (w : Int) : Int := tbS g lw w (gn g).toNat
theorem tbS_b {g : G} (ok : OkG g) {lw : LW} {w : Int} : ∀ m : Nat, 0 ≤ tbS g lw w m ∧ tbS g lw w m ≤ 40 * m
  | 0 => ⟨Int.le_refl _, Int.le_refl _⟩
  | m + 1 => by
    have ih := tbS_b ok (lw := lw) (w := w) m
    have := cnt_b (TwoP g lw w (m : Int)) (gn g).toNat
    have := ok.nb
    unfold tbS
    omega
theorem tbS_z {g : G} {lw : LW} {w v : Int} (h0 : 0 ≤ v) (hn : ∀ t, ¬ TwoP g lw w v t) : tbS g lw w (v + 1).toNat = tbS g lw w v.toNat := by
  have e : ((v.toNat : Nat) : Int) = v := by omega
  have z : ∀ m : Nat, cnt (TwoP g lw w v) m = 0 := by
    intro m
    induction m with
    | zero => rfl
    | succ m ih => rw [cnt_f (hn _), ih]
  rw [show (v + 1).toNat = v.toNat + 1 by omega]
  show tbS g lw w v.toNat + cnt (TwoP g lw w ((v.toNat : Nat) : Int)) (gn g).toNat = _
  rw [e, z, Int.add_zero]
theorem tbS_s {g : G} {lw : LW} {w v : Int} (h0 : 0 ≤ v) : tbS g lw w (v + 1).toNat = tbS g lw w v.toNat + cnt (TwoP g lw w v) (gn g).toNat := by
  have e : ((v.toNat : Nat) : Int) = v := by omega
  rw [show (v + 1).toNat = v.toNat + 1 by omega]
  show tbS g lw w v.toNat + cnt (TwoP g lw w ((v.toNat : Nat) : Int)) (gn g).toNat = _
  rw [e]
theorem cnt_ti {P : Int → Prop} {v : Int} (h0 : 0 ≤ v) (h : P v) : cnt P (v + 1).toNat = cnt P v.toNat + 1 := by
  have e : ((v.toNat : Nat) : Int) = v := by omega
  rw [show (v + 1).toNat = v.toNat + 1 by omega, cnt_t (by rw [e]; exact h)]
theorem cnt_fi {P : Int → Prop} {v : Int} (h0 : 0 ≤ v) (h : ¬ P v) : cnt P (v + 1).toNat = cnt P v.toNat := by
  have e : ((v.toNat : Nat) : Int) = v := by omega
  rw [show (v + 1).toNat = v.toNat + 1 by omega, cnt_f (by rw [e]; exact h)]
/-- w: the first, below m, between most twos (t of them); -1: no word below m is used -/
def BusyIs (g : G) (lw : LW) (m w t : Int) : Prop := (w = -1 ∧ ∀ u, 0 ≤ u → u < m → ¬ us g u) ∨ ((0 ≤ w ∧ w < m) ∧ us g w ∧ t = tb g lw w ∧ ∀ u, 0 ≤ u → u < m → us g u → tb g lw u < t ∨ (tb g lw u = t ∧ w ≤ u))
theorem BusyIs.uniq {g : G} {lw : LW} {m w t w' t' : Int} (h : BusyIs g lw m w t) (k : BusyIs g lw m w' t') : w = w' ∧ (w ≠ -1 → t = t') := by
  rcases h with ⟨h1, h2⟩ | ⟨h1, h2, h3, h4⟩
  · rcases k with ⟨k1, k2⟩ | ⟨k1, k2, k3, k4⟩
    · omega
    · exact absurd k2 (h2 w' k1.1 k1.2)
  · rcases k with ⟨k1, k2⟩ | ⟨k1, k2, k3, k4⟩
    · exact absurd h2 (k2 w h1.1 h1.2)
    · have := h4 w' k1.1 k1.2 k2
      have := k4 w h1.1 h1.2 h2
      omega
theorem BusyIs.step {g : G} (ok : OkG g) {lw : LW} {m w t : Int} (h : BusyIs g lw m w t) (m0 : 0 ≤ m) (u : us g m) (hlt : w = -1 ∨ t < tb g lw m) : BusyIs g lw (m + 1) m (tb g lw m) := by
  refine Or.inr ⟨by omega, u, rfl, fun v v0 v1 uv => ?_⟩
  by_cases hv : v = m
  · rw [hv]; exact Or.inr ⟨rfl, Int.le_refl _⟩
  · rcases h with ⟨h1, h2⟩ | ⟨h1, h2, h3, h4⟩
    · exact absurd uv (h2 v v0 (by omega))
    · have := h4 v v0 (by omega) uv
      omega
theorem BusyIs.keep {g : G} {lw : LW} {m w t : Int} (h : BusyIs g lw m w t) (hk : us g m → w ≠ -1 ∧ tb g lw m ≤ t) : BusyIs g lw (m + 1) w t := by
  rcases h with ⟨h1, h2⟩ | ⟨h1, h2, h3, h4⟩
  · refine Or.inl ⟨h1, fun v v0 v1 => ?_⟩
    by_cases hv : v = m
    · rw [hv]; exact fun z => (hk z).1 h1
    · exact h2 v v0 (by omega)
  · refine Or.inr ⟨by omega, h2, h3, fun v v0 v1 uv => ?_⟩
    by_cases hv : v = m
    · rw [hv] at uv ⊢
      have := (hk uv).2
      omega
    · exact h4 v v0 (by omega) uv
section BT
variable {d : Nat} {g : G} {lw : LW} {h : AH} {K : Int → AH → Prop}
theorem wd_via {g : G} {lw : LW} {a b c : Int} (h1 : wd g lw a b ≠ -1) (h2 : wd g lw b c ≠ -1) : has g lw a c := by
  obtain ⟨⟨n, p⟩, -⟩ := wd_is h1
  obtain ⟨⟨m, q⟩, -⟩ := wd_is h2
  exact ⟨n + m, _, Pw.app p q⟩
theorem mTwosBy (hd : 1 < d) {a : Int} (r : RepM g h) (w : WaysM g lw h) (a0 : 0 ≤ a) (a1 : a < gn g) (k : K (tb g lw a) h) : Call d M_M_twosBy [vR 12 (-1), vI a] h K := by
  have nb := r.ok.nb
  refine c_M_twosBy 1 hd ?_
  have key : ∀ m : Nat, ∀ (v2 v3 v4 : Int), 0 ≤ v3 → v3 < gn g → 0 ≤ v4 → v4 ≤ gn g → (gn g - v3) * 41 - v4 < m → v2 = tbS g lw a v3.toNat + cnt (TwoP g lw a v3) v4.toNat → A_M_twosBy_15 1 K a v2 v3 v4 h := by
    intro m
    induction m with
    | zero => intro v2 v3 v4 x1 x2 x3 x4 e; omega
    | succ m ih =>
      intro v2 v3 v4 x1 x2 x3 x4 e t
      have cb := cnt_b (TwoP g lw a v3) v4.toNat
      have sb := tbS_b r.ok (lw := lw) (w := a) v3.toNat
      refine s_M_twosBy_15 ?_
      rw [r.n]
      refine ⟨fun c => ⟨ii (by omega), s_M_twosBy_4 ?_⟩, fun c => ?_⟩
      · have t2 : v2 = tbS g lw a (v3 + 1).toNat := by rw [tbS_s x1, t, show v4 = gn g by omega]
        rw [r.n]
        refine ⟨fun c2 => ?_, fun c2 => ih v2 (v3 + 1) 0 (by omega) c2 (by decide) (by omega) (by omega) (by rw [t2]; exact (Int.add_zero _).symm)⟩
        have k := k
        unfold tb at k
        rw [t2, show v3 + 1 = gn g by omega]
        exact k
      · have skip : ¬ TwoP g lw a v3 v4 → inI (v4 + 1) ∧ A_M_twosBy_15 1 K a v2 v3 (v4 + 1) h := fun hn => ⟨ii (by omega), ih v2 v3 (v4 + 1) x1 x2 (by omega) (by omega) (by omega) (by rw [cnt_fi x3 hn]; exact t)⟩
        refine ⟨fun c2 => skip (fun z => z.1.2.2 c2.symm), fun c2 => ⟨fun c3 => skip (fun z => z.1.1 c3), fun c3 => ⟨fun c4 => skip (fun z => z.1.2.1 c4), fun c4 => ?_⟩⟩⟩
        have b1 := wd_b r.ok lw v3 v4
        have b2 := wd_b r.ok lw v3 a
        have b3 := wd_b r.ok lw a v4
        refine mLeastOf (by decide) r.ok w x1 x2 x3 c ⟨fun c5 => skip (fun z => ?_), fun c5 => mLeastOf (by decide) r.ok w x1 x2 a0 a1 (mLeastOf (by decide) r.ok w a0 a1 x3 c ?_)⟩
        · by_cases y : wd g lw v3 v4 = -1
          · have q := (w v3 v4 x1 x2 x3 c)
            exact ((q.wd r.ok (by decide)).1.mp (q.has.mpr (wd_via z.2.1.1 z.2.1.2))) y
          · rw [if_neg y] at c5; omega
        · have hy : wd g lw v3 v4 ≠ -1 := fun y => by rw [if_pos y] at c5; omega
          have l1 : 0 ≤ (if wd g lw v3 a = -1 then 1000000000 else wd g lw v3 a / 64) := by split <;> omega
          have l2 : 0 ≤ (if wd g lw a v4 = -1 then 1000000000 else wd g lw a v4 / 64) := by split <;> omega
          refine mSum (by decide) l1 l2 (fun hz => mLeastOf (by decide) r.ok w x1 x2 x3 c ?_) (fun z1 z2 => mLeastOf (by decide) r.ok w x1 x2 x3 c ?_)
          · rw [if_neg hy]
            refine ⟨fun _ => skip (fun z => ?_), fun c6 => by omega⟩
            rw [if_neg z.2.1.1, if_neg z.2.1.2] at hz
            omega
          · have h1 : wd g lw v3 a ≠ -1 := fun y => by rw [if_pos y] at z1; omega
            have h2 : wd g lw a v4 ≠ -1 := fun y => by rw [if_pos y] at z2; omega
            rw [if_neg hy, if_neg h1, if_neg h2]
            refine ⟨fun c6 => skip (fun z => c6 z.2.2), fun c6 => ⟨ii (by omega), ii (by omega), ih (v2 + 1) v3 (v4 + 1) x1 x2 (by omega) (by omega) (by omega) ?_⟩⟩
            rw [cnt_ti x3 ⟨⟨c3, c4, fun z => c2 z.symm⟩, ⟨h1, h2⟩, c6⟩, t]
            omega
  refine s_M_twosBy_4 ?_
  rw [r.n]
  exact ⟨fun c => by omega, fun c => key ((gn g) * 41 + 1).toNat 0 0 0 (by decide) c (by decide) (by omega) (by omega) rfl⟩
theorem mBetween (hd : 6 < d) {p : Int} (r : RepM g h) (rl : RepML lw h) (k0 : ¬ (0 ≤ p ∧ p ≤ 1) → K (-1) h) (k1 : ∀ h' w t, 0 ≤ p → p ≤ 1 → BusyIs g lw (gn g) w t → Fr [76, 77, 78, 79, 80, 81] [] h h' → K (if w = -1 then -2 else if p = 0 then w else t) h') : Call d M_M_between [vR 12 (-1), vI p] h K := by
  have nb := r.ok.nb
  refine c_M_between 6 hd (mIn (by decide) (fun p0 p1 => br1' (mLaysWays (by decide) r rl (fun h' w l f => ?_))) (fun c => br0' (k0 c)))
  have rr := r.fr f
  have key : ∀ m : Nat, ∀ (v2 v3 v4 : Int), 0 ≤ v4 → v4 ≤ gn g → gn g - v4 < m → (∃ w, BusyIs g lw v4 w v3 ∧ (w = -1 → v2 = -2 ∧ v3 = -2) ∧ (w ≠ -1 → v2 = w)) → A_M_between_24 6 K p v2 v3 v4 h' := by
    intro m
    induction m with
    | zero => intro v2 v3 v4 x1 x2 e; omega
    | succ m ih =>
      intro v2 v3 v4 x1 x2 e t
      obtain ⟨b, t1, t2, t3⟩ := t
      have bb : b = -1 ∨ 0 ≤ b := by
        rcases t1 with ⟨z, _⟩ | ⟨z, _⟩
        · exact Or.inl z
        · exact Or.inr z.1
      refine s_M_between_24 ?_
      rw [rr.n]
      refine ⟨fun c => ?_, fun c => ?_⟩
      · have e4 : v4 = gn g := by omega
        rw [e4] at t1
        have k := k1 h' b v3 p0 p1 t1 f
        by_cases hb : b = -1
        · rw [if_pos hb] at k
          have := t2 hb
          rw [this.1, this.2]
          exact ⟨fun _ => k, fun _ => k⟩
        · rw [if_neg hb] at k
          rw [t3 hb]
          exact ⟨fun q => by rw [if_neg q] at k; exact k, fun q => by rw [if_pos q] at k; exact k⟩
      · have keep : (us g v4 → b ≠ -1 ∧ tb g lw v4 ≤ v3) → inI (v4 + 1) ∧ A_M_between_24 6 K p v2 v3 (v4 + 1) h' := fun q => ⟨ii (by omega), ih v2 v3 (v4 + 1) (by omega) (by omega) (by omega) ⟨b, t1.keep q, t2, t3⟩⟩
        refine mIsUsed (by decide) rr x1 c (fun u => br1' (mTwosBy (by decide) rr w x1 c ?_)) (fun nu => br0' (keep (fun z => absurd z nu)))
        have put : (b = -1 ∨ v3 < tb g lw v4) → inI (v4 + 1) ∧ A_M_between_24 6 K p v4 (tb g lw v4) (v4 + 1) h' := fun q => ⟨ii (by omega), ih v4 _ (v4 + 1) (by omega) (by omega) (by omega) ⟨v4, t1.step r.ok x1 u q, fun z => by omega, fun _ => rfl⟩⟩
        refine ⟨fun c2 => put (Or.inl ?_), fun c2 => ⟨fun c3 => put (Or.inr c3), fun c3 => keep (fun _ => ⟨fun z => c2 (t2 z).1, c3⟩)⟩⟩
        rcases bb with z | z
        · exact z
        · have := t3 (by omega); omega
  exact key ((gn g).toNat + 1) (-2) (-2) 0 (by decide) (by omega) (by omega) ⟨-1, Or.inl ⟨rfl, fun u u0 u1 => by omega⟩, fun _ => ⟨rfl, rfl⟩, fun z => absurd rfl z⟩
theorem cTwosBy (hd : 1 < d) {a : Int} (r : RepCW g h) (w : WaysC g lw h) (a0 : 0 ≤ a) (a1 : a < gn g) (k : K (tb g lw a) h) : Call d M_Ways_twosBy [vR 7 (-1), vI a] h K := by
  have nb := r.ok.nb
  refine c_Ways_twosBy 1 hd ?_
  have e26 := r.n
  have outer : ∀ m : Nat, ∀ (v2 v3 : Int), 0 ≤ v3 → v3 ≤ gn g → gn g - v3 < m → v2 = tbS g lw a v3.toNat → A_Ways_twosBy_4 1 K a v2 v3 h := by
    intro m
    induction m with
    | zero => intro v2 v3 x1 x2 e; omega
    | succ m ih =>
      intro v2 v3 x1 x2 e t
      refine s_Ways_twosBy_4 ?_
      rw [e26]
      refine ⟨fun c => ?_, fun c => ?_⟩
      · have k := k
        unfold tb at k
        rw [t, show v3 = gn g by omega]
        exact k
      · have skip : (∀ t, ¬ TwoP g lw a v3 t) → inI (v3 + 1) ∧ A_Ways_twosBy_4 1 K a v2 (v3 + 1) h := fun hn => ⟨ii (by omega), ih v2 (v3 + 1) (by omega) (by omega) (by omega) (by rw [tbS_z x1 hn]; exact t)⟩
        refine ⟨fun c2 => skip (fun t z => z.1.1 c2), fun c2 => cIsWay' (by decide) r.ok w x1 c a0 a1 (fun hy => br1' (cWCost' (by decide) r.ok w x1 c a0 a1 hy ?_)) (fun hn => br0' (skip (fun t z => z.2.1.1 hn)))⟩
        have b2 := wd_b r.ok lw v3 a
        have key : ∀ m : Nat, ∀ (v2' v5 : Int), 0 ≤ v5 → v5 ≤ gn g → gn g - v5 < m → v2' = tbS g lw a v3.toNat + cnt (TwoP g lw a v3) v5.toNat → A_Ways_twosBy_43 1 K a v2' v3 (wd g lw v3 a / 64) v5 h := by
          intro m
          induction m with
          | zero => intro v2' v5 y1 y2 e; omega
          | succ m ih2 =>
            intro v2' v5 y1 y2 e2 t2
            have cb := cnt_b (TwoP g lw a v3) v5.toNat
            have sb := tbS_b r.ok (lw := lw) (w := a) v3.toNat
            refine s_Ways_twosBy_43 ?_
            rw [e26]
            refine ⟨fun c5 => ⟨ii (by omega), ih v2' (v3 + 1) (by omega) (by omega) (by omega) (by rw [tbS_s x1, t2, show v5 = gn g by omega])⟩, fun c5 => ?_⟩
            have skip2 : ¬ TwoP g lw a v3 v5 → inI (v5 + 1) ∧ A_Ways_twosBy_43 1 K a v2' v3 (wd g lw v3 a / 64) (v5 + 1) h := fun hn => ⟨ii (by omega), ih2 v2' (v5 + 1) (by omega) (by omega) (by omega) (by rw [cnt_fi y1 hn]; exact t2)⟩
            have b3 := wd_b r.ok lw a v5
            refine ⟨fun c6 => skip2 (fun z => z.1.2.1 c6), fun c6 => ⟨fun c7 => skip2 (fun z => z.1.2.2 c7), fun c7 => cIsWay' (by decide) r.ok w a0 a1 y1 c5 (fun hz => br1 (cWCost' (by decide) r.ok w a0 a1 y1 c5 hz ⟨ii (by omega), ?_⟩)) (fun hn => br0 (skip2 (fun z => z.2.1.2 hn)))⟩⟩
            have hv : wd g lw v3 v5 ≠ -1 := by
              have q := (w v3 v5 x1 c y1 c5)
              exact (q.wd r.ok (by decide)).1.mp (q.has.mpr (wd_via hy hz))
            refine cWCost' (by decide) r.ok w x1 c y1 c5 hv ⟨fun c8 => skip2 (fun z => c8 z.2.2), fun c8 => ⟨ii (by omega), ii (by omega), ih2 (v2' + 1) (v5 + 1) (by omega) (by omega) (by omega) ?_⟩⟩
            rw [cnt_ti y1 ⟨⟨c2, c6, c7⟩, ⟨hy, hz⟩, c8⟩, t2]
            omega
        exact key ((gn g).toNat + 1) v2 0 (by decide) (by omega) (by omega) (by rw [t]; exact (Int.add_zero _).symm)
  exact outer ((gn g).toNat + 1) 0 0 (by decide) (by omega) (by omega) rfl
theorem cBusiest (hd : 2 < d) (r : RepCW g h) (w : WaysC g lw h) (fresh : h.1 7 16 = h.1 6 10 → BusyIs g lw (gn g) (h.1 7 12) (h.1 7 13))
    (k0 : BusyIs g lw (gn g) (h.1 7 12) (h.1 7 13) → h.1 7 16 = h.1 6 10 → K 0 h)
    (k1 : ∀ h', BusyIs g lw (gn g) (h'.1 7 12) (h'.1 7 13) → h'.1 7 16 = h.1 6 10 → Fr [] [(7, 12), (7, 13), (7, 16)] h h' → K 0 h') : Call d M_Ways_refreshBusiest [vR 7 (-1)] h K := by
  have nb := r.ok.nb
  refine c_Ways_refreshBusiest 2 hd ⟨fun c => ?_, fun c => k0 (fresh c) c⟩
  have key : ∀ m : Nat, ∀ (v1 : Int) (hh : AH), 0 ≤ v1 → v1 ≤ gn g → gn g - v1 < m → BusyIs g lw v1 (hh.1 7 12) (hh.1 7 13) → (hh.1 7 12 = -1 → hh.1 7 13 = 0) → hh.1 7 16 = h.1 6 10 → Fr [] [(7, 12), (7, 13), (7, 16)] h hh → A_Ways_refreshBusiest_38 2 K v1 hh := by
    intro m
    induction m with
    | zero => intro v1 hh x1 x2 e; omega
    | succ m ih =>
      intro v1 hh x1 x2 e t t0 e16 f
      have rr := r.fr f
      have ww := w.fr f
      have e26 := rr.n
      refine s_Ways_refreshBusiest_38 ?_
      rw [e26]
      refine ⟨fun c2 => k1 hh (by rw [show gn g = v1 by omega]; exact t) e16 f, fun c2 => ?_⟩
      have keep : (us g v1 → hh.1 7 12 ≠ -1 ∧ tb g lw v1 ≤ hh.1 7 13) → inI (v1 + 1) ∧ A_Ways_refreshBusiest_38 2 K (v1 + 1) hh := fun q => ⟨ii (by omega), ih (v1 + 1) hh (by omega) (by omega) (by omega) (t.keep q) t0 e16 f⟩
      have tbb := tbS_b r.ok (lw := lw) (w := v1) (gn g).toNat
      have tbe : tb g lw v1 = tbS g lw v1 (gn g).toNat := rfl
      have b13 : 0 ≤ hh.1 7 13 := by
        rcases t with ⟨z, _⟩ | ⟨z1, _, z2, _⟩
        · rw [t0 z]; decide
        · have := tbS_b r.ok (lw := lw) (w := hh.1 7 12) (gn g).toNat
          rw [z2]
          exact this.1
      have b12 : hh.1 7 12 = -1 ∨ 0 ≤ hh.1 7 12 := by
        rcases t with ⟨z, _⟩ | ⟨z1, _⟩
        · exact Or.inl z
        · exact Or.inr z1.1
      refine wIsUsed (by decide) rr (fun _ _ u => br1 (cTwosBy (by decide) rr ww x1 c2 ?_)) (fun nu => br0 (s_Ways_refreshBusiest_69 ⟨fun q => by omega, fun _ => ⟨fun _ => keep (fun z => absurd ⟨x1, c2, z⟩ nu), fun _ => ⟨fun _ => keep (fun z => absurd ⟨x1, c2, z⟩ nu), fun q => by omega⟩⟩⟩))
      have put : (hh.1 7 12 = -1 ∨ hh.1 7 13 < tb g lw v1) → A_Ways_refreshBusiest_90 2 K v1 (tb g lw v1) hh := by
        intro q
        have e12 : (wI (wI hh 7 12 v1) 7 13 (tb g lw v1)).1 7 12 = v1 := by simp [wI]
        have e13 : (wI (wI hh 7 12 v1) 7 13 (tb g lw v1)).1 7 13 = tb g lw v1 := rI_eq
        have e16' : (wI (wI hh 7 12 v1) 7 13 (tb g lw v1)).1 7 16 = h.1 6 10 := by simp [wI, e16]
        refine s_Ways_refreshBusiest_90 ⟨ii (by omega), ih (v1 + 1) _ (by omega) (by omega) (by omega) ?_ (fun z => ?_) e16' ((f.trans (Fr.wI (Or.inr (by decide)))).trans (Fr.wI (Or.inr (by decide))))⟩
        · rw [e12, e13]
          exact t.step r.ok x1 u q
        · rw [e12] at z; omega
      refine s_Ways_refreshBusiest_69 ⟨fun q => put (Or.inr q), fun q => ⟨fun q2 => keep (fun _ => ⟨q2, q⟩), fun q2 => ⟨fun q3 => ?_, fun q3 => put (Or.inl q2)⟩⟩⟩
      have := t0 q2
      omega
  have e12 : (wI (wI (wI h 7 16 (h.1 6 10)) 7 12 (-1)) 7 13 0).1 7 12 = -1 := by simp [wI]
  have e13 : (wI (wI (wI h 7 16 (h.1 6 10)) 7 12 (-1)) 7 13 0).1 7 13 = 0 := rI_eq
  have e16 : (wI (wI (wI h 7 16 (h.1 6 10)) 7 12 (-1)) 7 13 0).1 7 16 = h.1 6 10 := by simp [wI]
  refine key ((gn g).toNat + 1) 0 _ (by decide) (by omega) (by omega) ?_ (fun _ => e13) e16 (((Fr.wI (Or.inr (by decide))).trans (Fr.wI (Or.inr (by decide)))).trans (Fr.wI (Or.inr (by decide))))
  rw [e12, e13]
  exact Or.inl ⟨rfl, fun u u0 u1 => by omega⟩
end BT

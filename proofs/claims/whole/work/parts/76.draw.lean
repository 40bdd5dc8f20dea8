/-! a walk drawn -/
theorem cnt_le {P : Int → Prop} : ∀ m k : Nat, m ≤ k → cnt P m ≤ cnt P k := by
  intro m k hk
  induction k with
  | zero => rw [show m = 0 by omega]; exact Int.le_refl _
  | succ k ih =>
    by_cases z : m = k + 1
    · rw [z]; exact Int.le_refl _
    · have h1 := ih (by omega)
      by_cases p : P k
      · rw [cnt_t p]; omega
      · rw [cnt_f p]; exact h1
theorem nth_ex {P : Int → Prop} : ∀ (m : Nat) (k : Int), 0 ≤ k → k < cnt P m → ∃ v : Int, (0 ≤ v ∧ v < m) ∧ P v ∧ cnt P v.toNat = k := by
  intro m
  induction m with
  | zero =>
    intro k h0 h1
    have h2 : cnt P 0 = 0 := rfl
    rw [h2] at h1
    omega
  | succ m ih =>
    intro k h0 h1
    by_cases p : P m
    · rw [cnt_t p] at h1
      by_cases z : k = cnt P m
      · exact ⟨m, by omega, p, by rw [Int.toNat_natCast, z]⟩
      · obtain ⟨v, v1, v2, v3⟩ := ih k h0 (by omega)
        exact ⟨v, by omega, v2, v3⟩
    · rw [cnt_f p] at h1
      obtain ⟨v, v1, v2, v3⟩ := ih k h0 h1
      exact ⟨v, by omega, v2, v3⟩
def stp (g : G) (lw : LW) (a : Int) : Int → Prop := fun v => (sc g lw a v).1 ≠ 0
/-- where the number x leads from a -/
def GoIs (g : G) (lw : LW) (a x v : Int) : Prop := (cnt (stp g lw a) (gn g).toNat = 0 ∧ v = a) ∨ (cnt (stp g lw a) (gn g).toNat ≠ 0 ∧ (0 ≤ v ∧ v < gn g) ∧ stp g lw a v ∧ cnt (stp g lw a) v.toNat = x % cnt (stp g lw a) (gn g).toNat)
theorem GoIs.uniq {g : G} {lw : LW} {a x v v' : Int} (h : GoIs g lw a x v) (k : GoIs g lw a x v') : v = v' := by
  rcases h with ⟨h1, h2⟩ | ⟨h1, h2, h3, h4⟩
  · rcases k with ⟨k1, k2⟩ | ⟨k1, k2, k3, k4⟩
    · rw [h2, k2]
    · exact absurd h1 k1
  · rcases k with ⟨k1, k2⟩ | ⟨k1, k2, k3, k4⟩
    · exact absurd k1 h1
    · rcases Int.lt_trichotomy v v' with z | z | z
      · have e1 := cnt_ti (P := stp g lw a) h2.1 h3
        have e2 := cnt_le (P := stp g lw a) (v + 1).toNat v'.toNat (by omega)
        omega
      · exact z
      · have e1 := cnt_ti (P := stp g lw a) k2.1 k3
        have e2 := cnt_le (P := stp g lw a) (v' + 1).toNat v.toNat (by omega)
        omega
noncomputable def goW (g : G) (lw : LW) (a x : Int) : Int := @dite _ (∃ v, GoIs g lw a x v) (Classical.propDecidable _) (fun hx => Classical.choose hx) (fun _ => a)
theorem goW_of {g : G} {lw : LW} {a x v : Int} (h : GoIs g lw a x v) : goW g lw a x = v := by
  have hx : ∃ v, GoIs g lw a x v := ⟨v, h⟩
  unfold goW
  rw [dif_pos hx]
  exact (Classical.choose_spec hx).uniq h
theorem go_ex (g : G) (lw : LW) (a x : Int) : ∃ v, GoIs g lw a x v := by
  by_cases z : cnt (stp g lw a) (gn g).toNat = 0
  · exact ⟨a, Or.inl ⟨z, rfl⟩⟩
  · have cb := cnt_b (stp g lw a) (gn g).toNat
    obtain ⟨v, v1, v2, v3⟩ := nth_ex (P := stp g lw a) (gn g).toNat (x % cnt (stp g lw a) (gn g).toNat) (Int.emod_nonneg _ z) (Int.emod_lt_of_pos _ (by omega))
    exact ⟨v, Or.inr ⟨z, by omega, v2, v3⟩⟩
theorem goW_is (g : G) (lw : LW) (a x : Int) : GoIs g lw a x (goW g lw a x) := by
  obtain ⟨v, hv⟩ := go_ex g lw a x
  rw [goW_of hv]; exact hv
theorem goW_b {g : G} {lw : LW} {a x : Int} (a0 : 0 ≤ a) (a1 : a < gn g) : 0 ≤ goW g lw a x ∧ goW g lw a x < gn g := by
  rcases goW_is g lw a x with ⟨_, h⟩ | ⟨_, h, _⟩
  · rw [h]; exact ⟨a0, a1⟩
  · exact h
def nxX (x : Int) : Int := (25173 * x + 13849) % 65536
/-- the number and the word after k drawings -/
noncomputable def drI (g : G) (lw : LW) (x w : Int) : Nat → Int × Int
  | 0 => (x, w)
  | k + 1 => (nxX (drI g lw x w k).1, goW g lw (drI g lw x w k).2 (nxX (drI g lw x w k).1))
theorem drI_b {g : G} {lw : LW} {x w : Int} (hx : 0 ≤ x ∧ x ≤ 65535) (w0 : 0 ≤ w) (w1 : w < gn g) : ∀ k : Nat, (0 ≤ (drI g lw x w k).1 ∧ (drI g lw x w k).1 ≤ 65535) ∧ (0 ≤ (drI g lw x w k).2 ∧ (drI g lw x w k).2 < gn g)
  | 0 => ⟨hx, ⟨w0, w1⟩⟩
  | k + 1 => by
    have ih := drI_b (lw := lw) hx w0 w1 k
    refine ⟨?_, goW_b ih.2.1 ih.2.2⟩
    show 0 ≤ nxX _ ∧ nxX _ ≤ 65535
    unfold nxX
    omega
/-- v has been come to within k drawings -/
def been (g : G) (lw : LW) (x w : Int) (k : Nat) : Int → Prop := fun v => ∃ j, j ≤ k ∧ (drI g lw x w j).2 = v
section DR
variable {d : Nat} {g : G} {lw : LW} {h : AH} {K : Int → AH → Prop}
theorem mStepsFrom (hd : 1 < d) {a : Int} (r : RepM g h) (l : LaidM g lw h) (a0 : 0 ≤ a) (a1 : a < gn g) (k : K (cnt (stp g lw a) (gn g).toNat) h) : Call d M_M_stepsFrom [vR 12 (-1), vI a] h K := by
  have nb := r.ok.nb
  refine c_M_stepsFrom 1 hd ?_
  have key : ∀ m : Nat, ∀ v2 v3 : Int, 0 ≤ v3 → v3 ≤ gn g → gn g - v3 < m → v2 = cnt (stp g lw a) v3.toNat → A_M_stepsFrom_4 1 K a v2 v3 h := by
    intro m
    induction m with
    | zero => intro v2 v3 x1 x2 e; omega
    | succ m ih =>
      intro v2 v3 x1 x2 e t
      have cb := cnt_b (stp g lw a) v3.toNat
      refine s_M_stepsFrom_4 ?_
      rw [r.n]
      refine ⟨fun c => by rw [t, show v3 = gn g by omega]; exact k, fun c => mIsStep (by decide) r l a0 a1 x1 c (fun hs => ?_) (fun hn => ?_)⟩
      · rw [if_neg (by decide)]
        exact ⟨ii (by omega), ii (by omega), ih _ (v3 + 1) (by omega) (by omega) (by omega) (by rw [cnt_ti (P := stp g lw a) x1 hs, t])⟩
      · rw [if_pos rfl]
        exact ⟨ii (by omega), ii (by omega), ih _ (v3 + 1) (by omega) (by omega) (by omega) (by rw [cnt_fi (P := stp g lw a) x1 (fun z => z hn), t, Int.add_zero])⟩
  exact key 41 0 0 (by decide) (by omega) (by omega) rfl
theorem mStepTo (hd : 1 < d) {a x v : Int} (r : RepM g h) (l : LaidM g lw h) (a0 : 0 ≤ a) (a1 : a < gn g) (v0 : 0 ≤ v) (v1 : v < gn g) (hv : stp g lw a v) (hc : cnt (stp g lw a) v.toNat = x) (k : K v h) : Call d M_M_stepTo [vR 12 (-1), vI a, vI x] h K := by
  have nb := r.ok.nb
  have cbv := cnt_b (stp g lw a) v.toNat
  refine c_M_stepTo 1 hd ?_
  have key : ∀ m : Nat, ∀ v3 v4 : Int, 0 ≤ v4 → v4 ≤ v → v - v4 < m → v3 = x - cnt (stp g lw a) v4.toNat → A_M_stepTo_5 1 K a v3 v4 h := by
    intro m
    induction m with
    | zero => intro v3 v4 x1 x2 e; omega
    | succ m ih =>
      intro v3 v4 x1 x2 e t
      have cb := cnt_b (stp g lw a) v4.toNat
      refine s_M_stepTo_5 (mIsStep (by decide) r l a0 a1 x1 (by omega) (fun hs => br1 ⟨fun c => ?_, fun c => ?_⟩) (fun hn => br0 ?_))
      · have : v4 = v := by
          by_cases z : v4 = v
          · exact z
          · have e1 := cnt_ti (P := stp g lw a) x1 hs
            have e2 := cnt_le (P := stp g lw a) (v4 + 1).toNat v.toNat (by omega)
            omega
        rw [this]; exact k
      · have hne : v4 ≠ v := fun z => by rw [z] at t; omega
        refine s_M_stepTo_19 (mIsStep (by decide) r l a0 a1 x1 (by omega) (fun _ => br1 ⟨ii (by omega), ii (by omega), ih _ (v4 + 1) (by omega) (by omega) (by omega) ?_⟩) (fun hn => absurd hn hs))
        rw [cnt_ti (P := stp g lw a) x1 hs, t]; omega
      · have hne : v4 ≠ v := fun z => by rw [z] at hn; exact hv hn
        refine s_M_stepTo_19 (mIsStep (by decide) r l a0 a1 x1 (by omega) (fun hs => absurd hn hs) (fun _ => br0 ⟨ii (by omega), ih _ (v4 + 1) (by omega) (by omega) (by omega) ?_⟩))
        rw [cnt_fi (P := stp g lw a) x1 (fun z => z hn), t]
  exact key ((gn g).toNat + 1) x 0 (by decide) v0 (by omega) (by rw [show (0 : Int).toNat = 0 from rfl]; show x = x - 0; omega)
theorem cGoneTo (hd : 1 < d) {a x : Int} (r : RepCW g h) (l : LaidC g lw h) (a0 : 0 ≤ a) (a1 : a < gn g) (x0 : 0 ≤ x) (k : K (goW g lw a x) h) : Call d M_Steps_goneTo [vR 6 (-1), vI a, vI x] h K := by
  have nb := r.ok.nb
  obtain ⟨⟨N, hN, e35⟩, -⟩ := l a a0 a1
  have hp : pop N 40 = cnt (stp g lw a) (gn g).toNat := pop_cnt (fun w => by
    by_cases hw : w < 40
    · exact hN.2 w hw
    · exact ⟨fun z => absurd (bit40 hN.1 z) hw, fun z => by omega⟩) nb.1 nb.2
  have cb := cnt_b (stp g lw a) (gn g).toNat
  refine c_Steps_goneTo 1 hd ⟨ib (by omega), ?_⟩
  rw [e35]
  refine jLBit (by decide) hN.1 ?_
  rw [hp]
  have gi := goW_is g lw a x
  refine ⟨fun hne => ⟨hne, ?_⟩, fun hz => ?_⟩
  · rcases gi with ⟨z, _⟩ | ⟨_, g1, g2, g3⟩
    · exact absurd z hne
    · rw [Int.tmod_eq_emod_of_nonneg x0]
      generalize x % cnt (stp g lw a) (gn g).toNat = y at g3
      generalize goW g lw a x = v at g1 g2 g3 k
      have cbv := cnt_b (stp g lw a) v.toNat
      have key : ∀ m : Nat, ∀ v4 v5 : Int, 0 ≤ v5 → v5 ≤ v → v - v5 < m → v4 = y - cnt (stp g lw a) v5.toNat → A_Steps_goneTo_24 1 K a v4 v5 h := by
        intro m
        induction m with
        | zero => intro v4 v5 x1 x2 e; omega
        | succ m ih =>
          intro v4 v5 x1 x2 e t
          have cb5 := cnt_b (stp g lw a) v5.toNat
          have le5 := cnt_le (P := stp g lw a) v5.toNat v.toNat (by omega)
          refine s_Steps_goneTo_24 ?_
          rw [r.n]
          refine ⟨fun c => by omega, fun c => cLeads (by decide) r l a0 a1 x1 c (fun hs => br1 ⟨fun c2 => ⟨ii (by omega), ii (by omega), ih _ (v5 + 1) (by omega) ?_ (by omega) ?_⟩, fun c2 => ?_⟩) (fun hn => br0 ⟨ii (by omega), ih _ (v5 + 1) (by omega) ?_ (by omega) ?_⟩)⟩
          · have hne : v5 ≠ v := fun z => by rw [z] at t; omega
            omega
          · rw [cnt_ti (P := stp g lw a) x1 hs, t]; omega
          · have : v5 = v := by
              by_cases z : v5 = v
              · exact z
              · have e1 := cnt_ti (P := stp g lw a) x1 hs
                have e2 := cnt_le (P := stp g lw a) (v5 + 1).toNat v.toNat (by omega)
                omega
            rw [this]; exact k
          · have hne : v5 ≠ v := fun z => by rw [z] at hn; exact g2 hn
            omega
          · rw [cnt_fi (P := stp g lw a) x1 (fun z => z hn), t]
      exact key ((gn g).toNat + 1) y 0 (by decide) g1.1 (by omega) (by rw [show (0 : Int).toNat = 0 from rfl]; show y = y - 0; omega)
  · rcases gi with ⟨_, z⟩ | ⟨z, _⟩
    · rw [z] at k; exact k
    · exact absurd hz z
theorem been_next {g : G} {lw : LW} {x w v : Int} {k : Nat} : been g lw x w (k + 1) v ↔ been g lw x w k v ∨ (drI g lw x w (k + 1)).2 = v := by
  constructor
  · rintro ⟨j, j1, j2⟩
    by_cases z : j = k + 1
    · rw [z] at j2; exact Or.inr j2
    · exact Or.inl ⟨j, by omega, j2⟩
  · rintro (⟨j, j1, j2⟩ | z)
    · exact ⟨j, by omega, j2⟩
    · exact ⟨k + 1, Nat.le_refl _, z⟩
theorem mDraw (hd : 5 < d) {w n q x : Int} (r : RepM g h) (rl : RepML lw h) (ex : h.1 12 1 = x) (hx : 0 ≤ x ∧ x ≤ 65535) (k0 : ¬ ((0 ≤ w ∧ w < gn g) ∧ (1 ≤ n ∧ n ≤ 60) ∧ 0 ≤ q ∧ q ≤ 1) → K (-1) h) (k2 : (0 ≤ w ∧ w < gn g) ∧ (1 ≤ n ∧ n ≤ 60) ∧ 0 ≤ q ∧ q ≤ 1 → ¬ us g w → K (-2) h) (k : ∀ h', (0 ≤ w ∧ w < gn g) ∧ (1 ≤ n ∧ n ≤ 60) ∧ 0 ≤ q ∧ q ≤ 1 → us g w → h'.1 12 1 = (drI g lw x w n.toNat).1 → Fr [76, 77, 78, 79, 80, 83] [(12, 1)] h h' → K (if q = 0 then (drI g lw x w n.toNat).2 else cnt (been g lw x w n.toNat) (gn g).toNat) h') : Call d M_M_draw [vR 12 (-1), vI w, vI n, vI q] h K := by
  have nb := r.ok.nb
  refine c_M_draw 5 hd (mIsWord (by decide) r (fun w0 w1 => br1 (mIn (by decide) (fun n0 n1 => br1 (mIn (by decide) (fun q0 q1 => br1' (mIsUsed (by decide) r w0 w1 (fun hu => br1' (mLaysSteps (by decide) r rl (fun hs ls fs => ?_))) (fun nu => br0' (k2 ⟨⟨w0, w1⟩, ⟨n0, n1⟩, q0, q1⟩ nu)))) (fun c => br0' (k0 (by omega))))) (fun c => br0 (k0 (by omega))))) (fun c => br0 (k0 (by omega))))
  have G : (0 ≤ w ∧ w < gn g) ∧ (1 ≤ n ∧ n ≤ 60) ∧ 0 ≤ q ∧ q ≤ 1 := ⟨⟨w0, w1⟩, ⟨n0, n1⟩, q0, q1⟩
  have rs := r.fr fs
  have exs : hs.1 12 1 = x := by rw [fs.i 12]; exact ex
  have fin : ∀ hh, Fr [83] [(12, 1)] hs hh → Fr [76, 77, 78, 79, 80, 83] [(12, 1)] h hh := fun hh ff => (fs.mono (by decide) (by decide)).trans (ff.mono (by decide) (by decide))
  have count : ∀ m : Nat, ∀ (v5 v6 : Int) (hh : AH), q ≠ 0 → 0 ≤ v6 → v6 ≤ gn g → gn g - v6 < m → Fr [83] [(12, 1)] hs hh → hh.1 12 1 = (drI g lw x w n.toNat).1 → (∀ v, 0 ≤ v → v < gn g → (been g lw x w n.toNat v → hh.1 83 v = 1) ∧ (¬ been g lw x w n.toNat v → hh.1 83 v = 0)) → v5 = cnt (been g lw x w n.toNat) v6.toNat → A_M_draw_172 5 K v5 v6 hh := by
    intro m
    induction m with
    | zero => intro v5 v6 hh hq x1 x2 e; omega
    | succ m ih =>
      intro v5 v6 hh hq x1 x2 e ff e1 s t
      have cb := cnt_b (been g lw x w n.toNat) v6.toNat
      refine s_M_draw_172 ?_
      rw [(rs.fr ff).n]
      refine ⟨fun c => ?_, fun c => ⟨ib (by omega), ?_⟩⟩
      · have kk := k hh G hu e1 (fin hh ff)
        rw [if_neg hq] at kk
        rw [t, show v6 = gn g by omega]; exact kk
      · by_cases hb : been g lw x w n.toNat v6
        · rw [if_neg (by rw [(s v6 x1 c).1 hb]; decide)]
          exact ⟨ii (by omega), ii (by omega), ih _ (v6 + 1) hh hq (by omega) (by omega) (by omega) ff e1 s (by rw [cnt_ti x1 hb, t])⟩
        · rw [if_pos ((s v6 x1 c).2 hb)]
          exact ⟨ii (by omega), ii (by omega), ih _ (v6 + 1) hh hq (by omega) (by omega) (by omega) ff e1 s (by rw [cnt_fi x1 hb, t, Int.add_zero])⟩
  have walk : ∀ m : Nat, ∀ (j : Nat) (hh : AH), (j : Int) ≤ n → n - j < m → Fr [83] [(12, 1)] hs hh → hh.1 12 1 = (drI g lw x w j).1 → (∀ v, 0 ≤ v → v < gn g → (been g lw x w j v → hh.1 83 v = 1) ∧ (¬ been g lw x w j v → hh.1 83 v = 0)) → A_M_draw_86 5 K n q (drI g lw x w j).2 j hh := by
    intro m
    induction m with
    | zero => intro j hh x1 e; omega
    | succ m ih =>
      intro j hh x1 e ff e1 s
      have db := drI_b (lw := lw) hx w0 w1 j
      refine s_M_draw_86 ⟨fun c => ?_, fun c => ?_⟩
      · have ej : j = n.toNat := by omega
        rw [ej] at e1 s ⊢
        refine ⟨fun hq => count 41 0 0 hh hq (by decide) (by omega) (by omega) ff e1 s rfl, fun hq => ?_⟩
        have kk := k hh G hu e1 (fin hh ff)
        rw [if_pos hq] at kk; exact kk
      · rw [e1]
        have ex' : Int.tmod (25173 * (drI g lw x w j).1 + 13849) 65536 = (drI g lw x w (j + 1)).1 := Int.tmod_eq_emod_of_nonneg (by omega)
        have db' := drI_b (lw := lw) hx w0 w1 (j + 1)
        rw [ex']
        have f1 : Fr [83] [(12, 1)] hs (wI hh 12 1 (drI g lw x w (j + 1)).1) := ff.trans (Fr.wI (Or.inr (by decide)))
        have q1 : (wI hh 12 1 (drI g lw x w (j + 1)).1).1 12 1 = (drI g lw x w (j + 1)).1 := rI_eq
        have rr := rs.fr f1
        have lr := ls.fr f1
        have gi := goW_is g lw (drI g lw x w j).2 (drI g lw x w (j + 1)).1
        have e2 : goW g lw (drI g lw x w j).2 (drI g lw x w (j + 1)).1 = (drI g lw x w (j + 1)).2 := rfl
        rw [e2] at gi
        have cb := cnt_b (stp g lw (drI g lw x w j).2) (gn g).toNat
        have tail : A_M_draw_143 5 K n q j (drI g lw x w (j + 1)).2 (wI hh 12 1 (drI g lw x w (j + 1)).1) := s_M_draw_143 ⟨ib (by omega), ii (by omega), by
          refine ih (j + 1) _ (by omega) (by omega) (f1.trans (Fr.wI (Or.inl (by decide)))) (by rw [rI_ne (by decide)]; exact q1) (fun v v0 v1 => ?_)
          by_cases z : v = (drI g lw x w (j + 1)).2
          · rw [z, rI_eq]
            exact ⟨fun _ => rfl, fun y => absurd (been_next.mpr (Or.inr rfl)) y⟩
          · rw [rI_nk z, rI_ne (by decide)]
            have := s v v0 v1
            exact ⟨fun y => this.1 ((been_next.mp y).elim id (fun u => absurd u.symm z)), fun y => this.2 (fun u => y (been_next.mpr (Or.inl u)))⟩⟩
        refine ⟨ii (by omega), ii (by omega), mStepsFrom (by decide) rr lr db.2.1 db.2.2 ⟨fun hne => ⟨hne, ?_⟩, fun hz => ?_⟩⟩
        · rw [q1, Int.tmod_eq_emod_of_nonneg db'.1.1]
          rcases gi with ⟨z, _⟩ | ⟨_, g1, g2, g3⟩
          · exact absurd z hne
          · exact mStepTo (by decide) rr lr db.2.1 db.2.2 g1.1 g1.2 g2 g3 tail
        · rcases gi with ⟨_, z⟩ | ⟨z, _⟩
          · rw [← z]; exact tail
          · exact absurd hz z
  have clear : ∀ m : Nat, ∀ (v4 : Int) (hh : AH), 0 ≤ v4 → v4 ≤ gn g → gn g - v4 < m → Fr [83] [(12, 1)] hs hh → hh.1 12 1 = x → (∀ v, 0 ≤ v → v < v4 → (v = w → hh.1 83 v = 1) ∧ (v ≠ w → hh.1 83 v = 0)) → A_M_draw_47 5 K w n q v4 hh := by
    intro m
    induction m with
    | zero => intro v4 hh x1 x2 e; omega
    | succ m ih =>
      intro v4 hh x1 x2 e ff e1 s
      refine s_M_draw_47 ?_
      rw [(rs.fr ff).n]
      refine ⟨fun c => walk (n.toNat + 1) 0 hh (by omega) (by omega) ff e1 (fun v v0 v1 => ?_), fun c => ?_⟩
      · have := s v v0 (by omega)
        have hbn : been g lw x w 0 v ↔ v = w := ⟨fun ⟨j, j1, j2⟩ => by rw [show j = 0 by omega] at j2; exact j2.symm, fun z => ⟨0, Nat.le_refl _, z.symm⟩⟩
        exact ⟨fun z => this.1 (hbn.mp z), fun z => this.2 (fun y => z (hbn.mpr y))⟩
      · refine ⟨ib (by omega), ?_, ii (by omega), ih (v4 + 1) _ (by omega) (by omega) (by omega) (ff.trans (Fr.wI (Or.inl (by decide)))) (by rw [rI_ne (by decide)]; exact e1) (fun v v0 v1 => ?_)⟩
        · split
          · exact Or.inr rfl
          · exact Or.inl rfl
        · by_cases z : v = v4
          · rw [z, rI_eq]
            exact ⟨fun y => if_pos y, fun y => if_neg y⟩
          · rw [rI_nk z]; exact s v v0 (by omega)
  exact clear 41 0 hs (by decide) nb.1 (by omega) Fr.refl exs (fun v v0 v1 => by omega)
/-- the walk of the class' draw, once its steps are laid -/
theorem cDrawLoop (hd : 1 < d) {w n q x : Int} (r : RepCW g h) (l : LaidC g lw h) (ex : h.1 0 10 = x) (hx : 0 ≤ x ∧ x ≤ 65535) (w0 : 0 ≤ w) (w1 : w < gn g) (n0 : 0 ≤ n) (n1 : n ≤ 60) (k : ∀ h', h'.1 0 10 = (drI g lw x w n.toNat).1 → Fr [] [(0, 10)] h h' → K (if q = 0 then (drI g lw x w n.toNat).2 else cnt (been g lw x w n.toNat) (gn g).toNat) h') : A_L_draw_65 d K n q w (lshl 1 w) 0 h := by
  have nb := r.ok.nb
  have walk : ∀ m : Nat, ∀ (j N : Nat) (hh : AH), (j : Int) ≤ n → n - j < m → Fr [] [(0, 10)] h hh → hh.1 0 10 = (drI g lw x w j).1 → N < 1099511627776 → (∀ v : Nat, N.testBit v = true ↔ been g lw x w j v) → A_L_draw_65 d K n q (drI g lw x w j).2 N j hh := by
    intro m
    induction m with
    | zero => intro j N hh x1 e; omega
    | succ m ih =>
      intro j N hh x1 e ff e1 hN s
      have db := drI_b (lw := lw) hx w0 w1 j
      refine s_L_draw_65 ⟨fun c => ?_, fun c => ?_⟩
      · have ej : j = n.toNat := by omega
        rw [ej] at e1 s ⊢
        have kk := k hh e1 ff
        refine ⟨fun hq => jLBit (by omega) hN ?_, fun hq => ?_⟩
        · rw [if_neg hq] at kk
          rw [pop_cnt (P := been g lw x w n.toNat) (n := gn g) (fun v => ⟨fun z => ⟨?_, (s v).mp z⟩, fun z => (s v).mpr z.2⟩) nb.1 nb.2]
          · exact kk
          · obtain ⟨i, _, i2⟩ := (s v).mp z
            have := (drI_b (lw := lw) hx w0 w1 i).2
            omega
        · rw [if_pos hq] at kk; exact kk
      · rw [e1]
        have ex' : iand (25173 * (drI g lw x w j).1 + 13849) 65535 = (drI g lw x w (j + 1)).1 := by
          obtain ⟨y, hy⟩ : ∃ y : Nat, 25173 * (drI g lw x w j).1 + 13849 = (y : Int) := ⟨(25173 * (drI g lw x w j).1 + 13849).toNat, by omega⟩
          show _ = (25173 * (drI g lw x w j).1 + 13849) % 65536
          rw [hy, show (65535 : Int) = ((2 ^ 16 - 1 : Nat) : Int) from rfl, iand_nat (by omega) (by decide), Nat.and_two_pow_sub_one_eq_mod]
          omega
        have db' := drI_b (lw := lw) hx w0 w1 (j + 1)
        rw [ex']
        have f1 : Fr [] [(0, 10)] h (wI hh 0 10 (drI g lw x w (j + 1)).1) := ff.trans (Fr.wI (Or.inr (by decide)))
        refine ⟨ii (by omega), ii (by omega), cGoneTo hd (r.fr f1) (l.fr f1) db.2.1 db.2.2 db'.1.1 ⟨ii (by omega), ?_⟩⟩
        have e2 : goW g lw (drI g lw x w j).2 (drI g lw x w (j + 1)).1 = (drI g lw x w (j + 1)).2 := rfl
        rw [e2]
        have lo := lor1 hN db'.2.1 (by omega)
        rw [lo.1]
        have := ih (j + 1) _ _ (by omega) (by omega) f1 rI_eq lo.2 (fun v => by
          rw [bit_or_test, s v, been_next]
          constructor
          · rintro (z | z)
            · exact Or.inl z
            · exact Or.inr (by omega)
          · rintro (z | z)
            · exact Or.inl z
            · exact Or.inr (by omega))
        exact this
  have e0 : lshl 1 w = ((1 <<< w.toNat : Nat) : Int) := by
    have := (lor1 (N := 0) (by decide) w0 (show w < 40 by omega)).1
    have h2 := lshl_nat (a := 1) (s := w.toNat) (by have := shl_le (s := w.toNat) (by omega); omega) (by omega)
    rw [Int.toNat_of_nonneg w0] at h2
    exact h2
  rw [e0]
  refine walk (n.toNat + 1) 0 _ h (by omega) (by omega) Fr.refl ex (shl_le (by omega)) (fun v => ?_)
  rw [one_bit]
  constructor
  · intro z
    exact ⟨0, Nat.le_refl _, show w = (v : Int) by omega⟩
  · rintro ⟨j, j1, j2⟩
    rw [show j = 0 by omega] at j2
    have j2 : w = (v : Int) := j2
    omega
end DR

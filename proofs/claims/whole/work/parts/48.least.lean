/-! least weights as a function; the next word on a least way -/
/-- the least weight of a way; -1: there is none -/
noncomputable def wd (g : G) (lw : LW) (a b : Int) : Int := @dite _ (∃ x, IsD (eW g lw) (UW g) a b x) (Classical.propDecidable _) (fun hx => Classical.choose hx) (fun _ => -1)
theorem wd_of {g : G} {lw : LW} {a b x : Int} (h : IsD (eW g lw) (UW g) a b x) : wd g lw a b = x := by
  have hx : ∃ x, IsD (eW g lw) (UW g) a b x := ⟨x, h⟩
  unfold wd
  rw [dif_pos hx]
  exact IsD.uniq (Classical.choose_spec hx) h
theorem wd_no {g : G} {lw : LW} {a b : Int} (h : NoWay (eW g lw) (UW g) a b) : wd g lw a b = -1 := by
  unfold wd
  rw [dif_neg]
  rintro ⟨x, ⟨n, p⟩, -⟩
  exact h n x p
theorem IsD.nn {g : G} {lw : LW} {a b x : Int} (h : IsD (eW g lw) (UW g) a b x) : 0 ≤ x := by
  obtain ⟨⟨n, p⟩, -⟩ := h
  exact (Pw.weight (fun a b => (sc_b g lw a b).1) p).1
theorem wd_is {g : G} {lw : LW} {a b : Int} (h : wd g lw a b ≠ -1) : IsD (eW g lw) (UW g) a b (wd g lw a b) := by
  by_cases hx : ∃ x, IsD (eW g lw) (UW g) a b x
  · obtain ⟨x, p⟩ := hx
    rw [wd_of p]
    exact p
  · unfold wd at h
    rw [dif_neg hx] at h
    exact absurd rfl h
theorem IsD.short {g : G} (ok : OkG g) {lw : LW} {a b x : Int} (h : IsD (eW g lw) (UW g) a b x) : ∃ n : Nat, n < 40 ∧ Pw (eW g lw) (UW g) a b n x ∧ x % 64 = n ∧ x ≤ 247143 := by
  obtain ⟨⟨n, p⟩, mn⟩ := h
  obtain ⟨n', x', q1, q2, q3⟩ := Pw.light ok.nb.2 (fun a b => (sc_b g lw a b).1) (fun v hv => hv.1) p
  have e : x' = x := by have := mn n' x' q3; omega
  subst e
  obtain ⟨c, hc⟩ := Pw.mod q3
  have := Pw.length_weight q3 (fun a b => (sc_b g lw a b).2)
  exact ⟨n', q1, q3, by omega, by omega⟩
theorem wd_b {g : G} (ok : OkG g) (lw : LW) (a b : Int) : -1 ≤ wd g lw a b ∧ wd g lw a b ≤ 247143 := by
  by_cases h : wd g lw a b = -1
  · omega
  · have p := wd_is h
    obtain ⟨n, -, -, -, q⟩ := p.short ok
    have := p.nn
    omega
theorem wd_self {g : G} {lw : LW} {a : Int} (a0 : 0 ≤ a) (a1 : a < gn g) (u : us g a) : wd g lw a a = 0 := wd_of ⟨⟨0, rfl, ⟨⟨a0, a1⟩, u⟩, rfl⟩, fun n y h => (Pw.weight (fun a b => (sc_b g lw a b).1) h).1⟩
theorem wd_us {g : G} {lw : LW} {a b : Int} (h : wd g lw a b ≠ -1) : UW g a ∧ UW g b := by
  obtain ⟨⟨n, p⟩, -⟩ := wd_is h
  exact Pw.ends p
theorem WayIs.wd {g : G} (ok : OkG g) {lw : LW} {B a b x : Int} (h : WayIs g lw B a b x) (hB : 253480 < B) : (x < B ↔ wd g lw a b ≠ -1) ∧ (wd g lw a b ≠ -1 → x = wd g lw a b) ∧ (wd g lw a b = -1 → x = B) := by
  rcases h with ⟨h1, h2⟩ | ⟨h1, h2⟩
  · have := wd_no h2
    exact ⟨⟨fun z => by omega, fun z => absurd this z⟩, fun z => absurd this z, fun _ => h1⟩
  · have e := wd_of h2
    have := h2.nn
    exact ⟨⟨fun _ => by omega, fun _ => h1⟩, fun _ => e.symm, fun z => by omega⟩
/-- u comes next after a on a least way to b -/
def NextP (g : G) (lw : LW) (a b u : Int) : Prop := (sc g lw a u).1 ≠ 0 ∧ wd g lw u b ≠ -1 ∧ 64 * (sc g lw a u).1 + 1 + wd g lw u b = wd g lw a b
def OnIs (g : G) (lw : LW) (a b v : Int) : Prop := (0 ≤ v ∧ v < gn g) ∧ NextP g lw a b v ∧ ∀ u, 0 ≤ u → u < v → ¬ NextP g lw a b u
theorem OnIs.uniq {g : G} {lw : LW} {a b v v' : Int} (h : OnIs g lw a b v) (k : OnIs g lw a b v') : v = v' := by
  by_cases q : v < v'
  · exact absurd h.2.1 (k.2.2 v h.1.1 q)
  · by_cases q2 : v' < v
    · exact absurd k.2.1 (h.2.2 v' k.1.1 q2)
    · omega
theorem next_ex {g : G} {lw : LW} {a b : Int} (hab : a ≠ b) (h : wd g lw a b ≠ -1) : ∃ u, (0 ≤ u ∧ u < gn g) ∧ NextP g lw a b u := by
  obtain ⟨⟨n, p⟩, mn⟩ := wd_is h
  match n, p with
  | 0, p => exact absurd p.1 hab
  | n + 1, p =>
    obtain ⟨ha, w, y, h1, h2, h3⟩ := p
    have hw : IsD (eW g lw) (UW g) w b y := ⟨⟨n, h2⟩, fun m y' q => by
      have := mn (m + 1) (64 * eW g lw a w + 1 + y') ⟨ha, w, y', h1, q, rfl⟩
      omega⟩
    have e := wd_of hw
    have := hw.nn
    exact ⟨w, (Pw.ends h2).1.1, h1, by omega, by rw [e]; exact h3.symm⟩
theorem least_nat {P : Int → Prop} {n : Int} : ∀ (k : Nat) (v : Int), v < k → 0 ≤ v → P v → ∃ u, (0 ≤ u ∧ u ≤ v) ∧ P u ∧ ∀ w, 0 ≤ w → w < u → ¬ P w
  | 0, v, h1, h2, _ => by omega
  | k + 1, v, h1, h2, h3 => by
    by_cases q : ∃ w, (0 ≤ w ∧ w < v) ∧ P w
    · obtain ⟨w, w1, w2⟩ := q
      obtain ⟨u, u1, u2⟩ := least_nat (n := n) k w (by omega) w1.1 w2
      exact ⟨u, by omega, u2⟩
    · exact ⟨v, ⟨h2, by omega⟩, h3, fun w w0 w1 p => q ⟨w, ⟨w0, w1⟩, p⟩⟩
theorem on_ex {g : G} {lw : LW} {a b : Int} (hab : a ≠ b) (h : wd g lw a b ≠ -1) : ∃ v, OnIs g lw a b v := by
  obtain ⟨u, u1, u2⟩ := next_ex hab h
  obtain ⟨v, v1, v2, v3⟩ := least_nat (n := 0) (u.toNat + 1) u (by omega) u1.1 u2
  exact ⟨v, ⟨v1.1, by omega⟩, v2, v3⟩
noncomputable def on (g : G) (lw : LW) (a b : Int) : Int := @dite _ (∃ v, OnIs g lw a b v) (Classical.propDecidable _) (fun hx => Classical.choose hx) (fun _ => a)
theorem on_of {g : G} {lw : LW} {a b v : Int} (h : OnIs g lw a b v) : on g lw a b = v := by
  have hx : ∃ v, OnIs g lw a b v := ⟨v, h⟩
  unfold on
  rw [dif_pos hx]
  exact OnIs.uniq (Classical.choose_spec hx) h
noncomputable def onIt (g : G) (lw : LW) (b : Int) : Nat → Int → Int
  | 0, a => a
  | k + 1, a => onIt g lw b k (on g lw a b)
/-- the next word is a step nearer -/
theorem OnIs.nearer {g : G} (ok : OkG g) {lw : LW} {a b v : Int} (h : OnIs g lw a b v) (hw : wd g lw a b ≠ -1) : wd g lw v b ≠ -1 ∧ wd g lw a b % 64 = wd g lw v b % 64 + 1 := by
  obtain ⟨n, n1, -, n3, -⟩ := (wd_is h.2.1.2.1).short ok
  have := h.2.1.2.2
  exact ⟨h.2.1.2.1, by omega⟩
/-- the answer to least, for two words with a way between -/
noncomputable def leastA (g : G) (lw : LW) (a b p : Int) : Int := if p = -1 then wd g lw a b / 64 else if p = 40 then wd g lw a b % 64 else if p ≤ wd g lw a b % 64 then onIt g lw b p.toNat a else -1
section LE
variable {d : Nat} {g : G} {lw : LW} {h : AH} {K : Int → AH → Prop}
theorem mLeastOf (hd : 0 < d) {a b : Int} (ok : OkG g) (w : WaysM g lw h) (a0 : 0 ≤ a) (a1 : a < gn g) (b0 : 0 ≤ b) (b1 : b < gn g) (k : K (if wd g lw a b = -1 then 1000000000 else wd g lw a b / 64) h) : Call d M_M_leastOf [vR 12 (-1), vI a, vI b] h K := by
  have nb := ok.nb
  obtain ⟨q1, q2, q3⟩ := (w a b a0 a1 b0 b1).wd ok (by decide)
  have wb := wd_b ok lw a b
  refine c_M_leastOf 0 hd ⟨ii (by omega), ii (by omega), ib (by omega), fun c => ?_, fun c => ?_⟩
  · have z := q1.mp c
    rw [if_neg z] at k
    have e := q2 z
    have et : Int.tdiv (h.1 81 (40 * a + b)) 64 = wd g lw a b / 64 := by rw [e]; exact Int.tdiv_eq_ediv_of_nonneg (by omega)
    rw [et]
    exact ⟨ii (by omega), k⟩
  · have z : wd g lw a b = -1 := by
      by_cases y : wd g lw a b = -1
      · exact y
      · have := q1.mpr y; omega
    rw [if_pos z] at k
    exact k
theorem mNextOn (hd : 2 < d) {a b v : Int} (r : RepM g h) (l : LaidM g lw h) (w : WaysM g lw h) (a0 : 0 ≤ a) (a1 : a < gn g) (b0 : 0 ≤ b) (b1 : b < gn g) (hw : wd g lw a b ≠ -1) (ho : OnIs g lw a b v) (k : K v h) : Call d M_M_nextOn [vR 12 (-1), vI a, vI b] h K := by
  have nb := r.ok.nb
  refine c_M_nextOn 2 hd ?_
  have key : ∀ m : Nat, ∀ v3 : Int, 0 ≤ v3 → v3 ≤ v → v - v3 < m → A_M_nextOn_2 2 K a b v3 h := by
    intro m
    induction m with
    | zero => intro v3 x1 x2 e; omega
    | succ m ih =>
      intro v3 x1 x2 e
      have hv := ho.1
      have wb := wd_b r.ok lw v3 b
      have wb2 := wd_b r.ok lw a b
      have sb := sc_b g lw a v3
      obtain ⟨q1, q2, q3⟩ := (w v3 b x1 (by omega) b0 b1).wd r.ok (by decide)
      have ea := ((w a b a0 a1 b0 b1).wd r.ok (by decide)).2.1 hw
      refine s_M_nextOn_2 (mStepWay (by decide) r l a0 a1 x1 (by omega) ⟨ii (by omega), ii (by omega), ib (by omega), ?_⟩)
      have p0 : 0 ≤ h.1 81 (40 * v3 + b) := by
        by_cases z : wd g lw v3 b = -1
        · rw [q3 z]; decide
        · rw [q2 z]; omega
      have st0 : 0 ≤ (if (sc g lw a v3).1 = 0 then 1000000000 else 64 * (sc g lw a v3).1 + 1) := by split <;> omega
      have skip : ¬ NextP g lw a b v3 → inI (v3 + 1) ∧ A_M_nextOn_2 2 K a b (v3 + 1) h := by
        intro hn
        have : v3 ≠ v := fun z => hn (by rw [z]; exact ho.2.1)
        exact ⟨ii (by omega), ih (v3 + 1) (by omega) (by omega) (by omega)⟩
      refine mSum (by decide) st0 p0 (fun hz => ⟨ii (by omega), ii (by omega), ib (by omega), fun c => ?_, fun c => skip (fun hn => ?_)⟩) (fun z1 z2 => ⟨ii (by omega), ii (by omega), ib (by omega), fun c => ?_, fun c => skip (fun hn => ?_)⟩)
      · omega
      · rw [if_neg hn.1, q2 hn.2.1] at hz; omega
      · have z : (sc g lw a v3).1 ≠ 0 := fun z => by rw [if_pos z] at z1; omega
        have z3 := q1.mp z2
        rw [if_neg z, q2 z3, ea] at c
        by_cases hvv : v3 < v
        · exact absurd ⟨z, z3, c⟩ (ho.2.2 v3 x1 hvv)
        · have : v3 = v := by omega
          rw [this]; exact k
      · rw [if_neg hn.1, q2 hn.2.1, ea] at c
        exact c hn.2.2
  have hv := ho.1
  exact key (v.toNat + 1) 0 (by decide) hv.1 (by omega)
theorem mLeast (hd : 6 < d) {a b p : Int} (r : RepM g h) (rl : RepML lw h) (k : ∀ h', Fr [76, 77, 78, 79, 80, 81] [] h h' → K (if ¬ (0 ≤ a ∧ a < gn g) ∨ ¬ (0 ≤ b ∧ b < gn g) ∨ ¬ (-1 ≤ p ∧ p ≤ 40) then -1 else if wd g lw a b = -1 then -2 else leastA g lw a b p) h') : Call d M_M_least [vR 12 (-1), vI a, vI b, vI p] h K := by
  have nb := r.ok.nb
  refine c_M_least 6 hd (mIsWord (by decide) r (fun a0 a1 => br1 (mIsWord (by decide) r (fun b0 b1 => br1 (mIn (by decide) (fun p0 p1 => br1' ?_) (fun c => br0' ?_))) (fun c => br0 ?_))) (fun c => br0 ?_))
  · refine mLaysWays (by decide) r rl (fun h' w l f => ?_)
    have rr := r.fr f
    have k := k h' f
    rw [if_neg (by omega)] at k
    obtain ⟨q1, q2, q3⟩ := (w a b a0 a1 b0 b1).wd r.ok (by decide)
    have wb := wd_b r.ok lw a b
    refine ⟨ii (by omega), ii (by omega), ib (by omega), fun c => ?_, fun c => ?_⟩
    · have hw := q1.mp c
      rw [if_neg hw] at k
      have e := q2 hw
      have et : Int.tdiv (h'.1 81 (40 * a + b)) 64 = wd g lw a b / 64 := by rw [e]; exact Int.tdiv_eq_ediv_of_nonneg (by omega)
      have em : Int.tmod (h'.1 81 (40 * a + b)) 64 = wd g lw a b % 64 := by rw [e]; exact Int.tmod_eq_emod_of_nonneg (by omega)
      rw [et, em]
      unfold leastA at k
      refine ⟨fun c1 => ⟨fun c2 => ⟨fun c3 => ?_, fun c3 => ?_⟩, fun c2 => ?_⟩, fun c1 => ?_⟩
      · rw [if_neg c1, if_neg c2, if_pos c3] at k
        have key : ∀ m : Nat, ∀ (v5 v6 : Int), 0 ≤ v6 → v6 ≤ p → p - v6 < m → wd g lw v5 b ≠ -1 → p - v6 ≤ wd g lw v5 b % 64 → K (onIt g lw b (p - v6).toNat v5) h' → A_M_least_95 6 K b p v5 v6 h' := by
          intro m
          induction m with
          | zero => intro v5 v6 x1 x2 e; omega
          | succ m ih =>
            intro v5 v6 x1 x2 e hv hl kk
            refine s_M_least_95 ⟨fun c4 => ?_, fun c4 => ?_⟩
            · rw [show (p - v6).toNat = 0 by omega] at kk
              exact kk
            · have u5 := (wd_us hv).1
              have ub := (wd_us hv).2
              have hne : v5 ≠ b := fun z => by
                rw [z, wd_self ub.1.1 ub.1.2 ub.2] at hl
                omega
              obtain ⟨v, ho⟩ := on_ex hne hv
              refine mNextOn (by decide) rr l w u5.1.1 u5.1.2 b0 b1 hv ho ⟨ii (by omega), ?_⟩
              have nn := ho.nearer r.ok hv
              refine ih v (v6 + 1) (by omega) (by omega) (by omega) nn.1 (by omega) ?_
              rw [show (p - v6).toNat = (p - (v6 + 1)).toNat + 1 by omega] at kk
              have kk2 : K (onIt g lw b (p - (v6 + 1)).toNat (on g lw v5 b)) h' := kk
              rw [on_of ho] at kk2
              exact kk2
        exact key (p.toNat + 1) a 0 (by decide) (by omega) (by omega) hw (by omega) (by rw [Int.sub_zero]; exact k)
      · rw [if_neg c1, if_neg c2, if_neg (by omega)] at k
        exact k
      · rw [if_neg c1, if_pos c2] at k
        exact k
      · rw [if_pos c1] at k
        exact ⟨ii (by omega), k⟩
    · have z : wd g lw a b = -1 := by
        by_cases y : wd g lw a b = -1
        · exact y
        · have := q1.mpr y; omega
      rw [if_pos z] at k
      exact k
  all_goals (have k := k h Fr.refl; rw [if_pos (by omega)] at k; exact k)
end LE

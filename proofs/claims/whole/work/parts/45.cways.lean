/-! the class' ways -/
def WaysC (g : G) (lw : LW) (h : AH) : Prop := ∀ a b, 0 ≤ a → a < gn g → 0 ≤ b → b < gn g → WayIs g lw 536870912 a b (h.2.2 36 a b)
/-- of all twos between which there is a way those (f, t) of which the way costs most, c; f = -1: no two have one -/
def FarIs (g : G) (lw : LW) (B : Int → Int → Prop) (c f t : Int) : Prop :=
  (f = -1 ∧ t = -1 ∧ c = 0 ∧ ∀ a b, B a b → a ≠ b → NoWay (eW g lw) (UW g) a b) ∨
  (0 ≤ f ∧ (B f t ∧ f ≠ t) ∧ (∃ x, IsD (eW g lw) (UW g) f t x ∧ c = x / 64) ∧ 0 < c ∧ ∀ a b, B a b → a ≠ b → ∀ x, IsD (eW g lw) (UW g) a b x → x / 64 < c ∨ (x / 64 = c ∧ (f < a ∨ (f = a ∧ t ≤ b))))
def inR (g : G) : Int → Int → Prop := fun a b => (0 ≤ a ∧ a < gn g) ∧ (0 ≤ b ∧ b < gn g)
theorem WayIs.nn {g : G} {lw : LW} {B a b x : Int} (hB : 0 ≤ B) (w : WayIs g lw B a b x) : 0 ≤ x ∧ x ≤ B := by
  rcases w with ⟨rfl, -⟩ | ⟨h1, ⟨n, h2⟩, -⟩
  · exact ⟨hB, Int.le_refl _⟩
  · have := (Pw.weight (fun a b => (sc_b g lw a b).1) h2).1
    omega
/-- between two different words a way costs something -/
theorem IsD.pos {g : G} {lw : LW} {a b x : Int} (hab : a ≠ b) (w : IsD (eW g lw) (UW g) a b x) : 65 ≤ x := by
  obtain ⟨⟨n, h⟩, -⟩ := w
  match n, h with
  | 0, h => exact absurd h.1 hab
  | n + 1, h =>
    obtain ⟨_, w, y, q1, q2, q3⟩ := h
    have p1 := (Pw.weight (fun a b => (sc_b g lw a b).1) q2).1
    have p2 := (sc_b g lw a w).1
    have p3 : x = 64 * (sc g lw a w).1 + 1 + y := q3
    have p4 : (sc g lw a w).1 ≠ 0 := q1
    omega
section WC
variable {d : Nat} {g : G} {lw : LW} {h : AH} {K : Int → AH → Prop}
theorem WaysC.fr {L : List Nat} {F : List (Nat × Int)} {h' : AH} (r : WaysC g lw h) (f : Fr L F h h') (h1 : 36 ∉ L := by decide) (h2 : 36 ∉ F.map Prod.fst := by decide) : WaysC g lw h' := fun a b a0 a1 b0 b1 => by
  rw [f.r 36 h1 h2]
  exact r a b a0 a1 b0 b1
theorem cStepCost (hd : 1 < d) {a b : Int} (r : RepCW g h) (l : LaidC g lw h) (a0 : 0 ≤ a) (a1 : a < gn g) (b0 : 0 ≤ b) (b1 : b < gn g) (k : K (sc g lw a b).1 h) : Call d M_Steps_costOf [vR 6 (-1), vI a, vI b] h K := by
  have nb := r.ok.nb
  refine c_Steps_costOf 1 hd (wHas (by decide) r (fun _ _ => br1 (wHas (by decide) r (fun _ _ => br1 ⟨ib (by omega), ib (by omega), ?_⟩) (fun c => absurd ⟨b0, b1⟩ c))) (fun c => absurd ⟨a0, a1⟩ c))
  rw [((l a a0 a1).2 b b0 b1).1]
  exact k
theorem cLeads (hd : 0 < d) {a b : Int} (r : RepCW g h) (l : LaidC g lw h) (a0 : 0 ≤ a) (a1 : a < gn g) (b0 : 0 ≤ b) (b1 : b < gn g) (kT : (sc g lw a b).1 ≠ 0 → K 1 h) (kF : (sc g lw a b).1 = 0 → K 0 h) : Call d M_Steps_leads [vR 6 (-1), vI a, vI b] h K := by
  have nb := r.ok.nb
  obtain ⟨⟨N, n1, n2⟩, -⟩ := l a a0 a1
  refine c_Steps_leads 0 hd ⟨ib (by omega), ?_⟩
  obtain ⟨n, hn⟩ : ∃ n : Nat, b = (n : Int) := ⟨b.toNat, by omega⟩
  rw [n2, hn, bit_and n1.1 (by omega)]
  have e := n1.2 n (by omega)
  rw [← hn] at e
  by_cases ht : N.testBit n = true
  · rw [if_pos ht]
    exact br1 (kT (e.mp ht).2)
  · rw [if_neg ht]
    refine br0 (kF ?_)
    by_cases hz : (sc g lw a b).1 = 0
    · exact hz
    · exact absurd (e.mpr ⟨b1, hz⟩) ht
theorem cIsWay (hd : 0 < d) {a b : Int} (ok : OkG g) (w : WaysC g lw h) (a0 : 0 ≤ a) (a1 : a < gn g) (b0 : 0 ≤ b) (b1 : b < gn g) (kT : h.2.2 36 a b < 536870912 → IsD (eW g lw) (UW g) a b (h.2.2 36 a b) → K 1 h) (kF : NoWay (eW g lw) (UW g) a b → K 0 h) : Call d M_Ways_isWay [vR 7 (-1), vI a, vI b] h K := by
  have nb := ok.nb
  have q := w a b a0 a1 b0 b1
  refine c_Ways_isWay 0 hd ⟨ib (by omega), ib (by omega), fun c => ?_, fun c => ?_⟩
  · rcases q with ⟨_, z⟩ | ⟨z, _⟩
    · exact kF z
    · omega
  · rcases q with ⟨z, _⟩ | ⟨_, z⟩
    · omega
    · exact kT c z
theorem cWCost (hd : 0 < d) {a b : Int} (ok : OkG g) (w : WaysC g lw h) (a0 : 0 ≤ a) (a1 : a < gn g) (b0 : 0 ≤ b) (b1 : b < gn g) (k : K (h.2.2 36 a b / 64) h) : Call d M_Ways_costOf [vR 7 (-1), vI a, vI b] h K := by
  have nb := ok.nb
  have q := (w a b a0 a1 b0 b1).nn (by decide)
  refine c_Ways_costOf 0 hd ⟨ib (by omega), ib (by omega), ?_⟩
  rw [Int.tdiv_eq_ediv_of_nonneg q.1]
  exact ⟨ii (by omega), k⟩
theorem cStart (hd : 2 < d) (r : RepCW g h) (l : LaidC g lw h) (k : ∀ h', (∀ a b, 0 ≤ a → a < gn g → 0 ≤ b → b < gn g → TabI (eW g lw) (UW g) 0 536870912 a b (h'.2.2 36 a b)) → Fr [36] [] h h' → K 0 h') : Call d M_Ways_startWeights [vR 7 (-1)] h K := by
  have nb := r.ok.nb
  refine c_Ways_startWeights 2 hd ?_
  have key : ∀ m : Nat, ∀ (v1 v2 : Int) (hh : AH), 0 ≤ v1 → v1 < gn g → 0 ≤ v2 → v2 ≤ gn g → (gn g - v1) * 41 - v2 < m →
      (∀ a b, 0 ≤ a → a < v1 → 0 ≤ b → b < gn g → TabI (eW g lw) (UW g) 0 536870912 a b (hh.2.2 36 a b)) →
      (∀ b, 0 ≤ b → b < v2 → hh.2.2 36 v1 b = if (sc g lw v1 b).1 = 0 then 536870912 else 64 * (sc g lw v1 b).1 + 1) → Fr [36] [] h hh → A_Ways_startWeights_15 2 K v1 v2 hh := by
    intro m
    induction m with
    | zero => intro v1 v2 hh x1 x2 x3 x4 e; omega
    | succ m ih =>
      intro v1 v2 hh x1 x2 x3 x4 e t cur f
      have rr := r.fr f
      have ll := l.fr f
      refine s_Ways_startWeights_15 ?_
      rw [rr.n]
      refine ⟨fun c => ?_, fun c => cStepCost (by decide) rr ll x1 x2 x3 c ⟨ib (by omega), fun hz => ?_, fun hz => ⟨ib (by omega), ii (by omega), ?_⟩⟩⟩
      · have next : ∀ h', (∀ a b, 0 ≤ a → a < v1 + 1 → 0 ≤ b → b < gn g → TabI (eW g lw) (UW g) 0 536870912 a b (h'.2.2 36 a b)) → Fr [36] [] h h' → A_Ways_startWeights_2 2 K (v1 + 1) h' := by
          intro h' t' f'
          refine s_Ways_startWeights_2 ?_
          rw [(r.fr f').n]
          exact ⟨fun c2 => k h' (fun a b a0 a1 b0 b1 => t' a b a0 (by omega) b0 b1) f', fun c2 => ih (v1 + 1) 0 h' (by omega) c2 (by omega) (by omega) (by omega) t' (fun b b0 b1 => by omega) f'⟩
        refine wIsUsed (by decide) rr (fun _ _ ua => br1 ⟨ib (by omega), ii (by omega), next _ (fun a b a0 a1 b0 b1 => ?_) (f.trans (Fr.wR (by decide)))⟩) (fun nu => br0 ⟨ii (by omega), next hh (fun a b a0 a1 b0 b1 => ?_) f⟩)
        · by_cases ha : a = v1
          · subst ha
            by_cases hb : b = a
            · subst hb
              have e0 : (wR hh 36 b b 0).2.2 36 b b = 0 := by simp [wR]
              rw [e0]
              exact TabI.start b0 b1 b0 b1 (by decide) (fun _ _ => rfl) (fun z => absurd ⟨rfl, ua⟩ z)
            · rw [rR_nk (by omega), cur b b0 (by omega)]
              exact TabI.start a0 x2 b0 b1 (by decide) (fun z _ => absurd z.symm hb) (fun _ => rfl)
          · rw [rR_nk (by omega)]
            exact t a b a0 (by omega) b0 b1
        · by_cases ha : a = v1
          · subst ha
            rw [cur b b0 (by omega)]
            exact TabI.start a0 x2 b0 b1 (by decide) (fun _ z => absurd ⟨a0, x2, z⟩ nu) (fun _ => rfl)
          · exact t a b a0 (by omega) b0 b1
      · have cb := sc_b g lw v1 v2
        refine ⟨ii (by omega), ii (by omega), ib (by omega), ii (by omega), ih v1 (v2 + 1) _ x1 x2 (by omega) (by omega) (by omega) (fun a b a0 a1 b0 b1 => by rw [rR_nk (by omega)]; exact t a b a0 a1 b0 b1) (fun b b0 b1 => ?_) (f.trans (Fr.wR (by decide)))⟩
        by_cases hb : b = v2
        · subst hb
          rw [if_neg hz]; simp [wR]
        · rw [rR_nk (by omega)]; exact cur b b0 (by omega)
      · refine ih v1 (v2 + 1) _ x1 x2 (by omega) (by omega) (by omega) (fun a b a0 a1 b0 b1 => by rw [rR_nk (by omega)]; exact t a b a0 a1 b0 b1) (fun b b0 b1 => ?_) (f.trans (Fr.wR (by decide)))
        by_cases hb : b = v2
        · subst hb
          rw [if_pos hz]; simp [wR]
        · rw [rR_nk (by omega)]; exact cur b b0 (by omega)
  refine s_Ways_startWeights_2 ?_
  rw [r.n]
  exact ⟨fun c => k h (fun a b a0 a1 => by omega) Fr.refl, fun c => key ((gn g) * 41 + 1).toNat 0 0 h (by decide) c (by decide) (by omega) (by omega) (fun a b a0 a1 => by omega) (fun b b0 b1 => by omega) Fr.refl⟩
theorem cFar (hd : 1 < d) (r : RepCW g h) (w : WaysC g lw h) (k : ∀ h', FarIs g lw (inR g) (h'.1 7 11) (h'.1 7 9) (h'.1 7 10) → Fr [] [(7, 9), (7, 10), (7, 11)] h h' → K 0 h') : Call d M_Ways_findFarTwo [vR 7 (-1)] h K := by
  have nb := r.ok.nb
  refine c_Ways_findFarTwo 1 hd ?_
  have key : ∀ m : Nat, ∀ (v1 v2 : Int) (hh : AH), 0 ≤ v1 → v1 < gn g → 0 ≤ v2 → v2 ≤ gn g → (gn g - v1) * 41 - v2 < m →
      FarIs g lw (fun a b => inR g a b ∧ (a < v1 ∨ (a = v1 ∧ b < v2))) (hh.1 7 11) (hh.1 7 9) (hh.1 7 10) → Fr [] [(7, 9), (7, 10), (7, 11)] h hh → A_Ways_findFarTwo_30 1 K v1 v2 hh := by
    intro m
    induction m with
    | zero => intro v1 v2 hh x1 x2 x3 x4 e; omega
    | succ m ih =>
      intro v1 v2 hh x1 x2 x3 x4 e t f
      have rr := r.fr f
      have ww := w.fr f
      refine s_Ways_findFarTwo_30 ?_
      rw [rr.n]
      refine ⟨fun c => ⟨ii (by omega), s_Ways_findFarTwo_17 ?_⟩, fun c => ?_⟩
      · have ext : FarIs g lw (fun a b => inR g a b ∧ (a < v1 + 1)) (hh.1 7 11) (hh.1 7 9) (hh.1 7 10) := by
          rcases t with ⟨t1, t2, t3, t4⟩ | ⟨t1, t2, t3, t4, t5⟩
          · exact Or.inl ⟨t1, t2, t3, fun a b z hab => t4 a b ⟨z.1, by have := z.1.2; have := z.2; omega⟩ hab⟩
          · exact Or.inr ⟨t1, ⟨⟨t2.1.1, by have := t2.1.2; omega⟩, t2.2⟩, t3, t4, fun a b z hab => t5 a b ⟨z.1, by have := z.1.2; have := z.2; omega⟩ hab⟩
        rw [rr.n]
        refine ⟨fun c2 => k hh ?_ f, fun c2 => ih (v1 + 1) 0 hh (by omega) c2 (by omega) (by omega) (by omega) ?_ f⟩
        · rcases ext with ⟨t1, t2, t3, t4⟩ | ⟨t1, t2, t3, t4, t5⟩
          · exact Or.inl ⟨t1, t2, t3, fun a b z hab => t4 a b ⟨z, by have := z.1; omega⟩ hab⟩
          · exact Or.inr ⟨t1, ⟨t2.1.1, t2.2⟩, t3, t4, fun a b z hab => t5 a b ⟨z, by have := z.1; omega⟩ hab⟩
        · rcases ext with ⟨t1, t2, t3, t4⟩ | ⟨t1, t2, t3, t4, t5⟩
          · exact Or.inl ⟨t1, t2, t3, fun a b z hab => t4 a b ⟨z.1, by have := z.1.2; have := z.2; omega⟩ hab⟩
          · exact Or.inr ⟨t1, ⟨⟨t2.1.1, by have := t2.1.2; omega⟩, t2.2⟩, t3, t4, fun a b z hab => t5 a b ⟨z.1, by have := z.1.2; have := z.2; omega⟩ hab⟩
      · have hin : inR g v1 v2 := ⟨⟨x1, x2⟩, ⟨x3, c⟩⟩
        have skip : (v1 ≠ v2 → NoWay (eW g lw) (UW g) v1 v2 ∨ ∃ x, IsD (eW g lw) (UW g) v1 v2 x ∧ x / 64 ≤ hh.1 7 11) → inI (v2 + 1) ∧ A_Ways_findFarTwo_30 1 K v1 (v2 + 1) hh := by
          intro hs
          refine ⟨ii (by omega), ih v1 (v2 + 1) hh x1 x2 (by omega) (by omega) (by omega) ?_ f⟩
          rcases t with ⟨t1, t2, t3, t4⟩ | ⟨t1, t2, t3, t4, t5⟩
          · refine Or.inl ⟨t1, t2, t3, fun a b z hab => ?_⟩
            by_cases hq : a = v1 ∧ b = v2
            · rw [hq.1, hq.2] at hab ⊢
              rcases hs hab with p | ⟨x, p1, p2⟩
              · exact p
              · have := IsD.pos hab p1
                omega
            · exact t4 a b ⟨z.1, by have := z.2; omega⟩ hab
          · refine Or.inr ⟨t1, ⟨⟨t2.1.1, by have := t2.1.2; omega⟩, t2.2⟩, t3, t4, fun a b z hab x hx => ?_⟩
            by_cases hq : a = v1 ∧ b = v2
            · rw [hq.1, hq.2] at hab hx
              rcases hs hab with p | ⟨x2, p1, p2⟩
              · obtain ⟨⟨n, q1⟩, -⟩ := hx
                exact absurd q1 (p n x)
              · have e2 := IsD.uniq hx p1
                have q := t2.1.2
                rw [e2, hq.1, hq.2]
                omega
            · exact t5 a b ⟨z.1, by have := z.2; omega⟩ hab x hx
        refine ⟨fun c2 => skip (fun z => absurd c2 z), fun c2 => cIsWay (by decide) r.ok ww x1 x2 x3 c (fun hl hD => br1 ?_) (fun hn => br0 (skip (fun _ => Or.inl hn)))⟩
        refine cWCost (by decide) r.ok ww x1 x2 x3 c ⟨fun c3 => skip (fun _ => Or.inr ⟨_, hD, c3⟩), fun c3 => ?_⟩
        have f2 : Fr [] [(7, 9), (7, 10), (7, 11)] h (wI (wI hh 7 9 v1) 7 10 v2) := (f.trans (Fr.wI (Or.inr (by decide)))).trans (Fr.wI (Or.inr (by decide)))
        refine cWCost (by decide) r.ok (w.fr f2) x1 x2 x3 c ⟨ii (by omega), ih v1 (v2 + 1) _ x1 x2 (by omega) (by omega) (by omega) ?_ (f2.trans (Fr.wI (Or.inr (by decide))))⟩
        have e11 : (wI (wI (wI hh 7 9 v1) 7 10 v2) 7 11 ((wI (wI hh 7 9 v1) 7 10 v2).2.2 36 v1 v2 / 64)).1 7 11 = hh.2.2 36 v1 v2 / 64 := rI_eq
        have e9 : (wI (wI (wI hh 7 9 v1) 7 10 v2) 7 11 ((wI (wI hh 7 9 v1) 7 10 v2).2.2 36 v1 v2 / 64)).1 7 9 = v1 := by simp [wI]
        have e10 : (wI (wI (wI hh 7 9 v1) 7 10 v2) 7 11 ((wI (wI hh 7 9 v1) 7 10 v2).2.2 36 v1 v2 / 64)).1 7 10 = v2 := by simp [wI]
        rw [e11, e9, e10]
        have hp := IsD.pos c2 hD
        refine Or.inr ⟨x1, ⟨⟨hin, by omega⟩, c2⟩, ⟨_, hD, rfl⟩, by omega, fun a b z hab x hx => ?_⟩
        by_cases hq : a = v1 ∧ b = v2
        · rw [hq.1, hq.2] at hx ⊢
          have e2 := IsD.uniq hx hD
          rw [e2]
          exact Or.inr ⟨rfl, Or.inr ⟨rfl, Int.le_refl _⟩⟩
        · have z2 : a < v1 ∨ (a = v1 ∧ b < v2) := by have := z.2; omega
          rcases t with ⟨t1, t2, t3, t4⟩ | ⟨t1, t2, t3, t4, t5⟩
          · obtain ⟨⟨n, q1⟩, -⟩ := hx
            exact absurd q1 (t4 a b ⟨z.1, z2⟩ hab n x)
          · have := t5 a b ⟨z.1, z2⟩ hab x hx
            omega
  have f0 : Fr [] [(7, 9), (7, 10), (7, 11)] h (wI (wI (wI h 7 9 (-1)) 7 10 (-1)) 7 11 0) := ((Fr.wI (Or.inr (by decide))).trans (Fr.wI (Or.inr (by decide)))).trans (Fr.wI (Or.inr (by decide)))
  have b11 : (wI (wI (wI h 7 9 (-1)) 7 10 (-1)) 7 11 0).1 7 11 = 0 := rI_eq
  have b9 : (wI (wI (wI h 7 9 (-1)) 7 10 (-1)) 7 11 0).1 7 9 = -1 := by simp [wI]
  have b10 : (wI (wI (wI h 7 9 (-1)) 7 10 (-1)) 7 11 0).1 7 10 = -1 := by simp [wI]
  refine s_Ways_findFarTwo_17 ?_
  rw [(r.fr f0).n]
  refine ⟨fun c => k _ ?_ f0, fun c => key ((gn g) * 41 + 1).toNat 0 0 _ (by decide) c (by decide) (by omega) (by omega) ?_ f0⟩
  · rw [b11, b9, b10]
    exact Or.inl ⟨rfl, rfl, rfl, fun a b z => by have := z.1; omega⟩
  · rw [b11, b9, b10]
    exact Or.inl ⟨rfl, rfl, rfl, fun a b z => by have := z.2; have := z.1.1; have := z.1.2; omega⟩
end WC

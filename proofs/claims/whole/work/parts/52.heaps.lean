/-! the reference: heaps, the far two -/
theorem FarIs.uniq {g : G} {lw : LW} {B : Int → Int → Prop} {c f t c' f' t' : Int} (h : FarIs g lw B c f t) (k : FarIs g lw B c' f' t') : c = c' ∧ f = f' ∧ t = t' := by
  rcases h with ⟨h1, h2, h3, h4⟩ | ⟨h1, h2, ⟨x, h3, h4⟩, h5, h6⟩
  · rcases k with ⟨k1, k2, k3, k4⟩ | ⟨k1, k2, ⟨y, k3, k4⟩, k5, k6⟩
    · omega
    · obtain ⟨⟨n, p⟩, -⟩ := k3
      exact absurd p (h4 f' t' k2.1 k2.2 n y)
  · rcases k with ⟨k1, k2, k3, k4⟩ | ⟨k1, k2, ⟨y, k3, k4⟩, k5, k6⟩
    · obtain ⟨⟨n, p⟩, -⟩ := h3
      exact absurd p (k4 f t h2.1 h2.2 n x)
    · have q1 := h6 f' t' k2.1 k2.2 y k3
      have q2 := k6 f t h2.1 h2.2 x h3
      omega
theorem WayIs.has {g : G} {lw : LW} {B a b x : Int} (h : WayIs g lw B a b x) : x < B ↔ has g lw a b := by
  rcases h with ⟨h1, h2⟩ | ⟨h1, ⟨n, p⟩, -⟩
  · exact ⟨fun z => by omega, fun ⟨n, y, p⟩ => absurd p (h2 n y)⟩
  · exact ⟨fun _ => ⟨n, x, p⟩, fun _ => h1⟩
theorem heap_ex {g : G} {lw : LW} {w : Int} (h0 : 0 ≤ w) (h1 : w < gn g) (u : us g w) : ∃ v, HeapIs g lw w v := by
  obtain ⟨v, v1, v2, v3⟩ := least_nat (P := fun v => both g lw w v) (n := 0) (w.toNat + 1) w (by omega) h0 (both_self h0 h1 u)
  exact ⟨v, v1, v2, v3⟩
section MH
variable {d : Nat} {g : G} {lw : LW} {h : AH} {K : Int → AH → Prop}
theorem mHeapOf (hd : 0 < d) {a v : Int} (ok : OkG g) (w : WaysM g lw h) (a0 : 0 ≤ a) (a1 : a < gn g) (hv : HeapIs g lw a v) (k : K v h) : Call d M_M_heapOf [vR 12 (-1), vI a] h K := by
  have nb := ok.nb
  refine c_M_heapOf 0 hd ?_
  have hv1 := hv.1
  have key : ∀ m : Nat, ∀ v2 : Int, 0 ≤ v2 → v2 ≤ v → v - v2 < m → A_M_heapOf_2 0 K a v2 h := by
    intro m
    induction m with
    | zero => intro v2 x1 x2 e; omega
    | succ m ih =>
      intro v2 x1 x2 e
      have q1 := (w a v2 a0 a1 x1 (by omega)).has
      have q2 := (w v2 a x1 (by omega) a0 a1).has
      have skip : ¬ both g lw a v2 → inI (v2 + 1) ∧ A_M_heapOf_2 0 K a (v2 + 1) h := by
        intro hn
        have : v2 ≠ v := fun z => hn (by rw [z]; exact hv.2.1)
        exact ⟨ii (by omega), ih (v2 + 1) (by omega) (by omega) (by omega)⟩
      refine s_M_heapOf_2 ⟨ii (by omega), ii (by omega), ib (by omega), fun c => skip (fun z => by have := q1.mpr z.1; omega), fun c => ⟨ii (by omega), ii (by omega), ib (by omega), fun c2 => ?_, fun c2 => skip (fun z => by have := q2.mpr z.2; omega)⟩⟩
      by_cases hlt : v2 < v
      · exact absurd ⟨q1.mp c, q2.mp c2⟩ (hv.2.2 v2 x1 hlt)
      · have : v2 = v := by omega
        rw [this]; exact k
  exact key (v.toNat + 1) 0 (by decide) hv1.1 (by omega)
theorem mHeap (hd : 6 < d) {a : Int} (r : RepM g h) (rl : RepML lw h) (k0 : ¬ (0 ≤ a ∧ a < gn g) → K (-1) h) (k1 : 0 ≤ a → a < gn g → ¬ us g a → K (-2) h) (k2 : ∀ h' v, 0 ≤ a → a < gn g → us g a → HeapIs g lw a v → Fr [76, 77, 78, 79, 80, 81] [] h h' → K v h') : Call d M_M_heap [vR 12 (-1), vI a] h K := by
  refine c_M_heap 6 hd (mIsWord (by decide) r (fun a0 a1 => br1' (mIsUsed (by decide) r a0 a1 (fun u => br1' (mLaysWays (by decide) r rl (fun h' w l f => ?_))) (fun nu => br0' (k1 a0 a1 nu)))) (fun c => br0' (k0 c)))
  obtain ⟨v, hv⟩ := heap_ex (lw := lw) a0 a1 u
  exact mHeapOf (by decide) r.ok w a0 a1 hv (k2 h' v a0 a1 u hv f)
theorem mHeaps (hd : 6 < d) (r : RepM g h) (rl : RepML lw h) (k : ∀ h', Fr [76, 77, 78, 79, 80, 81] [] h h' → K (heapsN g lw) h') : Call d M_M_heaps [vR 12 (-1)] h K := by
  have nb := r.ok.nb
  refine c_M_heaps 6 hd (mLaysWays (by decide) r rl (fun h' w l f => ?_))
  have rr := r.fr f
  have key : ∀ m : Nat, ∀ v1 v2 : Int, 0 ≤ v2 → v2 ≤ gn g → gn g - v2 < m → v1 = cnt (fun w => us g w ∧ HeapIs g lw w w) v2.toNat → A_M_heaps_8 6 K v1 v2 h' := by
    intro m
    induction m with
    | zero => intro v1 v2 x1 x2 e; omega
    | succ m ih =>
      intro v1 v2 x1 x2 e hc
      have cb := cnt_b (fun w => us g w ∧ HeapIs g lw w w) v2.toNat
      have ev : ((v2.toNat : Nat) : Int) = v2 := by omega
      have e1 : (v2 + 1).toNat = v2.toNat + 1 := by omega
      refine s_M_heaps_8 ?_
      rw [rr.n]
      refine ⟨fun c => ?_, fun c => ?_⟩
      · have k := k h' f
        have e2 : v2 = gn g := by omega
        unfold heapsN at k
        rw [← e2, ← hc] at k
        exact k
      · have skip : ¬ (us g v2 ∧ HeapIs g lw v2 v2) → inI (v1 + 0) ∧ (inI (v2 + 1) ∧ A_M_heaps_8 6 K (v1 + 0) (v2 + 1) h') := fun hn => ⟨ii (by omega), ii (by omega), ih _ (v2 + 1) (by omega) (by omega) (by omega) (by rw [e1, cnt_f (by rw [ev]; exact hn), hc, Int.add_zero])⟩
        refine mIsUsed (by decide) rr x1 c (fun u => br1 ?_) (fun nu => br0 (skip (fun z => nu z.1)))
        obtain ⟨v, hv⟩ := heap_ex (lw := lw) x1 c u
        refine mHeapOf (by decide) r.ok w x1 c hv ⟨fun c2 => skip (fun z => c2 (hv.uniq z.2)), fun c2 => ⟨ii (by omega), ii (by omega), ih _ (v2 + 1) (by omega) (by omega) (by omega) ?_⟩⟩
        rw [e1, cnt_t (by rw [ev]; exact ⟨u, by rw [c2] at hv; exact hv⟩), hc]
  exact key ((gn g).toNat + 1) 0 0 (by decide) (by omega) (by omega) rfl
theorem mFar (hd : 6 < d) {p : Int} (r : RepM g h) (rl : RepML lw h) (k0 : ¬ (0 ≤ p ∧ p ≤ 2) → K (-1) h) (k1 : ∀ h' c f t, 0 ≤ p → p ≤ 2 → FarIs g lw (inR g) c f t → Fr [76, 77, 78, 79, 80, 81] [] h h' → K (if f = -1 then -2 else if p = 0 then c else if p = 1 then f else t) h') : Call d M_M_far [vR 12 (-1), vI p] h K := by
  have nb := r.ok.nb
  refine c_M_far 6 hd (mIn (by decide) (fun p0 p1 => br1' (mLaysWays (by decide) r rl (fun h' w l f => ?_))) (fun c => br0' (k0 c)))
  have rr := r.fr f
  have key : ∀ m : Nat, ∀ c v2 v3 v4 v5 v6 : Int, 0 ≤ v5 → v5 < gn g → 0 ≤ v6 → v6 ≤ gn g → (gn g - v5) * 41 - v6 < m → FarIs g lw (fun a b => inR g a b ∧ (a < v5 ∨ (a = v5 ∧ b < v6))) c v3 v4 → (v3 = -1 → v2 = -1) → (v3 ≠ -1 → v2 = c) → A_M_far_37 6 K p v2 v3 v4 v5 v6 h' := by
    intro m
    induction m with
    | zero => intro c v2 v3 v4 v5 v6 x1 x2 x3 x4 e; omega
    | succ m ih =>
      intro c v2 v3 v4 v5 v6 x1 x2 x3 x4 e t z1 z2
      refine s_M_far_37 ?_
      rw [rr.n]
      refine ⟨fun q => ⟨ii (by omega), s_M_far_25 ?_⟩, fun q => ?_⟩
      · rw [rr.n]
        have mono : ∀ B : Int → Int → Prop, (∀ a b, B a b ↔ (inR g a b ∧ (a < v5 ∨ (a = v5 ∧ b < v6)))) → FarIs g lw B c v3 v4 := by
          intro B hB
          rw [show B = (fun a b => inR g a b ∧ (a < v5 ∨ (a = v5 ∧ b < v6))) from funext (fun a => funext (fun b => propext (hB a b)))]
          exact t
        refine ⟨fun q2 => ?_, fun q2 => ih c v2 v3 v4 (v5 + 1) 0 (by omega) q2 (by decide) (by omega) (by omega) (mono _ (fun a b => ⟨fun z => ⟨z.1, by have := z.1; unfold inR at this; omega⟩, fun z => ⟨z.1, by omega⟩⟩)) z1 z2⟩
        have tt := mono (inR g) (fun a b => ⟨fun z => ⟨z, by unfold inR at z; omega⟩, fun z => z.1⟩)
        have k := k1 h' c v3 v4 p0 p1 tt f
        have fb : v3 = -1 ∨ (0 ≤ v3 ∧ 0 < c) := by
          rcases tt with ⟨t1, _⟩ | ⟨t1, _, _, t2, _⟩
          · exact Or.inl t1
          · exact Or.inr ⟨t1, t2⟩
        refine ⟨fun q3 => ?_, fun q3 => ?_⟩
        · have h3 : v3 ≠ -1 := fun z => q3 (z1 z)
          rw [if_neg h3] at k
          refine ⟨fun q4 => ⟨fun q5 => ?_, fun q5 => ?_⟩, fun q4 => ?_⟩
          · rw [if_neg q4, if_neg q5] at k; exact k
          · rw [if_neg q4, if_pos q5] at k; exact k
          · rw [if_pos q4] at k; rw [z2 h3]; exact k
        · have h3 : v3 = -1 := by
            rcases fb with z | z
            · exact z
            · have := z2 (by omega); omega
          rw [if_pos h3] at k
          exact k
      · have hin : inR g v5 v6 := ⟨⟨x1, x2⟩, ⟨x3, q⟩⟩
        have wb := wd_b r.ok lw v5 v6
        obtain ⟨y1, y2, y3⟩ := (w v5 v6 x1 x2 x3 q).wd r.ok (by decide)
        have skip : (v5 ≠ v6 → wd g lw v5 v6 = -1 ∨ (v3 ≠ -1 ∧ wd g lw v5 v6 / 64 ≤ c)) → inI (v6 + 1) ∧ A_M_far_37 6 K p v2 v3 v4 v5 (v6 + 1) h' := by
          intro hs
          refine ⟨ii (by omega), ih c v2 v3 v4 v5 (v6 + 1) x1 x2 (by omega) (by omega) (by omega) ?_ z1 z2⟩
          rcases t with ⟨t1, t2, t3, t4⟩ | ⟨t1, t2, t3, t4, t5⟩
          · refine Or.inl ⟨t1, t2, t3, fun a b z hab => ?_⟩
            by_cases hq : a = v5 ∧ b = v6
            · rw [hq.1, hq.2] at hab ⊢
              rcases hs hab with p | ⟨p, _⟩
              · intro n x hx
                have hh : has g lw v5 v6 := ⟨n, x, hx⟩
                have := y1.mp ((w v5 v6 x1 x2 x3 q).has.mpr hh)
                exact this p
              · exact absurd t1 p
            · exact t4 a b ⟨z.1, by have := z.2; omega⟩ hab
          · refine Or.inr ⟨t1, ⟨⟨t2.1.1, by have := t2.1.2; omega⟩, t2.2⟩, t3, t4, fun a b z hab x hx => ?_⟩
            by_cases hq : a = v5 ∧ b = v6
            · rw [hq.1, hq.2] at hab hx
              have e2 := wd_of hx
              have := hx.nn
              rcases hs hab with p | ⟨_, p⟩
              · omega
              · have qq := t2.1.2
                rw [hq.1, hq.2]
                omega
            · exact t5 a b ⟨z.1, by have := z.2; omega⟩ hab x hx
        refine ⟨fun q2 => skip (fun z => absurd q2 z), fun q2 => ⟨ii (by omega), ii (by omega), ib (by omega), fun q3 => skip (fun _ => Or.inl ?_), fun q3 => ?_⟩⟩
        · by_cases y : wd g lw v5 v6 = -1
          · exact y
          · have := y1.mpr y; omega
        · have hw := y1.mp q3
          have hD := wd_is hw
          have hp := IsD.pos q2 hD
          refine mLeastOf (by decide) r.ok w x1 x2 x3 q ⟨fun q4 => mLeastOf (by decide) r.ok w x1 x2 x3 q ?_, fun q4 => skip (fun _ => Or.inr ?_)⟩
          · rw [if_neg hw] at q4 ⊢
            refine ⟨ii (by omega), ih (wd g lw v5 v6 / 64) _ v5 v6 v5 (v6 + 1) x1 x2 (by omega) (by omega) (by omega) ?_ (fun z => by omega) (fun _ => rfl)⟩
            refine Or.inr ⟨x1, ⟨⟨hin, by omega⟩, q2⟩, ⟨_, hD, rfl⟩, by omega, fun a b z hab x hx => ?_⟩
            by_cases hq : a = v5 ∧ b = v6
            · rw [hq.1, hq.2] at hx ⊢
              have e2 := IsD.uniq hx hD
              rw [e2]
              exact Or.inr ⟨rfl, Or.inr ⟨rfl, Int.le_refl _⟩⟩
            · have hz : a < v5 ∨ (a = v5 ∧ b < v6) := by have := z.2; omega
              rcases t with ⟨t1, t2, t3, t4⟩ | ⟨t1, t2, t3, t4, t5⟩
              · obtain ⟨⟨n, q1⟩, -⟩ := hx
                exact absurd q1 (t4 a b ⟨z.1, hz⟩ hab n x)
              · have := t5 a b ⟨z.1, hz⟩ hab x hx
                have := z2 (by omega)
                omega
          · rw [if_neg hw] at q4
            have h3 : v3 ≠ -1 := fun z => by have := z1 z; omega
            have := z2 h3
            exact ⟨h3, by omega⟩
  refine s_M_far_25 ?_
  rw [rr.n]
  refine ⟨fun q => ?_, fun q => key ((gn g) * 41 + 1).toNat 0 (-1) (-1) (-1) 0 0 (by decide) q (by decide) (by omega) (by omega) (Or.inl ⟨rfl, rfl, rfl, fun a b z => by have := z.1; unfold inR at this; have := z.2; omega⟩) (fun _ => rfl) (fun z => absurd rfl z)⟩
  refine ⟨fun z => absurd rfl z, fun _ => ?_⟩
  have k := k1 h' 0 (-1) (-1) p0 p1 (Or.inl ⟨rfl, rfl, rfl, fun a b z => by unfold inR at z; omega⟩) f
  exact k
end MH

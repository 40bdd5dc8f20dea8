/-! the class: the largest set -/
section CCL
variable {d : Nat} {g : G} {h : AH} {K : Int → AH → Prop}
theorem cApart (hd : 2 < d) {a b : Int} (r : RepCW g h) (a0 : 0 ≤ a) (a1 : a < gn g) (b0 : 0 ≤ b) (b1 : b < gn g) (k : ∀ h', Fr [47] [] h h' → K (farW g (gt g a) (gl g a) b) h') : Call d M_Spelling_apart [vR 9 (-1), vI a, vI b] h K := by
  have nb := r.ok.nb
  have lb := r.ok.lb a0 a1
  refine c_Spelling_apart 2 hd ⟨ib (by omega), ?_⟩
  rw [r.1.l a0 a1]
  exact cApart_w (by decide) r (by omega) lb.2 a0 (by omega) (fun i i0 i1 => r.1.t a0 a1 i0 i1) b0 b1 k
theorem cTooNear (hd : 3 < d) {p : Int} {f : Int → Int} {t : Nat} {x : Int} (r : RepCW g h) (p1 : p ≤ 14) (to : ToldOk g f p) (tl : ∀ i, 0 ≤ i → i < p → h.1 48 i = f i) (ht : (t : Int) < p) (k : ∀ h' T, T < 2 ^ t → MaskP (fun i => RN g f x i t) t T → Fr [47] [] h h' → K (T : Int) h') : Call d M_Told_tooNearBefore [vR 10 (-1), vI (t : Int), vI x] h K := by
  refine c_Told_tooNearBefore 3 hd ?_
  have key : ∀ m : Nat, ∀ (v4 : Int) (T : Nat) (hh : AH), 0 ≤ v4 → v4 ≤ t → t - v4 < m → Fr [47] [] h hh → T < 2 ^ t → MaskP (fun i => RN g f x i t) v4 T → A_Told_tooNearBefore_5 3 K t x T v4 hh := by
    intro m
    induction m with
    | zero => intro v4 T hh x1 x2 e; omega
    | succ m ih =>
      intro v4 T hh x1 x2 e ff hT mk
      refine s_Told_tooNearBefore_5 ⟨fun c => k hh T hT (mk.full (by omega)) ff, fun c => ⟨ib (by omega), ib (by omega), ?_⟩⟩
      have ev : v4 = ((v4.toNat : Nat) : Int) := by omega
      rw [ff.i 48, ff.i 48, tl v4 x1 (by omega), tl t (by omega) ht]
      have b1 := (to v4 x1 (by omega)).1
      have b2 := (to t (by omega) ht).1
      have hR : RN g f x v4.toNat t ↔ farW g (gt g (f v4)) (gl g (f v4)) (f t) < x := by
        unfold RN
        rw [← ev]
      refine cApart (by decide) (r.fr ff) b1.1 b1.2 b2.1 b2.2 (fun h3 f3 => ⟨fun c2 => ⟨ii (by omega), ih (v4 + 1) T h3 (by omega) (by omega) (by omega) (ff.trans f3) hT (mk.skip x1 (fun z => by have := hR.mp z; omega))⟩, fun c2 => ⟨ii (by omega), ?_⟩⟩)
      rw [ior1 hT (by omega) x1 c]
      exact ih (v4 + 1) _ h3 (by omega) (by omega) (by omega) (ff.trans f3) (or_lt hT (by omega)) (mk.put x1 (hR.mpr c2))
  exact key (t + 1) 0 0 h (by decide) (by omega) (by omega) Fr.refl (Nat.two_pow_pos _) MaskP.start
def Tab53 (R : Nat → Nat → Prop) (m : Nat) (h : AH) : Prop := ∀ M : Nat, M < m → (ClearS R M → h.1 53 M = 1) ∧ (¬ ClearS R M → h.1 53 M = 0)
theorem cMostApart (hd : 4 < d) {p : Int} {f : Int → Int} {x : Int} (r : RepCW g h) (e10 : h.1 10 10 = p) (p0 : 1 ≤ p) (p1 : p ≤ 14) (to : ToldOk g f p) (tl : ∀ i, 0 ≤ i → i < p → h.1 48 i = f i) (k : ∀ h' (N : Nat), BestS (RN g f x) (2 ^ p.toNat) N → Fr [47, 53] [] h h' → K N h') : Call d M_Told_mostApart [vR 10 (-1), vI x] h K := by
  have hA2 : 2 ^ p.toNat ≤ 16384 := pow_le_k 14 (by omega)
  refine c_Told_mostApart 4 hd ?_
  have E10 : ∀ hh, Fr [47, 53] [] h hh → hh.1 10 10 = p := fun hh ff => by rw [ff.i 10]; exact e10
  have E48 : ∀ hh, Fr [47, 53] [] h hh → ∀ i, 0 ≤ i → i < p → hh.1 48 i = f i := fun hh ff i i0 i1 => by rw [ff.i 48]; exact tl i i0 i1
  have tops : ∀ m : Nat, ∀ (N t : Nat) (hh : AH), (t : Int) ≤ p → p - t < m → Fr [47, 53] [] h hh → Tab53 (RN g f x) (2 ^ t) hh → BestS (RN g f x) (2 ^ t) N → A_Told_mostApart_11 4 K x N t hh := by
    intro m
    induction m with
    | zero => intro N t hh x1 e; omega
    | succ m ih =>
      intro N t hh x1 e ff tb b
      refine s_Told_mostApart_11 ?_
      rw [E10 hh ff]
      refine ⟨fun c => k hh N (by rw [show p.toNat = t by omega]; exact b) ff, fun c => ?_⟩
      have hT2 : 2 ^ (t + 1) ≤ 2 ^ p.toNat := Nat.pow_le_pow_right (by decide) (by omega)
      have hTs : 2 ^ (t + 1) = 2 ^ t + 2 ^ t := by rw [Nat.pow_succ]; omega
      have es : ishl 1 (t : Int) = ((2 ^ t : Nat) : Int) := by rw [ish1 (by omega) (by omega), Nat.one_shiftLeft, Int.toNat_natCast]
      refine cTooNear (by decide) (r.fr ff) p1 to (E48 hh ff) c (fun h1 T hT mk f1 => ?_)
      have inner : ∀ m : Nat, ∀ (N S : Nat) (h3 : AH), S ≤ 2 ^ t → 2 ^ t - S < m → Fr [47, 53] [] h h3 → Tab53 (RN g f x) (2 ^ t + S) h3 → BestS (RN g f x) (2 ^ t + S) N → A_Told_mostApart_30 4 K x N t T S h3 := by
        intro m
        induction m with
        | zero => intro N S h3 y1 e; omega
        | succ m ih2 =>
          intro N S h3 y1 e2 f3 tb3 b3
          refine s_Told_mostApart_30 ?_
          rw [es]
          refine ⟨fun c2 => ⟨ii (by omega), ?_⟩, fun c2 => ?_⟩
          · have eS : S = 2 ^ t := by omega
            rw [eS, ← hTs] at tb3 b3
            have := ih N (t + 1) h3 (by omega) (by omega) f3 tb3 b3
            exact this
          · have hS : S < 2 ^ t := by omega
            have eo : ior (S : Int) ((2 ^ t : Nat) : Int) = ((2 ^ t + S : Nat) : Int) := by
              rw [ior_nat (by omega) (by omega), Nat.or_comm]
              have := or_low (a := 1) (b := S) (k := t) hS
              rw [Nat.one_shiftLeft, Nat.one_mul] at this
              rw [this]
            have eo2 : S ||| 1 <<< t = 2 ^ t + S := by
              rw [Nat.or_comm]
              have := or_low (a := 1) (b := S) (k := t) hS
              rw [Nat.one_mul] at this
              exact this
            rw [eo]
            have ct := clear_top (R := RN g f x) (fun i j z => z.sym) (N := S) (t := t) hS
            rw [eo2] at ct
            have tS := tb3 S (by omega)
            have z0 : iand (S : Int) (T : Int) = 0 ↔ ∀ i, S.testBit i = true → ¬ RN g f x i t := by
              rw [iand0 (by omega) (by omega)]
              constructor
              · intro z i hi hr
                refine z i ⟨hi, (mk i).mpr ⟨?_, hr⟩⟩
                rcases Nat.lt_or_ge i t with y | y
                · omega
                · rw [Nat.testBit_lt_two_pow (Nat.lt_of_lt_of_le hS (Nat.pow_le_pow_right (by decide) y))] at hi
                  exact absurd hi (by decide)
              · intro z i hi
                exact z i hi.1 ((mk i).mp hi.2).2
            have hV : ∀ V : Int, V = (if (h3.1 53 (S : Int)) = 0 then (0 : Int) else if (iand (S : Int) (T : Int)) = 0 then (1 : Int) else 0) → (ClearS (RN g f x) (2 ^ t + S) → V = 1) ∧ (¬ ClearS (RN g f x) (2 ^ t + S) → V = 0) := by
              intro V hV
              by_cases c3 : ClearS (RN g f x) S
              · rw [if_neg (by rw [tS.1 c3]; decide)] at hV
                by_cases c4 : iand (S : Int) (T : Int) = 0
                · rw [if_pos c4] at hV
                  exact ⟨fun _ => hV, fun z => absurd (ct.mpr ⟨c3, z0.mp c4⟩) z⟩
                · rw [if_neg c4] at hV
                  exact ⟨fun z => absurd (z0.mpr (ct.mp z).2) c4, fun _ => hV⟩
              · rw [if_pos (tS.2 c3)] at hV
                exact ⟨fun z => absurd (ct.mp z).1 c3, fun _ => hV⟩
            generalize (if (h3.1 53 (S : Int)) = 0 then (0 : Int) else if (iand (S : Int) (T : Int)) = 0 then (1 : Int) else 0) = V at hV
            have vv := hV V rfl
            have tb' : Tab53 (RN g f x) (2 ^ t + (S + 1)) (wI h3 53 ((2 ^ t + S : Nat) : Int) V) := fun M hM => by
              by_cases z : M = 2 ^ t + S
              · rw [z, rI_eq]; exact vv
              · rw [rI_nk (by omega)]; exact tb3 M (by omega)
            have f4 : Fr [47, 53] [] h (wI h3 53 ((2 ^ t + S : Nat) : Int) V) := f3.trans (Fr.wI (Or.inl (by decide)))
            refine ⟨ib (by omega), ib (by omega), ?_, fun c3 => ⟨ii (by omega), ?_⟩, fun c3 => ?_⟩
            · by_cases y : ClearS (RN g f x) (2 ^ t + S)
              · exact Or.inr (vv.1 y)
              · exact Or.inl (vv.2 y)
            · exact ih2 N (S + 1) _ (by omega) (by omega) f4 tb' (b3.keep (fun y => by have := vv.1 y; omega))
            · have y : ClearS (RN g f x) (2 ^ t + S) := Classical.byContradiction (fun z => c3 (vv.2 z))
              refine jIBit (by decide) (by omega) (jIBit (by decide) (by have := b3.1; omega) ⟨fun c4 => ⟨ii (by omega), ?_⟩, fun c4 => ⟨ii (by omega), ?_⟩⟩)
              · exact ih2 N (S + 1) _ (by omega) (by omega) f4 tb' (b3.keep (fun _ => c4))
              · exact ih2 (2 ^ t + S) (S + 1) _ (by omega) (by omega) f4 tb' (b3.take y c4)
      have ff1 := ff.trans (f1.mono (L2 := [47, 53]) (F2 := []) (by decide) (by decide))
      refine inner (2 ^ t + 1) N 0 h1 (by omega) (by omega) ff1 (fun M hM => ?_) (by rw [Nat.add_zero]; exact b)
      rw [f1.i 53]; exact tb M (by omega)
  exact tops (p.toNat + 1) 0 0 _ (by omega) (by omega) (Fr.wI (Or.inl (by decide))) (fun M hM => by
    rw [show M = 0 by have : M < 1 := hM; omega]
    exact ⟨fun _ => rI_eq, fun z => absurd (clear_zero _) z⟩) (best_one _)
end CCL

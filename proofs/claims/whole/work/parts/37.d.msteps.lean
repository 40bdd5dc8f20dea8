section MS
variable {d : Nat} {g : G} {lw : LW} {h : AH} {K : Int → AH → Prop}
theorem mCostOf (hd : 2 < d) {f : Nat → Int} (hf : ∀ j, j < 9 → inI (f j)) (r : RepML lw h) (q : FacM f h) (k : ∀ h', Fr [76] [] h h' → K (if costL f lw none = 0 then 1000000000 else costL f lw none) h') : Call d M_M_costOf [vR 12 (-1)] h K := mCostOf2 hd r q k
theorem mWithout (hd : 1 < d) {w p s : Int} (r : RepM g h) (w0 : 0 ≤ w) (w1 : w < gn g) (s0 : 0 ≤ s) (s1 : s < gn g) (hl : gl g w = gl g s + 1) (kT : withoutE g w p s → K 1 h) (kF : ¬ withoutE g w p s → K 0 h) : Call d M_M_isWithout [vR 12 (-1), vI w, vI p, vI s] h K := by
  have nb := r.ok.nb
  have lb := r.ok.lb s0 s1
  refine c_M_isWithout 1 hd ?_
  have key : ∀ m : Nat, ∀ v : Int, 0 ≤ v → v ≤ gl g s → gl g s - v < m → (∀ k, 0 ≤ k → k < v → gt g s k = gt g w (if k < p then k else k + 1)) → A_M_isWithout_3 1 K w p s v h := by
    intro m
    induction m with
    | zero => intro v a b e; omega
    | succ m ih =>
      intro v a b e hv
      refine s_M_isWithout_3 ?_
      rw [r.l s0 s1]
      have tail : ∀ x : Int, x = (if v < p then v else v + 1) → v < gl g s → A_M_isWithout_38 1 K w p s v (gt g s v) w x h := by
        intro x hx c
        have hx2 : 0 ≤ x ∧ x < gl g w := by
          rw [hx]
          split <;> omega
        refine s_M_isWithout_38 (mLetter (by decide) r w0 w1 hx2.1 hx2.2 ⟨fun c3 => ⟨ii (by omega), ih (v + 1) (by omega) (by omega) (by omega) (fun k y z => ?_)⟩, fun c3 => kF (fun z => c3 (by rw [hx]; exact z v a c))⟩)
        by_cases hk : k = v
        · rw [hk, c3, hx]
        · exact hv k y (by omega)
      refine ⟨ib (by omega), fun c => kT (fun k y z => hv k y (by omega)), fun c => mLetter (by decide) r s0 s1 a c ⟨fun c2 => ⟨ii (by omega), tail (v + 1) (by rw [if_neg (by omega)]) c⟩, fun c2 => tail v (by rw [if_pos c2]) c⟩⟩
  exact key ((gl g s).toNat + 1) 0 (by omega) (by omega) (by omega) (fun k y z => by omega)
theorem mAlikeB (hd : 1 < d) {a b p m : Int} (r : RepM g h) (a0 : 0 ≤ a) (a1 : a < gn g) (b0 : 0 ≤ b) (b1 : b < gn g) (hl : gl g b = gl g a) (hp : 0 ≤ p ∧ p ≤ 9) (hm : 0 ≤ m ∧ m ≤ 2) (kT : alikeB g a b p m → K 1 h) (kF : ¬ alikeB g a b p m → K 0 h) : Call d M_M_areAlikeBut [vR 12 (-1), vI a, vI b, vI p, vI m] h K := by
  have nb := r.ok.nb
  have lb := r.ok.lb a0 a1
  refine c_M_areAlikeBut 1 hd ?_
  have key : ∀ mm : Nat, ∀ v : Int, 0 ≤ v → v ≤ gl g a → gl g a - v < mm → (∀ k, 0 ≤ k → k < v → (k < p ∨ p + m ≤ k) → gt g a k = gt g b k) → A_M_areAlikeBut_3 1 K a b p m v h := by
    intro mm
    induction mm with
    | zero => intro v x y e; omega
    | succ mm ih =>
      intro v x y e hv
      refine s_M_areAlikeBut_3 ?_
      rw [r.l a0 a1]
      have tail : v < gl g a → (v < p ∨ p + m ≤ v) → A_M_areAlikeBut_29 1 K a b p m v h := fun c hc =>
        s_M_areAlikeBut_29 (mLetter (by decide) r a0 a1 x c (mLetter (by decide) r b0 b1 x (by omega) ⟨fun c3 => ⟨ii (by omega), ih (v + 1) (by omega) (by omega) (by omega) (fun k y z q => by
          by_cases hk : k = v
          · rw [hk]; exact c3
          · exact hv k y (by omega) q)⟩, fun c3 => kF (fun z => c3 (z v x c hc))⟩))
      exact ⟨ib (by omega), fun c => kT (fun k y z q => hv k y (by omega) q), fun c => ⟨fun c2 => tail c (Or.inl c2), fun c2 => ⟨ii (by omega), fun c3 => ⟨ii (by omega), ih (v + 1) (by omega) (by omega) (by omega) (fun k y z q => by
          by_cases hk : k = v
          · omega
          · exact hv k y (by omega) q)⟩, fun c3 => tail c (Or.inr c3)⟩⟩⟩
  exact key ((gl g a).toNat + 1) 0 (by omega) (by omega) (by omega) (fun k y z => by omega)
theorem mIsChange (hd : 2 < d) {a b κ i : Int} (r : RepM g h) (a0 : 0 ≤ a) (a1 : a < gn g) (b0 : 0 ≤ b) (b1 : b < gn g) (hκ : 0 ≤ κ ∧ κ ≤ 3) (hi : 0 ≤ i ∧ i ≤ 8) (kT : isCh g a b κ i → K 1 h) (kF : ¬ isCh g a b κ i → K 0 h) : Call d M_M_isChange [vR 12 (-1), vI a, vI b, vI κ, vI i] h K := by
  have nb := r.ok.nb
  have la := r.ok.lb a0 a1
  have lb := r.ok.lb b0 b1
  refine c_M_isChange 2 hd ⟨ib (by omega), ib (by omega), ?_⟩
  rw [r.l a0 a1, r.l b0 b1]
  have no : ∀ {P : Prop}, (P → False) → (P → K 1 h) := fun hP p => (hP p).elim
  refine ⟨ii (by omega), ?_, ?_, ?_, ?_⟩
  · intro hk
    refine ⟨fun c => kF ?_, fun c => ⟨fun c2 => kF ?_, fun c2 => ?_⟩⟩
    · rintro (z | z | z | z) <;> omega
    · rintro (z | z | z | z) <;> omega
    · refine mLetter (by decide) r a0 a1 hi.1 c2 (mLetter (by decide) r b0 b1 hi.1 (by omega) ⟨fun c3 => kF ?_, fun c3 => ?_⟩)
      · rintro (z | z | z | z)
        · exact z.2.2.2.1 c3
        all_goals omega
      · refine mAlikeB (by decide) r a0 a1 b0 b1 (by omega) (by omega) (by decide) (fun s => br1 (kT (Or.inl ⟨hk, c, ⟨hi.1, c2⟩, c3, s⟩))) (fun s => br0 (kF ?_))
        rintro (z | z | z | z)
        · exact s z.2.2.2.2
        all_goals omega
  · intro hk
    refine ⟨fun c => kF ?_, fun c => ⟨fun c2 => kF ?_, fun c2 => ?_⟩⟩
    · rintro (z | z | z | z) <;> omega
    · rintro (z | z | z | z) <;> omega
    · refine mWithout (by decide) r b0 b1 a0 a1 (by omega) (fun s => br1 (kT (Or.inr (Or.inl ⟨hk, c, ⟨hi.1, c2⟩, s⟩)))) (fun s => br0 (kF ?_))
      rintro (z | z | z | z)
      · omega
      · exact s z.2.2.2
      all_goals omega
  · intro hk
    refine ⟨fun c => kF ?_, fun c => ⟨fun c2 => kF ?_, fun c2 => ?_⟩⟩
    · rintro (z | z | z | z) <;> omega
    · rintro (z | z | z | z) <;> omega
    · refine mWithout (by decide) r a0 a1 b0 b1 (by omega) (fun s => br1 (kT (Or.inr (Or.inr (Or.inl ⟨hk, c, ⟨hi.1, c2⟩, s⟩))))) (fun s => br0 (kF ?_))
      rintro (z | z | z | z)
      · omega
      · omega
      · exact s z.2.2.2
      · omega
  · intro hk
    have hk3 : κ = 3 := by omega
    refine ⟨fun c => kF ?_, fun c => ⟨ii (by omega), fun c2 => kF ?_, fun c2 => ?_⟩⟩
    · rintro (z | z | z | z) <;> omega
    · rintro (z | z | z | z) <;> omega
    · refine mLetter (by decide) r a0 a1 hi.1 (by omega) (mLetter (by decide) r a0 a1 (by omega) (by omega) ⟨fun c3 => kF ?_, fun c3 => ?_⟩)
      · rintro (z | z | z | z)
        · omega
        · omega
        · omega
        · exact z.2.2.2.1 c3
      refine mLetter (by decide) r a0 a1 hi.1 (by omega) (mLetter (by decide) r b0 b1 (by omega) (by omega) ⟨fun c4 => kF ?_, fun c4 => ?_⟩)
      · rintro (z | z | z | z)
        · omega
        · omega
        · omega
        · exact c4 z.2.2.2.2.1
      refine mLetter (by decide) r a0 a1 (by omega) (by omega) (mLetter (by decide) r b0 b1 hi.1 (by omega) ⟨fun c5 => kF ?_, fun c5 => ?_⟩)
      · rintro (z | z | z | z)
        · omega
        · omega
        · omega
        · exact c5 z.2.2.2.2.2.1
      refine mAlikeB (by decide) r a0 a1 b0 b1 (by omega) (by omega) (by decide) (fun s => br1 (kT (Or.inr (Or.inr (Or.inr ⟨hk3, c, ⟨hi.1, c2⟩, c3, c4, c5, s⟩))))) (fun s => br0 (kF ?_))
      rintro (z | z | z | z)
      · omega
      · omega
      · omega
      · exact s z.2.2.2.2.2.2
end MS

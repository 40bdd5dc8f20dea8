/-! the reference's new word: is the row one change from a word -/
section MN1
variable {d : Nat} {g : G} {h : AH} {K : Int → AH → Prop}
theorem mIsRowWithout (hd : 1 < d) {w n p one : Int} {f : Int → Int} (r : RepM g h) (q : Row0 n f h) (h0 : 0 ≤ w) (h1 : w < gn g) (p0 : 0 ≤ p) (ho : (one = 0 ∧ n = gl g w + 1) ∨ (one = 1 ∧ n = gl g w - 1)) (kT : (one = 0 → ∀ k, 0 ≤ k → k < gl g w → gt g w k = f (if k < p then k else k + 1)) → (one = 1 → ∀ k, 0 ≤ k → k < n → f k = gt g w (if k < p then k else k + 1)) → K 1 h) (kF0 : one = 0 → ¬ (∀ k, 0 ≤ k → k < gl g w → gt g w k = f (if k < p then k else k + 1)) → K 0 h) (kF1 : one = 1 → ¬ (∀ k, 0 ≤ k → k < n → f k = gt g w (if k < p then k else k + 1)) → K 0 h) : Call d M_M_isRowWithout [vR 12 (-1), vI w, vI p, vI one] h K := by
  have nb := r.ok.nb
  have lb := r.ok.lb h0 h1
  obtain ⟨q1, q2, q3⟩ := q
  refine c_M_isRowWithout 1 hd ⟨fun z => ⟨ib (by omega), ?_⟩, fun z => ?_⟩
  · have hn : n = gl g w + 1 := by omega
    rw [r.l h0 h1]
    have key : ∀ m : Nat, ∀ v : Int, 0 ≤ v → gl g w - v < m → (∀ k, 0 ≤ k → k < v → gt g w k = f (if k < p then k else k + 1)) → A_M_isRowWithout_22 1 K w p one (gl g w) v h := by
      intro m
      induction m with
      | zero =>
        intro v a e hv
        exact s_M_isRowWithout_22 ⟨fun _ => kT (fun _ k x y => hv k x (by omega)) (fun y => by omega), fun c => by omega⟩
      | succ m ih =>
        intro v a e hv
        refine s_M_isRowWithout_22 ⟨fun _ => kT (fun _ k x y => hv k x (by omega)) (fun y => by omega), fun c => ?_⟩
        have go : ∀ s, s = (if v < p then v else v + 1) → A_M_isRowWithout_44 1 K w p one (gl g w) v s h := fun s hs => by
          have sb : 0 ≤ s ∧ s < n := by
            rw [hs]
            split <;> omega
          refine s_M_isRowWithout_44 ⟨fun _ => ⟨ib (by omega), mLetter (by decide) r h0 h1 a c ?_⟩, fun y => absurd z y⟩
          rw [q3 s sb.1 sb.2]
          refine ⟨fun c2 => ⟨ii (by omega), ih (v + 1) (by omega) (by omega) (fun k x y => ?_)⟩, fun c2 => kF0 z (fun y => c2 (by rw [hs]; exact (y v a c).symm))⟩
          by_cases hk : k = v
          · rw [hk, ← c2, hs]
          · exact hv k x (by omega)
        exact ⟨fun c2 => ⟨ii (by omega), go _ (by rw [if_neg (by omega)])⟩, fun c2 => go _ (by rw [if_pos c2])⟩
    exact key ((gl g w).toNat + 1) 0 (by omega) (by omega) (fun k x y => by omega)
  · have hn : n = gl g w - 1 := by omega
    have ho1 : one = 1 := by omega
    rw [q1]
    have key : ∀ m : Nat, ∀ v : Int, 0 ≤ v → n - v < m → (∀ k, 0 ≤ k → k < v → f k = gt g w (if k < p then k else k + 1)) → A_M_isRowWithout_22 1 K w p one n v h := by
      intro m
      induction m with
      | zero =>
        intro v a e hv
        exact s_M_isRowWithout_22 ⟨fun _ => kT (fun y => by omega) (fun _ k x y => hv k x (by omega)), fun c => by omega⟩
      | succ m ih =>
        intro v a e hv
        refine s_M_isRowWithout_22 ⟨fun _ => kT (fun y => by omega) (fun _ k x y => hv k x (by omega)), fun c => ?_⟩
        have go : ∀ s, s = (if v < p then v else v + 1) → A_M_isRowWithout_44 1 K w p one n v s h := fun s hs => by
          have sb : 0 ≤ s ∧ s < gl g w := by
            rw [hs]
            split <;> omega
          refine s_M_isRowWithout_44 ⟨fun y => absurd y z, fun _ => ⟨ib (by omega), mLetter (by decide) r h0 h1 sb.1 sb.2 ?_⟩⟩
          rw [q3 v a c]
          refine ⟨fun c2 => ⟨ii (by omega), ih (v + 1) (by omega) (by omega) (fun k x y => ?_)⟩, fun c2 => kF1 ho1 (fun y => c2 (by rw [hs]; exact y v a c))⟩
          by_cases hk : k = v
          · rw [hk, c2, hs]
          · exact hv k x (by omega)
        exact ⟨fun c2 => ⟨ii (by omega), go _ (by rw [if_neg (by omega)])⟩, fun c2 => go _ (by rw [if_pos c2])⟩
    exact key (n.toNat + 1) 0 (by omega) (by omega) (fun k x y => by omega)
theorem mIsNearAlike (hd : 1 < d) {w n : Int} {f : Int → Int} (r : RepM g h) (q : Row0 n f h) (h0 : 0 ≤ w) (h1 : w < gn g) (hl : gl g w = n) (kT : NearR g w n f → K 1 h) (kF : ¬ NearR g w n f → K 0 h) : Call d M_M_isNearAlike [vR 12 (-1), vI w] h K := by
  have nb := r.ok.nb
  have lb := r.ok.lb h0 h1
  obtain ⟨q1, q2, q3⟩ := q
  have same2 : NearR g w n f → (∃ i, (0 ≤ i ∧ i < n) ∧ f i ≠ gt g w i ∧ ∀ k, 0 ≤ k → k < n → k ≠ i → f k = gt g w k) ∨ (∃ i, (0 ≤ i ∧ i + 1 < n) ∧ gt g w i ≠ gt g w (i + 1) ∧ f i = gt g w (i + 1) ∧ f (i + 1) = gt g w i ∧ ∀ k, 0 ≤ k → k < n → k ≠ i → k ≠ i + 1 → f k = gt g w k) := fun z => by
    rcases z with ⟨_, z⟩ | ⟨_, z⟩ | ⟨z, _⟩ | ⟨z, _⟩
    · exact Or.inl z
    · exact Or.inr z
    · omega
    · omega
  refine c_M_isNearAlike 1 hd ?_
  have key : ∀ m : Nat, ∀ (c a b v : Int), 0 ≤ v → v ≤ n → n - v < m → ((c = 0 ∧ a = -1 ∧ ∀ k, 0 ≤ k → k < v → f k = gt g w k) ∨ (c = 1 ∧ (0 ≤ a ∧ a < v) ∧ b = a ∧ f a ≠ gt g w a ∧ ∀ k, 0 ≤ k → k < v → k ≠ a → f k = gt g w k) ∨ (c = 2 ∧ (0 ≤ a ∧ a < b ∧ b < v) ∧ f a ≠ gt g w a ∧ f b ≠ gt g w b ∧ ∀ k, 0 ≤ k → k < v → k ≠ a → k ≠ b → f k = gt g w k) ∨ (3 ≤ c ∧ c ≤ v ∧ 0 ≤ a ∧ ∃ i j l, (0 ≤ i ∧ i < j ∧ j < l ∧ l < n) ∧ f i ≠ gt g w i ∧ f j ≠ gt g w j ∧ f l ≠ gt g w l)) → A_M_isNearAlike_10 1 K w c a b v h := by
    intro m
    induction m with
    | zero => intro c a b v v0 v1 e; omega
    | succ m ih =>
      intro c a b v v0 v1 e inv
      refine s_M_isNearAlike_10 ?_
      rw [q1]
      refine ⟨fun z => ?_, fun z => ⟨ib (by omega), mLetter (by decide) r h0 h1 v0 (by omega) ?_⟩⟩
      · have ev : v = n := by omega
        rw [ev] at inv
        refine ⟨fun c1 => ?_, fun c1 => ⟨fun c2 => ?_, fun c2 => ?_⟩⟩
        · rcases inv with i1 | ⟨_, i2, _, i4, i5⟩ | i1 | i1
          · omega
          · exact kT (Or.inl ⟨hl, a, i2, i4, i5⟩)
          · omega
          · omega
        · refine kF (fun y => ?_)
          rcases same2 y with ⟨i, ib', i1, i2⟩ | ⟨i, ib', i0, i1, i1', i2⟩
          · rcases inv with ⟨_, _, j⟩ | j | j | ⟨_, _, _, x, y2, z2, b2, d1, d2, d3⟩
            · exact i1 (j i ib'.1 ib'.2)
            · omega
            · omega
            · by_cases zx : x = i
              · exact d2 (i2 y2 (by omega) (by omega) (by omega))
              · exact d1 (i2 x (by omega) (by omega) zx)
          · rcases inv with ⟨_, _, j⟩ | j | j | ⟨_, _, _, x, y2, z2, b2, d1, d2, d3⟩
            · exact i0 (by rw [← i1]; exact (j i (by omega) (by omega)).symm)
            · omega
            · omega
            · by_cases zx : x = i ∨ x = i + 1
              · by_cases zz : y2 = i + 1
                · exact d3 (i2 z2 (by omega) (by omega) (by omega) (by omega))
                · exact d2 (i2 y2 (by omega) (by omega) (by omega) (by omega))
              · exact d1 (i2 x (by omega) (by omega) (by omega) (by omega))
        · obtain ⟨_, ib', d1, d2, i2⟩ : c = 2 ∧ (0 ≤ a ∧ a < b ∧ b < n) ∧ f a ≠ gt g w a ∧ f b ≠ gt g w b ∧ ∀ k, 0 ≤ k → k < n → k ≠ a → k ≠ b → f k = gt g w k := by
            rcases inv with i1 | i1 | i1 | i1
            · omega
            · omega
            · exact i1
            · omega
          have no : (b = a + 1 → f a = gt g w b → f b ≠ gt g w a) → K 0 h := fun hh => kF (fun y => by
            rcases same2 y with ⟨i, ib2, i1, i3⟩ | ⟨i, ib2, i0, i1, i1', i3⟩
            · by_cases za : a = i
              · exact d2 (i3 b (by omega) (by omega) (by omega))
              · exact d1 (i3 a (by omega) (by omega) za)
            · have ea : a = i := by
                apply Classical.byContradiction
                intro za
                by_cases zb : a = i + 1
                · exact d2 (i3 b (by omega) (by omega) (by omega) (by omega))
                · exact d1 (i3 a (by omega) (by omega) za zb)
              have eb : b = i + 1 := by
                apply Classical.byContradiction
                intro zb
                exact d2 (i3 b (by omega) (by omega) (by omega) zb)
              exact hh (by omega) (by rw [ea, eb]; exact i1) (by rw [ea, eb]; exact i1'))
          refine ⟨ii (by omega), fun c3 => no (fun y => by omega), fun c3 => ⟨ib (by omega), mLetter (by decide) r h0 h1 (by omega) (by omega) ?_⟩⟩
          rw [q3 a (by omega) (by omega)]
          refine ⟨fun c4 => no (fun _ y => absurd y c4), fun c4 => ⟨ib (by omega), mLetter (by decide) r h0 h1 (by omega) (by omega) ?_⟩⟩
          rw [q3 b (by omega) (by omega)]
          refine ⟨fun c5 => no (fun _ _ => c5), fun c5 => kT (Or.inr (Or.inl ⟨hl, a, by omega, ?_, ?_, ?_, fun k x y n1 n2 => i2 k x y n1 (by omega)⟩))⟩
          · rw [← c3, ← c4]; exact fun y => d1 y.symm
          · rw [← c3]; exact c4
          · rw [← c3]; exact c5
      · rw [q3 v v0 z]
        refine ⟨fun df => ⟨ii ?_, ii (by omega), ih _ _ _ _ (by omega) (by omega) (by omega) ?_⟩, fun sm => ⟨ii (by omega), ih c a b (v + 1) (by omega) (by omega) (by omega) ?_⟩⟩
        · rcases inv with i1 | i1 | i1 | i1 <;> omega
        · rcases inv with ⟨c0, a0, j⟩ | ⟨c0, ab, eb, d1, j⟩ | ⟨c0, ab, d1, d2, j⟩ | ⟨c0, c1, a0, x, y2, z2, b2, d1, d2, d3⟩
          · rw [if_pos a0]
            refine Or.inr (Or.inl ⟨by omega, by omega, rfl, df, fun k x y nk => j k x (by omega)⟩)
          · rw [if_neg (by omega)]
            refine Or.inr (Or.inr (Or.inl ⟨by omega, by omega, d1, df, fun k x y n1 n2 => j k x (by omega) n1⟩))
          · rw [if_neg (by omega)]
            refine Or.inr (Or.inr (Or.inr ⟨by omega, by omega, by omega, a, b, v, by omega, d1, d2, df⟩))
          · rw [if_neg (by omega)]
            refine Or.inr (Or.inr (Or.inr ⟨by omega, by omega, by omega, x, y2, z2, b2, d1, d2, d3⟩))
        · have up : ∀ (P : Int → Prop), (∀ k, 0 ≤ k → k < v → P k → f k = gt g w k) → ∀ k, 0 ≤ k → k < v + 1 → P k → f k = gt g w k := fun P hp k k0 k1 pk => by
            by_cases zk : k = v
            · rw [zk]; exact sm
            · exact hp k k0 (by omega) pk
          rcases inv with ⟨c0, a0, j⟩ | ⟨c0, ab, eb, d1, j⟩ | ⟨c0, ab, d1, d2, j⟩ | ⟨c0, c1, a0, x, y2, z2, b2, d1, d2, d3⟩
          · exact Or.inl ⟨c0, a0, fun k x y => up (fun _ => True) (fun k x y _ => j k x y) k x y trivial⟩
          · exact Or.inr (Or.inl ⟨c0, by omega, eb, d1, fun k x y nk => up (fun k => k ≠ a) (fun k x y z => j k x y z) k x y nk⟩)
          · exact Or.inr (Or.inr (Or.inl ⟨c0, by omega, d1, d2, fun k x y n1 n2 => up (fun k => k ≠ a ∧ k ≠ b) (fun k x y z => j k x y z.1 z.2) k x y ⟨n1, n2⟩⟩))
          · exact Or.inr (Or.inr (Or.inr ⟨c0, by omega, a0, x, y2, z2, b2, d1, d2, d3⟩))
  exact key (n.toNat + 1) 0 (-1) (-1) 0 (Int.le_refl 0) q2.1 (by omega) (Or.inl ⟨rfl, rfl, fun k x y => by omega⟩)
theorem mIsNear (hd : 2 < d) {w n : Int} {f : Int → Int} (r : RepM g h) (q : Row0 n f h) (h0 : 0 ≤ w) (h1 : w < gn g) (kT : NearR g w n f → K 1 h) (kF : ¬ NearR g w n f → K 0 h) : Call d M_M_isNear [vR 12 (-1), vI w] h K := by
  have nb := r.ok.nb
  have lb := r.ok.lb h0 h1
  have q1 := q.1
  have q2 := q.2.1
  refine c_M_isNear 2 hd ⟨ib (by omega), ?_⟩
  rw [r.l h0 h1, q1]
  refine ⟨ii (by omega), fun z => ⟨fun z1 => ?_, fun z1 => ⟨fun z2 => ?_, fun z2 => kF (fun y => ?_)⟩⟩, fun z => mIsNearAlike (by decide) r q h0 h1 (by omega) (fun y => ⟨Or.inr rfl, kT y⟩) (fun y => ⟨Or.inl rfl, kF y⟩)⟩
  · refine s_M_isNear_34 ⟨fun y => absurd z1 y, fun _ => ⟨ib (by omega), ?_⟩⟩
    rw [r.l h0 h1]
    have key : ∀ m : Nat, ∀ v : Int, 0 ≤ v → gl g w - v < m → (∀ p, 0 ≤ p → p < v → p < gl g w → ¬ ∀ k, 0 ≤ k → k < n → f k = gt g w (if k < p then k else k + 1)) → A_M_isNear_56 2 K w (gl g w - n) (gl g w) v h := by
      intro m
      induction m with
      | zero => 
        intro v a e hv
        refine s_M_isNear_56 ⟨fun _ => kF (fun y => ?_), fun c => by omega⟩
        rcases y with ⟨y, _⟩ | ⟨y, _⟩ | ⟨y, _⟩ | ⟨_, p, pb, y⟩
        · omega
        · omega
        · omega
        · exact hv p pb.1 (by omega) pb.2 y
      | succ m ih =>
        intro v a e hv
        refine s_M_isNear_56 ⟨fun c => kF (fun y => ?_), fun c => ?_⟩
        · rcases y with ⟨y, _⟩ | ⟨y, _⟩ | ⟨y, _⟩ | ⟨_, p, pb, y⟩
          · omega
          · omega
          · omega
          · exact hv p pb.1 (by omega) pb.2 y
        · rw [if_pos z1]
          refine mIsRowWithout (by decide) r q h0 h1 a (Or.inr ⟨rfl, by omega⟩) (fun _ y => br1 (kT (Or.inr (Or.inr (Or.inr ⟨by omega, v, ⟨a, c⟩, y rfl⟩))))) (fun y => by omega) (fun _ y => br0 ⟨ii (by omega), ih (v + 1) (by omega) (by omega) (fun p p0 p1 p2 => ?_)⟩)
          by_cases hp : p = v
          · rw [hp]; exact y
          · exact hv p p0 (by omega) p2
    exact key ((gl g w).toNat + 1) 0 (Int.le_refl 0) (by omega) (fun p x y => by omega)
  · refine s_M_isNear_34 ⟨fun _ => ?_, fun y => absurd y z1⟩
    rw [q1]
    have key : ∀ m : Nat, ∀ v : Int, 0 ≤ v → n - v < m → (∀ p, 0 ≤ p → p < v → p < n → ¬ ∀ k, 0 ≤ k → k < gl g w → gt g w k = f (if k < p then k else k + 1)) → A_M_isNear_56 2 K w (gl g w - n) n v h := by
      intro m
      induction m with
      | zero => 
        intro v a e hv
        refine s_M_isNear_56 ⟨fun _ => kF (fun y => ?_), fun c => by omega⟩
        rcases y with ⟨y, _⟩ | ⟨y, _⟩ | ⟨_, p, pb, y⟩ | ⟨y, _⟩
        · omega
        · omega
        · exact hv p pb.1 (by omega) pb.2 y
        · omega
      | succ m ih =>
        intro v a e hv
        refine s_M_isNear_56 ⟨fun c => kF (fun y => ?_), fun c => ?_⟩
        · rcases y with ⟨y, _⟩ | ⟨y, _⟩ | ⟨_, p, pb, y⟩ | ⟨y, _⟩
          · omega
          · omega
          · exact hv p pb.1 (by omega) pb.2 y
          · omega
        · rw [if_neg z1]
          refine mIsRowWithout (by decide) r q h0 h1 a (Or.inl ⟨rfl, by omega⟩) (fun y _ => br1 (kT (Or.inr (Or.inr (Or.inl ⟨by omega, v, ⟨a, c⟩, y rfl⟩))))) (fun _ y => br0 ⟨ii (by omega), ih (v + 1) (by omega) (by omega) (fun p p0 p1 p2 => ?_)⟩) (fun y => by omega)
          by_cases hp : p = v
          · rw [hp]; exact y
          · exact hv p p0 (by omega) p2
    exact key (n.toNat + 1) 0 (Int.le_refl 0) (by omega) (fun p x y => by omega)
  · rcases y with ⟨y, _⟩ | ⟨y, _⟩ | ⟨y, _⟩ | ⟨y, _⟩ <;> omega
end MN1

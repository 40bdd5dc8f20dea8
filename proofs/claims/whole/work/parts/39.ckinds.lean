/-! the class: which CHANGE makes one word of another one -/
def KindIs (g : G) (a b k f l : Int) : Prop := (k = -1 ∧ ∀ κ i, ¬ isCh g a b κ i) ∨ ((0 ≤ k ∧ k ≤ 3) ∧ (0 ≤ f ∧ f ≤ l ∧ l ≤ 8) ∧ ∀ κ i, isCh g a b κ i ↔ κ = k ∧ f ≤ i ∧ i ≤ l)
def KAt (g : G) (h : AH) (a b : Int) : Prop := KindIs g a b (h.2.2 30 a b) (h.2.2 31 a b) (h.2.2 32 a b)
def ats (a b : Int) (h h' : AH) : Prop := ∀ x y, ¬ (x = a ∧ y = b) → h'.2.2 30 x y = h.2.2 30 x y ∧ h'.2.2 31 x y = h.2.2 31 x y ∧ h'.2.2 32 x y = h.2.2 32 x y
theorem rR_nk {h : AH} {o o' : Nat} {r r' k k' v : Int} (hne : ¬ (r' = r ∧ k' = k)) : (wR h o r k v).2.2 o' r' k' = h.2.2 o' r' k' := if_neg (fun z => hne z.2)
section CK
variable {d : Nat} {g : G} {h : AH} {K : Int → AH → Prop}
theorem cAhead (hd : 0 < d) {a b m : Int} (r : RepW0 g h) (a0 : 0 ≤ a) (a1 : a < gn g) (b0 : 0 ≤ b) (b1 : b < gn g) (m0 : 0 ≤ m) (ma : m ≤ gl g a) (mb : m ≤ gl g b) (k : ∀ n, 0 ≤ n → n ≤ m → (∀ i, 0 ≤ i → i < n → gt g a i = gt g b i) → (n < m → gt g a n ≠ gt g b n) → K n h) : Call d M_Steps_alikeAhead [vR 14 a, vR 14 b, vI m] h K := by
  have nb := r.1.nb
  have la := r.1.lb a0 a1
  refine c_Steps_alikeAhead 0 hd ?_
  have key : ∀ mm : Nat, ∀ v : Int, 0 ≤ v → v ≤ m → m - v < mm → (∀ i, 0 ≤ i → i < v → gt g a i = gt g b i) → A_Steps_alikeAhead_2 0 K a b m v h := by
    intro mm
    induction mm with
    | zero => intro v x y e; omega
    | succ mm ih =>
      intro v x y e hv
      refine s_Steps_alikeAhead_2 ⟨fun c => k v x y hv (fun z => by omega), fun c => ⟨fun c2 => by omega, fun c2 => ⟨ib (by omega), ib (by omega), ib (by omega), ?_⟩⟩⟩
      rw [r.t a0 a1 x (by omega), r.t b0 b1 x (by omega)]
      refine ⟨fun c3 => k v x y hv (fun _ => c3), fun c3 => ⟨ii (by omega), ih (v + 1) (by omega) (by omega) (by omega) (fun i p q => ?_)⟩⟩
      by_cases hi : i = v
      · rw [hi]; exact c3
      · exact hv i p (by omega)
  exact key (m.toNat + 1) 0 (by omega) m0 (by omega) (fun i p q => by omega)
theorem cBehind (hd : 0 < d) {a b m : Int} (r : RepW0 g h) (a0 : 0 ≤ a) (a1 : a < gn g) (b0 : 0 ≤ b) (b1 : b < gn g) (m0 : 0 ≤ m) (ma : m ≤ gl g a) (mb : m ≤ gl g b) (k : ∀ n, 0 ≤ n → n ≤ m → (∀ i, 0 ≤ i → i < n → gt g a (gl g a - 1 - i) = gt g b (gl g b - 1 - i)) → (n < m → gt g a (gl g a - 1 - n) ≠ gt g b (gl g b - 1 - n)) → K n h) : Call d M_Steps_alikeBehind [vR 6 (-1), vI a, vI b, vI m] h K := by
  have nb := r.1.nb
  have la := r.1.lb a0 a1
  have lb := r.1.lb b0 b1
  refine c_Steps_alikeBehind 0 hd ?_
  rw [r.l a0 a1, r.l b0 b1]
  refine ⟨ib (by omega), ii (by omega), ib (by omega), ii (by omega), ?_⟩
  have key : ∀ mm : Nat, ∀ v : Int, 0 ≤ v → v ≤ m → m - v < mm → (∀ i, 0 ≤ i → i < v → gt g a (gl g a - 1 - i) = gt g b (gl g b - 1 - i)) → A_Steps_alikeBehind_29 0 K a b m (gl g a - 1) (gl g b - 1) v h := by
    intro mm
    induction mm with
    | zero => intro v x y e; omega
    | succ mm ih =>
      intro v x y e hv
      refine s_Steps_alikeBehind_29 ⟨fun c => k v x y hv (fun z => by omega), fun c => ⟨fun c2 => by omega, fun c2 => ⟨fun c3 => by omega, fun c3 => ⟨ib (by omega), ii (by omega), ib (by omega), ib (by omega), ii (by omega), ib (by omega), ?_⟩⟩⟩⟩
      rw [r.t a0 a1 (by omega) (by omega), r.t b0 b1 (by omega) (by omega)]
      refine ⟨fun c4 => k v x y hv (fun _ => c4), fun c4 => ⟨ii (by omega), ih (v + 1) (by omega) (by omega) (by omega) (fun i p q => ?_)⟩⟩
      by_cases hi : i = v
      · rw [hi]; exact c4
      · exact hv i p (by omega)
  exact key (m.toNat + 1) 0 (by omega) m0 (by omega) (fun i p q => by omega)
theorem cSetChange (hd : 0 < d) {a b k f l : Int} (a0 : 0 ≤ a) (a1 : a < 40) (b0 : 0 ≤ b) (b1 : b < 40) (kk : ∀ h', h'.2.2 30 a b = k → h'.2.2 31 a b = f → h'.2.2 32 a b = l → ats a b h h' → Fr [30, 31, 32] [] h h' → K 0 h') : Call d M_Steps_setChange [vR 6 (-1), vI a, vI b, vI k, vI f, vI l] h K := by
  refine c_Steps_setChange 0 hd ⟨ib (by omega), ib (by omega), kk _ ?_ ?_ ?_ (fun x y hxy => ?_) (((Fr.wR (by decide)).trans (Fr.wR (by decide))).trans (Fr.wR (by decide)))⟩
  · simp [wR]
  · simp [wR]
  · simp [wR]
  · refine ⟨?_, ?_, ?_⟩ <;> rw [rR_nk hxy, rR_nk hxy, rR_nk hxy]
theorem cOfLike (hd : 1 < d) {a b : Int} (r : RepW0 g h) (a0 : 0 ≤ a) (a1 : a < gn g) (b0 : 0 ≤ b) (b1 : b < gn g) (hl : gl g a = gl g b) (hk : h.2.2 30 a b = -1) (kk : ∀ h', KAt g h' a b → ats a b h h' → Fr [30, 31, 32] [] h h' → K 0 h') : Call d M_Steps_findChangeOfLike [vR 6 (-1), vI a, vI b] h K := by
  have nb := r.1.nb
  have la := r.1.lb a0 a1
  refine c_Steps_findChangeOfLike 1 hd ?_
  rw [r.l a0 a1]
  refine ⟨ib (by omega), ib (by omega), cAhead (by decide) r a0 a1 b0 b1 (by omega) (by omega) (by omega) (fun f f0 f1 f2 f3 => ⟨ii (by omega), cBehind (by decide) r a0 a1 b0 b1 (by omega) (by omega) (by omega) (fun n n0 n1 n2 n3 => ⟨ii (by omega), ?_⟩)⟩)⟩
  have eqs : ∀ i, 0 ≤ i → i < gl g a → (i < f ∨ gl g a - 1 - n < i) → gt g a i = gt g b i := fun i i0 i1 hi => by
    rcases hi with z | z
    · exact f2 i i0 z
    · have q := n2 (gl g a - 1 - i) (by omega) (by omega)
      rw [← hl, show gl g a - 1 - (gl g a - 1 - i) = i by omega] at q
      exact q
  have nel : n < gl g a → gt g a (gl g a - 1 - n) ≠ gt g b (gl g a - 1 - n) := fun z => by
    have q := n3 z
    rw [← hl] at q
    exact q
  have hdif : ∀ κ i, isCh g a b κ i → κ = 0 ∨ κ = 3 := fun κ i hc => by rcases hc with z | z | z | z <;> omega
  have h0 : ∀ i, isCh g a b 0 i → i = f ∧ i = gl g a - 1 - n ∧ i < gl g a ∧ 0 ≤ i := fun i hc => by
    rcases hc with z | z | z | z
    · obtain ⟨z1, z2, z3, z4, z5⟩ := z
      have p1 : ¬ (i < f) := fun q => z4 (eqs i z3.1 z3.2 (Or.inl q))
      have p2 : ¬ (gl g a - 1 - n < i) := fun q => z4 (eqs i z3.1 z3.2 (Or.inr q))
      have p3 : i = f := by
        by_cases q : f < i
        · exact absurd (z5 f f0 (by omega) (Or.inl q)) (f3 (by omega))
        · omega
      have p4 : i = gl g a - 1 - n := by
        by_cases q : i < gl g a - 1 - n
        · exact absurd (z5 (gl g a - 1 - n) (by omega) (by omega) (Or.inr (by omega))) (nel (by omega))
        · omega
      exact ⟨p3, p4, z3.2, z3.1⟩
    all_goals omega
  have h3 : ∀ i, isCh g a b 3 i → i = f ∧ i + 1 = gl g a - 1 - n ∧ gt g a f = gt g b (f + 1) ∧ gt g a (f + 1) = gt g b f := fun i hc => by
    rcases hc with z | z | z | z
    · omega
    · omega
    · omega
    · obtain ⟨z1, z2, z3, z4, z5, z6, z7⟩ := z
      have d1 : gt g a i ≠ gt g b i := fun q => z4 (by rw [q, z6])
      have d2 : gt g a (i + 1) ≠ gt g b (i + 1) := fun q => z4 (by rw [z5, q])
      have p1 : ¬ (i < f) := fun q => d1 (eqs i z3.1 (by omega) (Or.inl q))
      have p2 : ¬ (gl g a - 1 - n < i + 1) := fun q => d2 (eqs (i + 1) (by omega) z3.2 (Or.inr q))
      have p3 : i = f := by
        by_cases q : f < i
        · exact absurd (z7 f f0 (by omega) (Or.inl q)) (f3 (by omega))
        · omega
      have p4 : i + 1 = gl g a - 1 - n := by
        by_cases q : i + 1 < gl g a - 1 - n
        · exact absurd (z7 (gl g a - 1 - n) (by omega) (by omega) (Or.inr (by omega))) (nel (by omega))
        · omega
      rw [← p3]
      exact ⟨rfl, p4, z5, z6⟩
  have none' : (∀ κ i, ¬ isCh g a b κ i) → K 0 h := fun hn => kk h (Or.inl ⟨hk, hn⟩) (fun x y _ => ⟨rfl, rfl, rfl⟩) Fr.refl
  refine ⟨fun c => ⟨ii (by omega), fun c2 => none' (fun κ i hc => ?_), fun c2 => ⟨ib (by omega), ib (by omega), ?_⟩⟩, fun c => ?_⟩
  · rcases hdif κ i hc with rfl | rfl
    · have := h0 i hc; omega
    · have := h3 i hc; omega
  · rw [r.t a0 a1 f0 (by omega), r.t b0 b1 (by omega) (by omega), r.t a0 a1 (by omega) (by omega), r.t b0 b1 f0 (by omega), ← c2]
    refine ⟨fun c3 => none' (fun κ i hc => ?_), fun c3 => ⟨fun c4 => none' (fun κ i hc => ?_), fun c4 => ?_⟩⟩
    · rcases hdif κ i hc with rfl | rfl
      · have := h0 i hc; omega
      · exact c3 (h3 i hc).2.2.1
    · rcases hdif κ i hc with rfl | rfl
      · have := h0 i hc; omega
      · exact c4 (h3 i hc).2.2.2
    · refine cSetChange (by decide) a0 (by omega) b0 (by omega) (fun h' q1 q2 q3 q4 q5 => kk h' (Or.inr ?_) q4 q5)
      rw [q1, q2, q3]
      refine ⟨by decide, by omega, fun κ i => ⟨fun hc => ?_, fun z => ?_⟩⟩
      · rcases hdif κ i hc with rfl | rfl
        · have := h0 i hc; omega
        · have := h3 i hc
          exact ⟨rfl, by omega, by omega⟩
      · have ei : i = f := by omega
        rw [z.1, ei]
        refine Or.inr (Or.inr (Or.inr ⟨rfl, by omega, ⟨f0, by omega⟩, fun q => f3 (by omega) (by rw [q, c4]), c3, c4, fun x x0 x1 hx => eqs x x0 x1 (by omega)⟩))
  · refine cSetChange (by decide) a0 (by omega) b0 (by omega) (fun h' q1 q2 q3 q4 q5 => kk h' (Or.inr ?_) q4 q5)
    rw [q1, q2, q3]
    refine ⟨by decide, by omega, fun κ i => ⟨fun hc => ?_, fun z => ?_⟩⟩
    · rcases hdif κ i hc with rfl | rfl
      · have := h0 i hc
        exact ⟨rfl, by omega, by omega⟩
      · have := h3 i hc; omega
    · have ei : i = f := by omega
      rw [z.1, ei]
      exact Or.inl ⟨rfl, by omega, ⟨f0, by omega⟩, f3 (by omega), fun x x0 x1 hx => eqs x x0 x1 (by omega)⟩
theorem cOfLength (hd : 1 < d) {a b p : Int} (r : RepW0 g h) (a0 : 0 ≤ a) (a1 : a < gn g) (b0 : 0 ≤ b) (b1 : b < gn g) (hp : p = gl g b - gl g a) (hl : p = 1 ∨ p = -1) (hk : h.2.2 30 a b = -1) (kk : ∀ h', KAt g h' a b → ats a b h h' → Fr [30, 31, 32] [] h h' → K 0 h') : Call d M_Steps_findChangeOfLength [vR 6 (-1), vI a, vI b, vI p] h K := by
  have nb := r.1.nb
  have la := r.1.lb a0 a1
  have lb := r.1.lb b0 b1
  refine c_Steps_findChangeOfLength 1 hd ?_
  rw [r.l a0 a1, r.l b0 b1]
  refine ⟨ib (by omega), ib (by omega), by decide, cAhead (by decide) r a0 a1 b0 b1 (by omega) (by omega) (by omega) (fun f f0 f1 f2 f3 => cBehind (by decide) r a0 a1 b0 b1 (by omega) (by omega) (by omega) (fun n n0 n1 n2 n3 => ⟨ii (by omega), ?_⟩))⟩
  obtain ⟨m, hm⟩ : ∃ m, m = min (gl g a) (gl g b) := ⟨_, rfl⟩
  rw [← hm] at f1 f3 n1 n3 ⊢
  have iff1 : ∀ κ i, isCh g a b κ i ↔ κ = (if p = 1 then 1 else 2) ∧ m - n ≤ i ∧ i ≤ f := by
    intro κ i
    rcases hl with e | e
    · rw [if_pos e]
      have hab : gl g b = gl g a + 1 := by omega
      have hma : m = gl g a := by omega
      constructor
      · intro hc
        rcases hc with z | z | z | z
        · omega
        · obtain ⟨z1, z2, z3, z4⟩ := z
          refine ⟨z1, ?_, ?_⟩
          · by_cases q : m - n ≤ i
            · exact q
            · have w := z4 (gl g a - 1 - n) (by omega) (by omega)
              rw [if_neg (by omega)] at w
              have w2 := n3 (by omega)
              rw [show gl g b - 1 - n = gl g a - 1 - n + 1 by omega] at w2
              exact absurd w w2
          · by_cases q : i ≤ f
            · exact q
            · have w := z4 f f0 (by omega)
              rw [if_pos (by omega)] at w
              exact absurd w (f3 (by omega))
        · omega
        · omega
      · rintro ⟨rfl, z2, z3⟩
        refine Or.inr (Or.inl ⟨rfl, by omega, by omega, fun k k0 k1 => ?_⟩)
        by_cases q : k < i
        · rw [if_pos q]; exact f2 k k0 (by omega)
        · rw [if_neg q]
          have w := n2 (gl g a - 1 - k) (by omega) (by omega)
          rw [show gl g a - 1 - (gl g a - 1 - k) = k by omega, show gl g b - 1 - (gl g a - 1 - k) = k + 1 by omega] at w
          exact w
    · rw [if_neg (by omega)]
      have hab : gl g a = gl g b + 1 := by omega
      have hma : m = gl g b := by omega
      constructor
      · intro hc
        rcases hc with z | z | z | z
        · omega
        · omega
        · obtain ⟨z1, z2, z3, z4⟩ := z
          refine ⟨z1, ?_, ?_⟩
          · by_cases q : m - n ≤ i
            · exact q
            · have w := z4 (gl g b - 1 - n) (by omega) (by omega)
              rw [if_neg (by omega)] at w
              have w2 := n3 (by omega)
              rw [show gl g a - 1 - n = gl g b - 1 - n + 1 by omega] at w2
              exact absurd w.symm w2
          · by_cases q : i ≤ f
            · exact q
            · have w := z4 f f0 (by omega)
              rw [if_pos (by omega)] at w
              exact absurd w.symm (f3 (by omega))
        · omega
      · rintro ⟨rfl, z2, z3⟩
        refine Or.inr (Or.inr (Or.inl ⟨rfl, by omega, by omega, fun k k0 k1 => ?_⟩))
        by_cases q : k < i
        · rw [if_pos q]; exact (f2 k k0 (by omega)).symm
        · rw [if_neg q]
          have w := n2 (gl g b - 1 - k) (by omega) (by omega)
          rw [show gl g b - 1 - (gl g b - 1 - k) = k by omega, show gl g a - 1 - (gl g b - 1 - k) = k + 1 by omega] at w
          exact w.symm
  refine ⟨fun c => kk h (Or.inl ⟨hk, fun κ i hc => by have := (iff1 κ i).mp hc; omega⟩) (fun x y _ => ⟨rfl, rfl, rfl⟩) Fr.refl, fun c => ?_⟩
  refine cSetChange (by decide) a0 (by omega) b0 (by omega) (fun h' q1 q2 q3 q4 q5 => kk h' (Or.inr ?_) q4 q5)
  rw [q1, q2, q3]
  exact ⟨by split <;> decide, by omega, iff1⟩
end CK

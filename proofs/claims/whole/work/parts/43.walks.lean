/-! ways: rows of steps. e a b: what the step costs (0: there is none); a step weighs 64 times that, and 1 -/
def Pw (e : Int → Int → Int) (S : Int → Prop) (a b : Int) : Nat → Int → Prop
  | 0, x => a = b ∧ S a ∧ x = 0
  | n + 1, x => S a ∧ ∃ w y, e a w ≠ 0 ∧ Pw e S w b n y ∧ x = 64 * e a w + 1 + y
/-- the same, all between the two ends below m -/
def PwI (e : Int → Int → Int) (U : Int → Prop) (m a b : Int) : Nat → Int → Prop
  | 0, x => a = b ∧ U a ∧ x = 0
  | n + 1, x => U a ∧ ∃ w y, e a w ≠ 0 ∧ (PwI e U m w b n y ∧ (n = 0 ∨ w < m)) ∧ x = 64 * e a w + 1 + y
section PW
variable {e : Int → Int → Int} {U S : Int → Prop}
theorem Pw.weight (he : ∀ a b, 0 ≤ e a b) : ∀ {n : Nat} {a b x : Int}, Pw e S a b n x → 0 ≤ x ∧ (n : Int) ≤ x
  | 0, a, b, x, h => by
    obtain ⟨-, -, rfl⟩ := h
    exact ⟨Int.le_refl 0, Int.le_refl 0⟩
  | n + 1, a, b, x, h => by
    obtain ⟨-, w, y, h1, h2, rfl⟩ := h
    have := Pw.weight he h2
    have := he a w
    omega
theorem Pw.app : ∀ {n m : Nat} {a b c x y : Int}, Pw e S a b n x → Pw e S b c m y → Pw e S a c (n + m) (x + y)
  | 0, m, a, b, c, x, y, h, k => by
    obtain ⟨rfl, -, rfl⟩ := h
    rw [Nat.zero_add, Int.zero_add]
    exact k
  | n + 1, m, a, b, c, x, y, h, k => by
    obtain ⟨h0, w, z, h1, h2, rfl⟩ := h
    rw [show n + 1 + m = (n + m) + 1 by omega]
    exact ⟨h0, w, z + y, h1, Pw.app h2 k, by omega⟩
theorem Pw.ends : ∀ {n : Nat} {a b x : Int}, Pw e S a b n x → S a ∧ S b
  | 0, a, b, x, h => by
    obtain ⟨rfl, h0, -⟩ := h
    exact ⟨h0, h0⟩
  | n + 1, a, b, x, h => by
    obtain ⟨h0, w, z, h1, h2, -⟩ := h
    exact ⟨h0, (Pw.ends h2).2⟩
theorem Pw.sub {T : Int → Prop} (hs : ∀ v, S v → T v) : ∀ {n : Nat} {a b x : Int}, Pw e S a b n x → Pw e T a b n x
  | 0, a, b, x, h => ⟨h.1, hs a h.2.1, h.2.2⟩
  | n + 1, a, b, x, h => by
    obtain ⟨h0, w, z, h1, h2, h3⟩ := h
    exact ⟨hs a h0, w, z, h1, Pw.sub hs h2, h3⟩
theorem PwI.pw {m : Int} : ∀ {n : Nat} {a b x : Int}, PwI e U m a b n x → Pw e U a b n x
  | 0, a, b, x, h => h
  | n + 1, a, b, x, h => by
    obtain ⟨h0, w, z, h1, h2, h3⟩ := h
    exact ⟨h0, w, z, h1, PwI.pw h2.1, h3⟩
theorem Pw.pwI {m : Int} (hm : ∀ v, U v → v < m) : ∀ {n : Nat} {a b x : Int}, Pw e U a b n x → PwI e U m a b n x
  | 0, a, b, x, h => h
  | n + 1, a, b, x, h => by
    obtain ⟨h0, w, z, h1, h2, h3⟩ := h
    exact ⟨h0, w, z, h1, ⟨Pw.pwI hm h2, Or.inr (hm w (Pw.ends h2).1)⟩, h3⟩
theorem PwI.split {m : Int} (he : ∀ a b, 0 ≤ e a b) : ∀ {n : Nat} {a b x : Int}, PwI e U (m + 1) a b n x → PwI e U m a b n x ∨ ∃ n1 x1 n2 x2, PwI e U m a m n1 x1 ∧ PwI e U (m + 1) m b n2 x2 ∧ n2 < n ∧ x = x1 + x2
  | 0, a, b, x, h => Or.inl h
  | n + 1, a, b, x, h => by
    obtain ⟨h0, w, y, h1, ⟨h2, h3⟩, rfl⟩ := h
    have hw := (Pw.ends (PwI.pw h2)).1
    by_cases hwm : w = m
    · subst hwm
      refine Or.inr ⟨1, 64 * e a w + 1, n, y, ⟨h0, w, 0, h1, ⟨⟨rfl, hw, rfl⟩, Or.inl rfl⟩, by omega⟩, h2, by omega, by omega⟩
    · rcases Nat.eq_zero_or_pos n with rfl | hn
      · exact Or.inl ⟨h0, w, y, h1, ⟨h2, Or.inl rfl⟩, rfl⟩
      · have hlt : w < m := by omega
        rcases PwI.split he h2 with k | ⟨n1, x1, n2, x2, k1, k2, k3, k4⟩
        · exact Or.inl ⟨h0, w, y, h1, ⟨k, Or.inr hlt⟩, rfl⟩
        · exact Or.inr ⟨n1 + 1, 64 * e a w + 1 + x1, n2, x2, ⟨h0, w, x1, h1, ⟨k1, Or.inr hlt⟩, rfl⟩, k2, by omega, by omega⟩
theorem PwI.tail {m : Int} (he : ∀ a b, 0 ≤ e a b) : ∀ (k : Nat) {n : Nat} {b x : Int}, n < k → PwI e U (m + 1) m b n x → ∃ n3 x3, PwI e U m m b n3 x3 ∧ x3 ≤ x
  | 0, n, b, x, hk, _ => by omega
  | k + 1, n, b, x, hk, h => by
    rcases PwI.split he h with q | ⟨n1, x1, n2, x2, k1, k2, k3, k4⟩
    · exact ⟨n, x, q, Int.le_refl x⟩
    · obtain ⟨n3, x3, q1, q2⟩ := PwI.tail he k (show n2 < k by omega) k2
      have := (Pw.weight he (PwI.pw k1)).1
      exact ⟨n3, x3, q1, by omega⟩
/-- either m isn't wanted between, or the way falls in two at m -/
theorem PwI.by_m {m : Int} (he : ∀ a b, 0 ≤ e a b) {n : Nat} {a b x : Int} (h : PwI e U (m + 1) a b n x) : PwI e U m a b n x ∨ ∃ n1 x1 n2 x2, PwI e U m a m n1 x1 ∧ PwI e U m m b n2 x2 ∧ x1 + x2 ≤ x := by
  rcases PwI.split he h with q | ⟨n1, x1, n2, x2, k1, k2, k3, k4⟩
  · exact Or.inl q
  · obtain ⟨n3, x3, q1, q2⟩ := PwI.tail he (n2 + 1) (by omega) k2
    exact Or.inr ⟨n1, x1, n3, x3, k1, q1, by omega⟩
/-! a way that comes twice to a word can be made shorter -/
theorem Pw.hits {c : Int} (he : ∀ a b, 0 ≤ e a b) : ∀ {n : Nat} {a b x : Int}, Pw e S a b n x → Pw e (fun v => S v ∧ v ≠ c) a b n x ∨ ∃ n' x', n' ≤ n ∧ x' ≤ x ∧ Pw e S c b n' x'
  | 0, a, b, x, h => by
    by_cases hc : a = c
    · subst hc
      exact Or.inr ⟨0, x, Nat.le_refl 0, Int.le_refl x, h⟩
    · exact Or.inl ⟨h.1, ⟨h.2.1, hc⟩, h.2.2⟩
  | n + 1, a, b, x, h => by
    by_cases hc : a = c
    · subst hc
      exact Or.inr ⟨n + 1, x, Nat.le_refl _, Int.le_refl x, h⟩
    · obtain ⟨h0, w, y, h1, h2, rfl⟩ := h
      have := he a w
      rcases Pw.hits he h2 with q | ⟨n', x', q1, q2, q3⟩
      · exact Or.inl ⟨⟨h0, hc⟩, w, y, h1, q, rfl⟩
      · exact Or.inr ⟨n', x', by omega, by omega, q3⟩
theorem Pw.last {a : Int} (he : ∀ a b, 0 ≤ e a b) : ∀ (k : Nat) {n : Nat} {b x : Int}, n < k → Pw e S a b n x → (a = b ∧ S a) ∨ ∃ w n1 x1, e a w ≠ 0 ∧ Pw e (fun v => S v ∧ v ≠ a) w b n1 x1 ∧ 64 * e a w + 1 + x1 ≤ x ∧ S a
  | 0, n, b, x, hk, _ => by omega
  | k + 1, 0, b, x, hk, h => Or.inl ⟨h.1, h.2.1⟩
  | k + 1, n + 1, b, x, hk, h => by
    obtain ⟨h0, w, y, h1, h2, rfl⟩ := h
    have := he a w
    rcases Pw.hits (c := a) he h2 with q | ⟨n', x', q1, q2, q3⟩
    · exact Or.inr ⟨w, n, y, h1, q, Int.le_refl _, h0⟩
    · rcases Pw.last he k (show n' < k by omega) q3 with r | ⟨w', n1, x1, r1, r2, r3, r4⟩
      · exact Or.inl r
      · exact Or.inr ⟨w', n1, x1, r1, r2, by omega, r4⟩
theorem Pw.short (he : ∀ a b, 0 ≤ e a b) : ∀ (k : Nat) (L : List Int) (S : Int → Prop), L.length ≤ k → (∀ v, S v → v ∈ L) → ∀ {n : Nat} {a b x : Int}, Pw e S a b n x → ∃ n' x', n' < k ∧ x' ≤ x ∧ Pw e S a b n' x'
  | 0, L, S, hk, hS, n, a, b, x, h => by
    have := hS a (Pw.ends h).1
    have : 0 < L.length := List.length_pos_of_mem this
    omega
  | k + 1, L, S, hk, hS, n, a, b, x, h => by
    rcases Pw.last he (n + 1) (by omega) h with ⟨rfl, h0⟩ | ⟨w, n1, x1, h1, h2, h3, h4⟩
    · exact ⟨0, 0, by omega, (Pw.weight he h).1, ⟨rfl, h0, rfl⟩⟩
    · have hl : (L.filter (fun v => v ≠ a)).length ≤ k := by
        have hlt : (L.filter (fun v => v ≠ a)).length < L.length := by
          rcases Nat.lt_or_ge (L.filter (fun v => v ≠ a)).length L.length with q | q
          · exact q
          · have he2 := List.length_filter_le (fun v => decide (v ≠ a)) L
            have h5 := List.length_filter_eq_length_iff.mp (Nat.le_antisymm he2 q) a (hS a h4)
            simp at h5
        omega
      obtain ⟨n', x', q1, q2, q3⟩ := Pw.short he k (L.filter (fun v => v ≠ a)) (fun v => S v ∧ v ≠ a) hl (fun v hv => List.mem_filter.mpr ⟨hS v hv.1, by simp [hv.2]⟩) h2
      exact ⟨n' + 1, 64 * e a w + 1 + x', by omega, by omega, ⟨h4, w, x', h1, Pw.sub (fun v hv => hv.1) q3, rfl⟩⟩
/-- x is the least weight of a way from a to b -/
def IsD (e : Int → Int → Int) (U : Int → Prop) (a b x : Int) : Prop := (∃ n, Pw e U a b n x) ∧ ∀ n y, Pw e U a b n y → x ≤ y
def NoWay (e : Int → Int → Int) (U : Int → Prop) (a b : Int) : Prop := ∀ n x, ¬ Pw e U a b n x
theorem IsD.uniq {a b x y : Int} (h : IsD e U a b x) (k : IsD e U a b y) : x = y := by
  obtain ⟨⟨n, h1⟩, h2⟩ := h
  obtain ⟨⟨m, k1⟩, k2⟩ := k
  have := h2 m y k1
  have := k2 n x h1
  omega
theorem Pw.length_weight : ∀ {n : Nat} {a b x : Int}, Pw e U a b n x → (∀ a b, e a b ≤ 99) → x ≤ 6337 * n
  | 0, a, b, x, h, _ => by
    obtain ⟨-, -, rfl⟩ := h
    exact Int.le_refl _
  | n + 1, a, b, x, h, he => by
    obtain ⟨-, w, y, h1, h2, rfl⟩ := h
    have := Pw.length_weight h2 he
    have := he a w
    omega
theorem Pw.mod : ∀ {n : Nat} {a b x : Int}, Pw e U a b n x → ∃ c : Int, x = 64 * c + n
  | 0, a, b, x, h => ⟨0, by rw [h.2.2]; rfl⟩
  | n + 1, a, b, x, h => by
    obtain ⟨-, w, y, h1, h2, rfl⟩ := h
    obtain ⟨c, hc⟩ := Pw.mod h2
    exact ⟨e a w + c, by omega⟩
/-- where there is a way there is a short one: below 40 steps -/
theorem Pw.light {N : Int} (hN : N ≤ 40) (he : ∀ a b, 0 ≤ e a b) (hU : ∀ v, U v → 0 ≤ v ∧ v < N) {n : Nat} {a b x : Int} (h : Pw e U a b n x) : ∃ n' x', n' < 40 ∧ x' ≤ x ∧ Pw e U a b n' x' :=
  Pw.short he 40 ((List.range 40).map (fun (k : Nat) => (k : Int))) U (by simp) (fun v hv => by
    have := hU v hv
    exact List.mem_map.mpr ⟨v.toNat, List.mem_range.mpr (by omega), by omega⟩) h
/-- what a table of ways holds when all words below m have been tried between; B: there is none -/
def TabI (e : Int → Int → Int) (U : Int → Prop) (m B a b x : Int) : Prop := (x < B → ∃ n, Pw e U a b n x) ∧ (x ≤ B) ∧ ∀ n y, PwI e U m a b n y → y < B → x ≤ y
theorem TabI.done {N m B a b x : Int} (hN : N ≤ 40) (hB : 253480 < B) (he : ∀ a b, 0 ≤ e a b ∧ e a b ≤ 99) (hU : ∀ v, U v → 0 ≤ v ∧ v < N) (hm : N ≤ m) (t : TabI e U m B a b x) : (x = B ∧ NoWay e U a b) ∨ (x < B ∧ IsD e U a b x) := by
  obtain ⟨t1, t2, t3⟩ := t
  have le : ∀ n y, Pw e U a b n y → x ≤ y ∧ x < B := by
    intro n y h
    obtain ⟨n', x', q1, q2, q3⟩ := Pw.light hN (fun a b => (he a b).1) hU h
    have q4 := Pw.length_weight q3 (fun a b => (he a b).2)
    have := t3 n' x' (Pw.pwI (fun v hv => by have := hU v hv; omega) q3) (by omega)
    omega
  by_cases hx : x < B
  · exact Or.inr ⟨hx, t1 hx, fun n y h => (le n y h).1⟩
  · exact Or.inl ⟨by omega, fun n y h => hx (le n y h).2⟩
/-- one word more between -/
theorem TabI.via {m B a b x x1 x2 x' : Int} (he : ∀ a b, 0 ≤ e a b) (t : TabI e U m B a b x) (t1 : TabI e U m B a m x1) (t2 : TabI e U m B m b x2) (hx : x' = x ∨ (x' = x1 + x2 ∧ x1 < B ∧ x2 < B ∧ x1 + x2 < B)) (hle : x' ≤ x) (hle2 : x1 < B → x2 < B → x' ≤ x1 + x2) : TabI e U (m + 1) B a b x' := by
  refine ⟨fun h => ?_, by have := t.2.1; omega, fun n y h hy => ?_⟩
  · rcases hx with rfl | ⟨rfl, h1, h2, h3⟩
    · exact t.1 h
    · obtain ⟨n1, q1⟩ := t1.1 h1
      obtain ⟨n2, q2⟩ := t2.1 h2
      exact ⟨n1 + n2, Pw.app q1 q2⟩
  · rcases PwI.by_m he h with q | ⟨n1, y1, n2, y2, q1, q2, q3⟩
    · have := t.2.2 n y q hy
      omega
    · have w1 := (Pw.weight he (PwI.pw q1)).1
      have w2 := (Pw.weight he (PwI.pw q2)).1
      have p1 := t1.2.2 n1 y1 q1 (by omega)
      have p2 := t2.2.2 n2 y2 q2 (by omega)
      have := hle2 (by omega) (by omega)
      omega
theorem TabI.less {m B a b x x' : Int} (t : TabI e U m B a b x) (h1 : x' < B → ∃ n, Pw e U a b n x') (h2 : x' ≤ x) : TabI e U m B a b x' := ⟨h1, by have := t.2.1; omega, fun n y h hy => by have := t.2.2 n y h hy; omega⟩
end PW

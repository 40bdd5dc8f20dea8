/-! how far two rows of letters are -/
def edr (c : Nat → Int) (x : Int) (prev : Nat → Int) : Nat → Int
  | 0 => x
  | j + 1 => min (prev j + c j) (1 + min (prev (j + 1)) (edr c x prev j))
def ed (f q : Int → Int) : Nat → Nat → Int
  | 0 => fun j => (j : Int)
  | i + 1 => edr (fun j => if f i = q j then 0 else 1) ((i : Int) + 1) (ed f q i)
theorem ed_s (f q : Int → Int) (i j : Nat) : ed f q (i + 1) (j + 1) = min (ed f q i j + (if f i = q j then 0 else 1)) (1 + min (ed f q i (j + 1)) (ed f q (i + 1) j)) := rfl
theorem ed_z (f q : Int → Int) (j : Nat) : ed f q 0 j = j := rfl
theorem ed_n (f q : Int → Int) (i : Nat) : ed f q (i + 1) 0 = (i : Int) + 1 := rfl
theorem ed_b (f q : Int → Int) : ∀ i j : Nat, 0 ≤ ed f q i j ∧ ed f q i j ≤ i + j := by
  intro i
  induction i with
  | zero => intro j; rw [ed_z]; omega
  | succ i ih =>
    intro j
    induction j with
    | zero => rw [ed_n]; omega
    | succ j ih2 =>
      have h1 := ih j
      have h2 := ih (j + 1)
      rw [ed_s]
      split <;> omega
theorem ed_0 (f q : Int → Int) (i : Nat) : ed f q i 0 = i := by
  cases i with
  | zero => rfl
  | succ i => rfl
theorem ed_sym (f q : Int → Int) : ∀ i j : Nat, ed f q i j = ed q f j i := by
  intro i
  induction i with
  | zero => intro j; rw [ed_0]; rfl
  | succ i ih =>
    intro j
    induction j with
    | zero => rfl
    | succ j ih2 =>
      have e : (if f i = q j then (0 : Int) else 1) = if q j = f i then 0 else 1 := by
        by_cases h : f i = q j
        · rw [if_pos h, if_pos h.symm]
        · rw [if_neg h, if_neg (fun z => h z.symm)]
      rw [ed_s, ed_s, ih j, ih (j + 1), ih2, e]
      omega
theorem ed_congr {f f' q q' : Int → Int} : ∀ i j : Nat, (∀ k : Nat, k < i → f k = f' k) → (∀ k : Nat, k < j → q k = q' k) → ed f q i j = ed f' q' i j := by
  intro i
  induction i with
  | zero => intro j _ _; rfl
  | succ i ih =>
    intro j h k
    induction j with
    | zero => rfl
    | succ j ih2 => rw [ed_s, ed_s, ih j (fun x hx => h x (by omega)) (fun x hx => k x (by omega)), ih (j + 1) (fun x hx => h x (by omega)) k, ih2 (fun x hx => k x (by omega)), h i (by omega), k j (by omega)]
/-- how far the row f of n letters is from the word w -/
def farW (g : G) (f : Int → Int) (n w : Int) : Int := ed f (gt g w) n.toNat (gl g w).toNat
theorem farW_b {g : G} (ok : OkG g) {f : Int → Int} {n w : Int} (n1 : n ≤ 12) (w0 : 0 ≤ w) (w1 : w < gn g) : 0 ≤ farW g f n w ∧ farW g f n w ≤ 20 := by
  have h1 := ed_b f (gt g w) n.toNat (gl g w).toNat
  have h2 := ok.lb w0 w1
  unfold farW
  omega
/-- of the used words below m the nearest (b, so far: x) and how many are as near -/
def NearI (g : G) (f : Int → Int) (n m x b c : Int) : Prop := (b = -1 ∧ ∀ u, 0 ≤ u → u < m → ¬ us g u) ∨ ((0 ≤ b ∧ b < m) ∧ us g b ∧ x = farW g f n b ∧ c = cnt (fun u => us g u ∧ farW g f n u = x) m.toNat ∧ ∀ u, 0 ≤ u → u < m → us g u → x < farW g f n u ∨ (x = farW g f n u ∧ b ≤ u))
theorem NearI.uniq {g : G} {f : Int → Int} {n m x b c x' b' c' : Int} (h : NearI g f n m x b c) (k : NearI g f n m x' b' c') : b = b' ∧ (b ≠ -1 → x = x' ∧ c = c') := by
  rcases h with ⟨h1, h2⟩ | ⟨h1, h2, h3, h4, h5⟩
  · rcases k with ⟨k1, k2⟩ | ⟨k1, k2, k3, k4, k5⟩
    · exact ⟨by omega, fun z => absurd h1 z⟩
    · exact absurd k2 (h2 b' k1.1 k1.2)
  · rcases k with ⟨k1, k2⟩ | ⟨k1, k2, k3, k4, k5⟩
    · exact absurd h2 (k2 b h1.1 h1.2)
    · have a1 := h5 b' k1.1 k1.2 k2
      have a2 := k5 b h1.1 h1.2 h2
      have ex : x = x' := by omega
      exact ⟨by omega, fun _ => ⟨ex, by rw [h4, k4, ex]⟩⟩
theorem NearI.skip {g : G} {f : Int → Int} {n m x b c : Int} (h : NearI g f n m x b c) (m0 : 0 ≤ m) (hn : ¬ us g m) : NearI g f n (m + 1) x b c := by
  rcases h with ⟨h1, h2⟩ | ⟨h1, h2, h3, h4, h5⟩
  · refine Or.inl ⟨h1, fun u u0 u1 => ?_⟩
    by_cases z : u = m
    · rw [z]; exact hn
    · exact h2 u u0 (by omega)
  · refine Or.inr ⟨by omega, h2, h3, by rw [cnt_fi m0 (fun z => hn z.1)]; exact h4, fun u u0 u1 hu => ?_⟩
    by_cases z : u = m
    · rw [z] at hu; exact absurd hu hn
    · exact h5 u u0 (by omega) hu
/-- one word more -/
theorem NearI.step {g : G} {f : Int → Int} {n m x b c x' b' c' : Int} (h : NearI g f n m x b c) (m0 : 0 ≤ m) (hu : us g m) (hx : ((b = -1 ∨ farW g f n m < x) ∧ x' = farW g f n m ∧ b' = m ∧ c' = 1) ∨ (b ≠ -1 ∧ x < farW g f n m ∧ x' = x ∧ b' = b ∧ c' = c) ∨ (b ≠ -1 ∧ x = farW g f n m ∧ x' = x ∧ b' = b ∧ c' = c + 1)) : NearI g f n (m + 1) x' b' c' := by
  generalize hD : farW g f n m = D at hx
  rcases hx with ⟨q1, q2, q3, q4⟩ | ⟨q1, q2, q3, q4, q5⟩ | ⟨q1, q2, q3, q4, q5⟩
  · have e1 := cnt_ti (P := fun u => us g u ∧ farW g f n u = x') (v := m) m0 ⟨hu, by rw [hD, q2]⟩
    have e2 : cnt (fun u => us g u ∧ farW g f n u = x') m.toNat = 0 := cnt_none m.toNat (fun v v0 v1 hv => by
      rcases h with ⟨h1, h2⟩ | ⟨h1, h2, h3, h4, h5⟩
      · exact h2 v v0 (by omega) hv.1
      · have h6 := h5 v v0 (by omega) hv.1
        have h7 := hv.2
        omega)
    refine Or.inr ⟨by omega, by rw [q3]; exact hu, by rw [q3, hD]; exact q2, by omega, fun u u0 u1 hv => ?_⟩
    by_cases z : u = m
    · rw [z, hD]; exact Or.inr ⟨q2, by omega⟩
    · rcases h with ⟨h1, h2⟩ | ⟨h1, h2, h3, h4, h5⟩
      · exact absurd hv (h2 u u0 (by omega))
      · have h6 := h5 u u0 (by omega) hv
        omega
  · rcases h with ⟨h1, h2⟩ | ⟨h1, h2, h3, h4, h5⟩
    · exact absurd h1 q1
    · have e1 := cnt_fi (P := fun u => us g u ∧ farW g f n u = x') (v := m) m0 (fun z => by have z2 := z.2; omega)
      rw [← q3] at h3 h4 h5
      refine Or.inr ⟨by omega, by rw [q4]; exact h2, by rw [q4]; exact h3, by rw [e1, q5]; exact h4, fun u u0 u1 hv => ?_⟩
      by_cases z : u = m
      · rw [z, hD]; exact Or.inl (by omega)
      · rw [q4]; exact h5 u u0 (by omega) hv
  · rcases h with ⟨h1, h2⟩ | ⟨h1, h2, h3, h4, h5⟩
    · exact absurd h1 q1
    · have e1 := cnt_ti (P := fun u => us g u ∧ farW g f n u = x') (v := m) m0 ⟨hu, by omega⟩
      rw [← q3] at h3 h4 h5
      refine Or.inr ⟨by omega, by rw [q4]; exact h2, by rw [q4]; exact h3, by rw [e1, q5, ← h4], fun u u0 u1 hv => ?_⟩
      by_cases z : u = m
      · rw [z, hD]; exact Or.inr ⟨by omega, by omega⟩
      · rw [q4]; exact h5 u u0 (by omega) hv

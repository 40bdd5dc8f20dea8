section EDM
variable {d : Nat} {g : G} {h : AH} {K : Int → AH → Prop}
theorem mFarRow (hd : 1 < d) {n w : Int} {f : Int → Int} (r : RepM g h) (q : Row0 n f h) (w0 : 0 ≤ w) (w1 : w < gn g) (k : ∀ h', Fr [90] [] h h' → K (farW g f n w) h') : Call d M_M_farFromRow [vR 12 (-1), vI w] h K := by
  have nb := r.ok.nb
  have lb := r.ok.lb w0 w1
  obtain ⟨q1, q2, q3⟩ := q
  refine c_M_farFromRow 1 hd ?_
  have cell : ∀ m : Nat, ∀ (i j : Nat) (hh : AH), (i : Int) ≤ n → (j : Int) ≤ gl g w + 1 → (n - i) * 10 - j + 10 < m → Fr [90] [] h hh → (∀ a b : Nat, (a : Int) ≤ n → (b : Int) ≤ gl g w → (a < i ∨ (a = i ∧ b < j)) → hh.1 90 (9 * (a : Int) + b) = ed f (gt g w) a b) → A_M_farFromRow_12 1 K w i j hh := by
    intro m
    induction m with
    | zero => intro i j hh x1 x2 e; omega
    | succ m ih =>
      intro i j hh x1 x2 e ff t
      have rr := r.fr ff
      refine s_M_farFromRow_12 ⟨ib (by omega), ?_⟩
      rw [rr.l w0 w1]
      have put : (j : Int) ≤ gl g w → ∀ x, x = ed f (gt g w) i j → A_M_farFromRow_126 1 K w i j x hh := fun hj x hx => s_M_farFromRow_126 ⟨ii (by omega), ii (by omega), ib (by omega), ii (by omega), ih i (j + 1) _ x1 (by omega) (by omega) (ff.trans (Fr.wI (Or.inl (by decide)))) (fun a b a1 b1 hab => by
        by_cases z : a = i ∧ b = j
        · rw [z.1, z.2, rI_eq]; exact hx
        · rw [rI_nk (by omega)]; exact t a b a1 b1 (by omega))⟩
      refine ⟨fun c => ⟨ii (by omega), s_M_farFromRow_2 ?_⟩, fun c => ?_⟩
      · have e9 : hh.1 12 9 = n := by rw [ff.i 12]; exact q1
        rw [e9, rr.l w0 w1]
        refine ⟨fun c2 => ?_, fun c2 => ih (i + 1) 0 hh (by omega) (by omega) (by omega) ff (fun a b a1 b1 hab => t a b a1 b1 (by omega))⟩
        have tt := t n.toNat (gl g w).toNat (by omega) (by omega) (by omega)
        rw [Int.toNat_of_nonneg q2.1, Int.toNat_of_nonneg (by omega)] at tt
        refine ⟨ii (by omega), ib (by omega), ii (by omega), ib (by omega), ?_⟩
        rw [tt]
        exact k hh ff
      · refine ⟨fun ci => ⟨fun cj => ?_, fun cj => s_M_farFromRow_78 ⟨fun z => by omega, fun _ => ⟨fun _ => put c _ ?_, fun z => by omega⟩⟩⟩, fun ci => s_M_farFromRow_78 ⟨fun _ => put c _ ?_, fun z => by omega⟩⟩
        · obtain ⟨i, rfl⟩ : ∃ a, i = a + 1 := ⟨i - 1, by omega⟩
          obtain ⟨j, rfl⟩ : ∃ a, j = a + 1 := ⟨j - 1, by omega⟩
          have t1 := t i j (by omega) (by omega) (by omega)
          have t2 := t i (j + 1) (by omega) (by omega) (by omega)
          have t3 := t (i + 1) j (by omega) (by omega) (by omega)
          have b1 := ed_b f (gt g w) i j
          have b2 := ed_b f (gt g w) i (j + 1)
          have b3 := ed_b f (gt g w) (i + 1) j
          have ei : ((i + 1 : Nat) : Int) - 1 = i := by omega
          have ej : ((j + 1 : Nat) : Int) - 1 = j := by omega
          have e1 : 9 * (((i + 1 : Nat) : Int) - 1) + ((j + 1 : Nat) : Int) - 1 = 9 * (i : Int) + j := by omega
          have e2 : 9 * (((i + 1 : Nat) : Int) - 1) + ((j + 1 : Nat) : Int) = 9 * (i : Int) + ((j + 1 : Nat) : Int) := by omega
          have e3 : 9 * ((i + 1 : Nat) : Int) + ((j + 1 : Nat) : Int) - 1 = 9 * ((i + 1 : Nat) : Int) + j := by omega
          refine ⟨ii (by omega), ii (by omega), ii (by omega), ii (by omega), ib (by omega), ib (by omega), ii (by omega), mLetter (by decide) rr w0 w1 (by omega) (by omega) ?_⟩
          rw [e1, ei, ej, t1, ff.i 63, q3 i (by omega) (by omega)]
          have hs : (if f i = gt g w j then (0 : Int) else 1) = 0 ∨ (if f i = gt g w j then (0 : Int) else 1) = 1 := by
            split
            · exact Or.inl rfl
            · exact Or.inr rfl
          refine ⟨ii (by omega), s_M_farFromRow_78 ⟨fun z => by omega, fun _ => ⟨fun z => by omega, fun _ => ⟨ii (by omega), ii (by omega), ii (by omega), ib (by omega), ii (by omega), ii (by omega), ii (by omega), ib (by omega), ?_⟩⟩⟩⟩
          rw [e2, e3, t2, t3]
          exact mMin (by decide) ⟨ii (by omega), mMin (by decide) (put c _ rfl)⟩
        · have ej : j = 0 := by omega
          subst ej
          rw [ed_0]
        · have ei : i = 0 := by omega
          subst ei
          rfl
  refine s_M_farFromRow_2 ?_
  rw [q1]
  exact ⟨fun c => by omega, fun c => cell (n.toNat * 10 + 12) 0 0 h (by omega) (by omega) (by omega) Fr.refl (fun a b a1 b1 hab => by omega)⟩
end EDM

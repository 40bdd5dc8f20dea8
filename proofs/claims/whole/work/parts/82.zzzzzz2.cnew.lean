/-! the class' new words: join -/
theorem TabN.or {h h' : AH} {k w r : Int} {N : Nat} (t : TabN h) (w0 : 0 ≤ w) (w1 : w < 40) (r0 : 0 ≤ r) (r1 : r < h.1 8 7) (ek : keyR h r = k) (eN : h.2.1 45 r = (N : Int)) (hN : N < 1099511627776) (e45r : h'.2.1 45 r = ((N ||| 1 <<< w.toNat : Nat) : Int)) (hN2 : N ||| 1 <<< w.toNat < 1099511627776) (e45 : ∀ x, x ≠ r → h'.2.1 45 x = h.2.1 45 x) (e44 : ∀ x, h'.2.1 44 x = h.2.1 44 x) (ei : ∀ o x, h'.1 o x = h.1 o x) : TabN h' ∧ (∀ x, HasK h' x ↔ HasK h x ∨ x = k) ∧ (∀ x b, 0 ≤ b → (Jn h' x b ↔ Jn h x b ∨ (x = k ∧ b = w))) := by
  have ko : ∀ r, keyR h' r = keyR h r := e44
  have hk : HasK h k := ⟨r, ⟨r0, r1⟩, ek⟩
  refine ⟨?_, fun x => ?_, fun x b b0 => ?_⟩
  · obtain ⟨t1, t2, t3, t4, t5⟩ := t
    unfold TabN
    simp only [ei, ko]
    refine ⟨t1, t2, t3, t4, fun r' a b => ?_⟩
    by_cases q : r' = r
    · rw [q, e45r]; exact ⟨_, hN2, rfl⟩
    · rw [e45 r' q]; exact t5 r' a b
  · unfold HasK
    simp only [ei, ko]
    constructor
    · exact Or.inl
    · rintro (y | y)
      · exact y
      · rw [y]; exact hk
  · unfold Jn
    simp only [ei, ko]
    constructor
    · rintro ⟨r', rb, e, M, e2, e3⟩
      by_cases q : r' = r
      · rw [q, e45r] at e2
        have e2 : M = N ||| 1 <<< w.toNat := by omega
        rw [e2] at e3
        rcases (bor_t w0 b0).mp e3 with y | y
        · exact Or.inl ⟨r, ⟨r0, r1⟩, by rw [q] at e; exact e, N, eN, y⟩
        · rw [q, ek] at e
          exact Or.inr ⟨e.symm, y.symm⟩
      · rw [e45 r' q] at e2
        exact Or.inl ⟨r', rb, e, M, e2, e3⟩
    · rintro (⟨r', rb, e, M, e2, e3⟩ | ⟨e, e2⟩)
      · by_cases q : r' = r
        · rw [q] at e e2
          have e4 : M = N := by omega
          exact ⟨r, ⟨r0, r1⟩, e, _, e45r, (bor_t w0 b0).mpr (Or.inl (by rw [← e4]; exact e3))⟩
        · exact ⟨r', rb, e, M, by rw [e45 r' q]; exact e2, e3⟩
      · exact ⟨r, ⟨r0, r1⟩, by rw [ek, e], _, e45r, (bor_t w0 b0).mpr (Or.inr e2.symm)⟩
section CN1
variable {d : Nat} {h : AH} {Q : Int → AH → Prop}
theorem cJoin (hd : 1 < d) {k w : Int} (t : TabN h) (w0 : 0 ≤ w) (w1 : w < 40) (room : h.1 8 7 < 16000 ∨ HasK h k) (kk : ∀ h', TabN h' → (∀ x, HasK h' x ↔ HasK h x ∨ x = k) → (∀ x b, 0 ≤ b → (Jn h' x b ↔ Jn h x b ∨ (x = k ∧ b = w))) → (HasK h k → h'.1 8 7 = h.1 8 7) → h'.1 8 7 ≤ h.1 8 7 + 1 → Fr [42, 43, 44, 45] [(8, 7)] h h' → Q 0 h') : Call d M_NewWords_join [vR 8 (-1), vL k, vI w] h Q := by
  refine c_NewWords_join 1 hd ?_
  have hb : 0 ≤ hsh k ∧ hsh k < 32768 := iand_mask
  have key : ∀ (m i : Nat), i + m = 32768 → (∀ j : Nat, j < i → h.1 42 ((hsh k + j) % 32768) ≠ 0 ∧ keyR h (h.1 42 ((hsh k + j) % 32768) - 1) ≠ k) → A_NewWords_join_18 1 Q k w ((hsh k + i) % 32768) i h := by
    intro m
    induction m with
    | zero =>
      intro i e path
      exact (t.free (fun s s0 s1 => by
        have := (path ((s - hsh k) % 32768).toNat (by omega)).1
        rw [show (hsh k + (((s - hsh k) % 32768).toNat : Int)) % 32768 = s by omega] at this
        exact this)).elim
    | succ m ih =>
      intro i e path
      obtain ⟨t1, t2, t3, t4, t5⟩ := t
      generalize hs : (hsh k + (i : Int)) % 32768 = s
      have sb : 0 ≤ s ∧ s < 32768 := by omega
      have s42 : h.1 42 s = 0 ∨ (1 ≤ h.1 42 s ∧ h.1 42 s ≤ h.1 8 7) := by
        by_cases z : h.1 42 s = 0
        · exact Or.inl z
        · exact Or.inr (t3 s sb.1 sb.2 z).1
      refine s_NewWords_join_18 ⟨fun z => by omega, fun _ => ⟨ib (by omega), ii (by omega), fun z => ⟨ib (by omega), fun z2 => ⟨ii (by omega), ii (by omega), ?_⟩, fun z2 => ?_⟩, fun z => ?_⟩⟩
      · rw [iand_next sb.1 sb.2]
        have := ih (i + 1) (by omega) (fun j hj => by
          by_cases q : j = i
          · rw [q, hs]; exact ⟨by omega, z2⟩
          · exact path j (by omega))
        rw [show (s + 1) % 32768 = (hsh k + ((i + 1 : Nat) : Int)) % 32768 by omega, show ((i : Int) + 1) = ((i + 1 : Nat) : Int) by omega]
        exact this
      · obtain ⟨N, hN, eN⟩ := t5 (h.1 42 s - 1) (by omega) (by omega)
        obtain ⟨o1, o2⟩ := lor1 hN w0 w1
        rw [eN, o1]
        obtain ⟨g1, g2, g3⟩ := TabN.or (h' := wL h 45 (h.1 42 s - 1) ((N ||| 1 <<< w.toNat : Nat) : Int)) ⟨t1, t2, t3, t4, t5⟩ w0 w1 z (by omega) z2 eN hN rL_eq o2 (fun x hx => rL_nk hx) (fun x => rL_ne (by decide)) (fun _ _ => rfl)
        exact kk _ g1 g2 g3 (fun _ => rfl) (by show h.1 8 7 ≤ h.1 8 7 + 1; omega) (Fr.wL (Or.inl (by decide)))
      · have z0 : h.1 42 s = 0 := by omega
        have no : ¬ HasK h k := fun ⟨r, rb, er⟩ => by
          obtain ⟨a1, a2, i', a3, a4, a5⟩ := t2 r rb.1 rb.2
          rw [er] at a4 a5
          by_cases q : i' < i
          · have := (path i' q).2
            rw [← a4, a2, show r + 1 - 1 = r by omega] at this
            exact this er
          · by_cases q2 : i' = i
            · rw [q2, hs] at a4
              rw [a4] at a2
              omega
            · have := a5 i (by omega)
              rw [hs] at this
              exact this z0
        have R1 : h.1 8 7 < 16000 := room.elim id (fun y => absurd y no)
        refine c_NewWords_addRow 0 (by decide) ⟨fun y => by omega, fun _ => ⟨ib (by omega), ii (by omega), ib (by omega), ?_⟩⟩
        have e1 : lshl 1 w = ((1 <<< w.toNat : Nat) : Int) := by
          have := lor1 (N := 0) (by decide) w0 w1
          have e := lshl_nat (a := 1) (s := w.toNat) (Nat.lt_trans (shl_le (by omega)) (by decide)) (by omega)
          rw [Int.toNat_of_nonneg w0] at e
          exact e
        rw [e1]
        have f0 : Fr [42, 43, 44, 45] [(8, 7)] h (wI (wI (wI (wL (wL h 44 (h.1 8 7) k) 45 (h.1 8 7) ((1 <<< w.toNat : Nat) : Int)) 43 (h.1 8 7) s) 8 7 (h.1 8 7 + 1)) 42 s (h.1 8 7 + 1)) := ((((Fr.wL (Or.inl (by decide))).trans (Fr.wL (Or.inl (by decide)))).trans (Fr.wI (Or.inl (by decide)))).trans (Fr.wI (Or.inr (by decide)))).trans (Fr.wI (Or.inl (by decide)))
        have e7 : (wI (wI (wI (wL (wL h 44 (h.1 8 7) k) 45 (h.1 8 7) ((1 <<< w.toNat : Nat) : Int)) 43 (h.1 8 7) s) 8 7 (h.1 8 7 + 1)) 42 s (h.1 8 7 + 1)).1 8 7 = h.1 8 7 + 1 := by rw [rI_ne (by decide)]; exact rI_eq
        obtain ⟨g1, g2, g3⟩ := TabN.add (h' := wI (wI (wI (wL (wL h 44 (h.1 8 7) k) 45 (h.1 8 7) ((1 <<< w.toNat : Nat) : Int)) 43 (h.1 8 7) s) 8 7 (h.1 8 7 + 1)) 42 s (h.1 8 7 + 1)) (k := k) (w := w) (s := s) (i := i) ⟨t1, t2, t3, t4, t5⟩ w0 w1 R1 hs.symm (by omega) (fun j hj => (path j hj).1) z0 no e7 rI_eq (fun x hx => by rw [rI_nk hx, rI_ne (by decide), rI_ne (by decide)]; rfl) (by rw [rI_ne (by decide), rI_ne (by decide)]; exact rI_eq) (fun x hx => by rw [rI_ne (by decide), rI_ne (by decide), rI_nk hx]; rfl) (by rw [rL_I, rL_I, rL_I, rL_ne (by decide)]; exact rL_eq) (fun x hx => by rw [rL_I, rL_I, rL_I, rL_ne (by decide), rL_nk hx]) (by rw [rL_I, rL_I, rL_I]; exact rL_eq) (fun x hx => by rw [rL_I, rL_I, rL_I, rL_nk hx, rL_ne (by decide)])
        exact kk _ g1 g2 g3 (fun y => absurd y no) (by rw [e7]; omega) f0
  have := key 32768 0 (by decide) (fun j hj => by omega)
  rw [show (hsh k + ((0 : Nat) : Int)) % 32768 = hsh k by omega] at this
  exact this
end CN1

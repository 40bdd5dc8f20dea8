/-! the class: how far two rows of letters are -/
section EDC
variable {d : Nat} {g : G} {h : AH} {K : Int → AH → Prop}
theorem cApart_t (hd : 1 < d) {n w : Int} {f : Int → Int} (r : RepCW g h) (n0 : 0 ≤ n) (n1 : n ≤ 12) (tl : ∀ i, 0 ≤ i → i < n → h.1 46 i = f i) (w0 : 0 ≤ w) (w1 : w < gn g) (k : ∀ h', Fr [47] [] h h' → K (farW g f n w) h') : Call d M_Spelling_apartFrom [vR 9 (-1), vR 46 (-1), vI n, vI w] h K := by
  have nb := r.ok.nb
  have lb := r.ok.lb w0 w1
  refine c_Spelling_apartFrom_t 1 hd ⟨ib (by omega), ?_⟩
  rw [r.1.l w0 w1]
  have rest : ∀ m : Nat, ∀ (i : Nat) (hh : AH), (i : Int) ≤ n → n - i < m → Fr [47] [] h hh → (∀ b : Nat, (b : Int) ≤ gl g w → hh.1 47 b = ed f (gt g w) i b) → A_Spelling_apartFrom_t_57 1 K n w (gl g w) i hh := by
    intro m
    induction m with
    | zero => intro i hh x1 e; omega
    | succ m ih =>
      intro i hh x1 e ff t
      have done : n ≤ (i : Int) → inb (gl g w) 9 ∧ K (hh.1 47 (gl g w)) hh := fun c => by
        have tt := t (gl g w).toNat (by omega)
        rw [Int.toNat_of_nonneg (by omega), show i = n.toNat by omega] at tt
        rw [tt]
        exact ⟨ib (by omega), k hh ff⟩
      refine s_Spelling_apartFrom_t_57 ⟨fun c => done c, fun c => ⟨fun c2 => done (by omega), fun c2 => ⟨ii (by omega), ?_⟩⟩⟩
      have cell : ∀ m : Nat, ∀ (j : Nat) (h3 : AH), (j : Int) ≤ gl g w → gl g w - j < m → Fr [47] [] h h3 → (∀ b : Nat, b < j + 1 → h3.1 47 b = ed f (gt g w) (i + 1) b) → (∀ b : Nat, j < b → (b : Int) ≤ gl g w → h3.1 47 b = ed f (gt g w) i b) → A_Spelling_apartFrom_t_91 1 K n w (gl g w) i (ed f (gt g w) i j) ((j : Int) + 1) h3 := by
        intro m
        induction m with
        | zero => intro j h3 y1 e; omega
        | succ m ih2 =>
          intro j h3 y1 e2 f3 s1 s2
          refine s_Spelling_apartFrom_t_91 ⟨fun c2 => ⟨ii (by omega), ?_⟩, fun c2 => ⟨fun c3 => by omega, fun c3 => ?_⟩⟩
          · exact ih (i + 1) h3 (by omega) (by omega) f3 (fun b hb => s1 b (by omega))
          · have b1 := ed_b f (gt g w) i j
            have b2 := ed_b f (gt g w) i (j + 1)
            have b3 := ed_b f (gt g w) (i + 1) j
            have t2 := s2 (j + 1) (by omega) (by omega)
            have t3 := s1 j (by omega)
            rw [show ((j + 1 : Nat) : Int) = (j : Int) + 1 by omega] at t2
            have put : ∀ s0, s0 = ed f (gt g w) i j + (if f i = gt g w j then 0 else 1) → 0 ≤ s0 ∧ s0 ≤ 100 → A_Spelling_apartFrom_t_128 1 K n w (gl g w) i ((j : Int) + 1) s0 h3 := fun s0 hs hs2 => s_Spelling_apartFrom_t_128 (by
              rw [show (j : Int) + 1 - 1 = j by omega, t2, t3]
              refine ⟨ib (by omega), ii (by omega), ib (by omega), Nat.le_refl 1, ii (by omega), ii (by omega), ?_⟩
              refine ih2 (j + 1) _ (by omega) (by omega) (f3.trans (Fr.wI (Or.inl (by decide)))) (fun b hb => ?_) (fun b hb1 hb2 => ?_)
              · by_cases z : b = j + 1
                · rw [z, show ((j + 1 : Nat) : Int) = (j : Int) + 1 by omega, rI_eq, hs]
                  rfl
                · rw [rI_nk (by omega)]; exact s1 b (by omega)
              · rw [rI_nk (by omega)]; exact s2 b (by omega) hb2)
            rw [show (j : Int) + 1 - 1 = j by omega]
            refine ⟨ib (by omega), ii (by omega), ib (by omega), ib (by omega), ?_⟩
            rw [f3.i 46, tl i (by omega) (by omega), (r.fr f3).1.t w0 w1 (by omega) (by omega)]
            refine ⟨fun z => ⟨ii (by omega), put _ (by rw [if_neg z]) (by omega)⟩, fun z => put _ (by rw [if_pos z]; omega) (by omega)⟩
      have t0 := t 0 (by omega)
      rw [show ((0 : Nat) : Int) = 0 from rfl] at t0
      rw [t0]
      exact cell ((gl g w).toNat + 1) 0 _ (by omega) (by omega) (ff.trans (Fr.wI (Or.inl (by decide)))) (fun b hb => by
        rw [show b = 0 by omega, show ((0 : Nat) : Int) = 0 from rfl, rI_eq]
        rfl) (fun b hb1 hb2 => by rw [rI_nk (by omega)]; exact t b hb2)
  have first : ∀ m : Nat, ∀ (j : Nat) (hh : AH), (j : Int) ≤ gl g w + 1 → gl g w + 1 - j < m → Fr [47] [] h hh → (∀ b : Nat, b < j → hh.1 47 b = b) → A_Spelling_apartFrom_t_25 1 K n w (gl g w) j hh := by
    intro m
    induction m with
    | zero => intro j hh x1 e; omega
    | succ m ih =>
      intro j hh x1 e ff t
      refine s_Spelling_apartFrom_t_25 ⟨fun c => rest (n.toNat + 1) 0 hh (by omega) (by omega) ff (fun b hb => by rw [t b (by omega)]; rfl), fun c => ⟨fun c2 => by omega, fun c2 => ⟨ib (by omega), ii (by omega), ih (j + 1) _ (by omega) (by omega) (ff.trans (Fr.wI (Or.inl (by decide)))) (fun b hb => ?_)⟩⟩⟩
      by_cases z : b = j
      · rw [z, rI_eq]
      · rw [rI_nk (by omega)]; exact t b (by omega)
  exact first 20 0 h (by omega) (by omega) Fr.refl (fun b hb => by omega)
end EDC
/-! the class: how far two rows of letters are -/
section EDC
variable {d : Nat} {g : G} {h : AH} {K : Int → AH → Prop}
theorem cApart_w (hd : 1 < d) {n w a : Int} {f : Int → Int} (r : RepCW g h) (n0 : 0 ≤ n) (n1 : n ≤ 8) (a0 : 0 ≤ a) (a1 : a < 40) (tl : ∀ i, 0 ≤ i → i < n → h.2.2 14 a i = f i) (w0 : 0 ≤ w) (w1 : w < gn g) (k : ∀ h', Fr [47] [] h h' → K (farW g f n w) h') : Call d M_Spelling_apartFrom [vR 9 (-1), vR 14 a, vI n, vI w] h K := by
  have nb := r.ok.nb
  have lb := r.ok.lb w0 w1
  refine c_Spelling_apartFrom_w 1 hd ⟨ib (by omega), ?_⟩
  rw [r.1.l w0 w1]
  have rest : ∀ m : Nat, ∀ (i : Nat) (hh : AH), (i : Int) ≤ n → n - i < m → Fr [47] [] h hh → (∀ b : Nat, (b : Int) ≤ gl g w → hh.1 47 b = ed f (gt g w) i b) → A_Spelling_apartFrom_w_57 1 K a n w (gl g w) i hh := by
    intro m
    induction m with
    | zero => intro i hh x1 e; omega
    | succ m ih =>
      intro i hh x1 e ff t
      have done : n ≤ (i : Int) → inb (gl g w) 9 ∧ K (hh.1 47 (gl g w)) hh := fun c => by
        have tt := t (gl g w).toNat (by omega)
        rw [Int.toNat_of_nonneg (by omega), show i = n.toNat by omega] at tt
        rw [tt]
        exact ⟨ib (by omega), k hh ff⟩
      refine s_Spelling_apartFrom_w_57 ⟨fun c => done c, fun c => ⟨ib (by omega), fun c2 => done (by omega), fun c2 => ⟨ii (by omega), ?_⟩⟩⟩
      have cell : ∀ m : Nat, ∀ (j : Nat) (h3 : AH), (j : Int) ≤ gl g w → gl g w - j < m → Fr [47] [] h h3 → (∀ b : Nat, b < j + 1 → h3.1 47 b = ed f (gt g w) (i + 1) b) → (∀ b : Nat, j < b → (b : Int) ≤ gl g w → h3.1 47 b = ed f (gt g w) i b) → A_Spelling_apartFrom_w_91 1 K a n w (gl g w) i (ed f (gt g w) i j) ((j : Int) + 1) h3 := by
        intro m
        induction m with
        | zero => intro j h3 y1 e; omega
        | succ m ih2 =>
          intro j h3 y1 e2 f3 s1 s2
          refine s_Spelling_apartFrom_w_91 ⟨fun c2 => ⟨ii (by omega), ?_⟩, fun c2 => ⟨fun c3 => by omega, fun c3 => ?_⟩⟩
          · exact ih (i + 1) h3 (by omega) (by omega) f3 (fun b hb => s1 b (by omega))
          · have b1 := ed_b f (gt g w) i j
            have b2 := ed_b f (gt g w) i (j + 1)
            have b3 := ed_b f (gt g w) (i + 1) j
            have t2 := s2 (j + 1) (by omega) (by omega)
            have t3 := s1 j (by omega)
            rw [show ((j + 1 : Nat) : Int) = (j : Int) + 1 by omega] at t2
            have put : ∀ s0, s0 = ed f (gt g w) i j + (if f i = gt g w j then 0 else 1) → 0 ≤ s0 ∧ s0 ≤ 100 → A_Spelling_apartFrom_w_128 1 K a n w (gl g w) i ((j : Int) + 1) s0 h3 := fun s0 hs hs2 => s_Spelling_apartFrom_w_128 (by
              rw [show (j : Int) + 1 - 1 = j by omega, t2, t3]
              refine ⟨ib (by omega), ii (by omega), ib (by omega), Nat.le_refl 1, ii (by omega), ii (by omega), ?_⟩
              refine ih2 (j + 1) _ (by omega) (by omega) (f3.trans (Fr.wI (Or.inl (by decide)))) (fun b hb => ?_) (fun b hb1 hb2 => ?_)
              · by_cases z : b = j + 1
                · rw [z, show ((j + 1 : Nat) : Int) = (j : Int) + 1 by omega, rI_eq, hs]
                  rfl
                · rw [rI_nk (by omega)]; exact s1 b (by omega)
              · rw [rI_nk (by omega)]; exact s2 b (by omega) hb2)
            rw [show (j : Int) + 1 - 1 = j by omega]
            refine ⟨ib (by omega), ib (by omega), ii (by omega), ib (by omega), ib (by omega), ?_⟩
            rw [f3.r 14, tl i (by omega) (by omega), (r.fr f3).1.t w0 w1 (by omega) (by omega)]
            refine ⟨fun z => ⟨ii (by omega), put _ (by rw [if_neg z]) (by omega)⟩, fun z => put _ (by rw [if_pos z]; omega) (by omega)⟩
      have t0 := t 0 (by omega)
      rw [show ((0 : Nat) : Int) = 0 from rfl] at t0
      rw [t0]
      exact cell ((gl g w).toNat + 1) 0 _ (by omega) (by omega) (ff.trans (Fr.wI (Or.inl (by decide)))) (fun b hb => by
        rw [show b = 0 by omega, show ((0 : Nat) : Int) = 0 from rfl, rI_eq]
        rfl) (fun b hb1 hb2 => by rw [rI_nk (by omega)]; exact t b hb2)
  have first : ∀ m : Nat, ∀ (j : Nat) (hh : AH), (j : Int) ≤ gl g w + 1 → gl g w + 1 - j < m → Fr [47] [] h hh → (∀ b : Nat, b < j → hh.1 47 b = b) → A_Spelling_apartFrom_w_25 1 K a n w (gl g w) j hh := by
    intro m
    induction m with
    | zero => intro j hh x1 e; omega
    | succ m ih =>
      intro j hh x1 e ff t
      refine s_Spelling_apartFrom_w_25 ⟨fun c => rest (n.toNat + 1) 0 hh (by omega) (by omega) ff (fun b hb => by rw [t b (by omega)]; rfl), fun c => ⟨fun c2 => by omega, fun c2 => ⟨ib (by omega), ii (by omega), ih (j + 1) _ (by omega) (by omega) (ff.trans (Fr.wI (Or.inl (by decide)))) (fun b hb => ?_)⟩⟩⟩
      by_cases z : b = j
      · rw [z, rI_eq]
      · rw [rI_nk (by omega)]; exact t b (by omega)
  exact first 20 0 h (by omega) (by omega) Fr.refl (fun b hb => by omega)
end EDC

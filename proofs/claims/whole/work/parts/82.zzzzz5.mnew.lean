/-! there is always a new row -/
theorem pigeon : ∀ (n : Nat) (σ : Nat → Nat), (∀ j, j ≤ n → σ j < n) → ∃ i j, i < j ∧ j ≤ n ∧ σ i = σ j
  | 0, σ, h => absurd (h 0 (Nat.le_refl 0)) (Nat.not_lt_zero _)
  | n + 1, σ, h => by
    by_cases z : ∃ i, i ≤ n ∧ σ i = σ (n + 1)
    · obtain ⟨i, i1, i2⟩ := z
      exact ⟨i, n + 1, by omega, Nat.le_refl _, i2⟩
    · have ne : ∀ i, i ≤ n → σ i ≠ σ (n + 1) := fun i hi e => z ⟨i, hi, e⟩
      have ha := h (n + 1) (Nat.le_refl _)
      obtain ⟨i, j, ij, jn, e⟩ := pigeon n (fun i => if σ i = n then σ (n + 1) else σ i) (fun j hj => by
        show (if σ j = n then σ (n + 1) else σ j) < n
        have hj2 := h j (by omega)
        have hj3 := ne j hj
        split <;> omega)
      have e : (if σ i = n then σ (n + 1) else σ i) = (if σ j = n then σ (n + 1) else σ j) := e
      have n1 := ne i (by omega)
      have n2 := ne j (by omega)
      refine ⟨i, j, ij, by omega, ?_⟩
      by_cases z1 : σ i = n
      · by_cases z2 : σ j = n
        · omega
        · rw [if_pos z1, if_neg z2] at e
          omega
      · by_cases z2 : σ j = n
        · rw [if_neg z1, if_pos z2] at e
          omega
        · rw [if_neg z1, if_neg z2] at e
          exact e
def oth (a j : Int) : Int := if j < a then j else j + 1
theorem oth_b {a j : Int} (j0 : 0 ≤ j) (j1 : j < 25) : oth a j ≠ a ∧ 0 ≤ oth a j ∧ oth a j ≤ 25 := by
  unfold oth
  split <;> omega
theorem oth_inj {a j j' : Int} (e : oth a j = oth a j') : j = j' := by
  unfold oth at e
  split at e <;> split at e <;> omega
theorem exNew {g : G} (ok : OkG g) {w : Int} (w0 : 0 ≤ w) (w1 : w < gn g) (u : us g w) : ∃ n f, NewOk g n f := by
  apply Classical.byContradiction
  intro no
  have nb := ok.nb
  have lb := ok.lb w0 w1
  have tb : ∀ k, 0 ≤ k → k < gl g w → 0 ≤ gt g w k ∧ gt g w k ≤ 25 := fun k a b => ok.tb w0 w1 a b
  have isW : ∀ n f, 1 ≤ n → n ≤ 8 → okF f n.toNat → NearR g w n f → ∃ w', 0 ≤ w' ∧ w' < gn g ∧ same g w' n f := fun n f n0 n1 o nr => by
    apply Classical.byContradiction
    intro z
    exact no ⟨n, f, ⟨n0, n1⟩, o, fun w' a b s => z ⟨w', a, b, s⟩, w, ⟨w0, w1⟩, u, nr⟩
  have rep : ∀ p c : Int, 0 ≤ p → p < gl g w → 0 ≤ c → c < 25 → ∃ w', 0 ≤ w' ∧ w' < gn g ∧ same g w' (gl g w) (repR g w p (oth (gt g w p) c)) := fun p c p0 p1 c0 c1 => by
    have ob := oth_b (a := gt g w p) c0 c1
    refine isW _ _ (by omega) (by omega) (fun i i0 i1 => ?_) (Or.inl ⟨rfl, p, ⟨p0, p1⟩, ?_, fun i i0 i1 n1 => ?_⟩)
    · unfold repR
      split
      · exact ob.2
      · exact tb i i0 (by omega)
    · unfold repR; rw [if_pos rfl]; exact ob.1
    · unfold repR; rw [if_neg n1]
  have ins : ∀ c : Int, gl g w = 1 → 0 ≤ c → c < 26 → ∃ w', 0 ≤ w' ∧ w' < gn g ∧ same g w' (gl g w + 1) (insR g w 0 c) := fun c l c0 c1 => by
    refine isW _ _ (by omega) (by omega) (fun i i0 i1 => ?_) (Or.inr (Or.inr (Or.inl ⟨rfl, 0, ⟨Int.le_refl 0, by omega⟩, fun i i0 i1 => ?_⟩)))
    · unfold insR
      rw [if_neg (by omega)]
      split
      · omega
      · exact tb (i - 1) (by omega) (by omega)
    · unfold insR
      rw [if_neg (by omega), if_neg (by omega), if_neg (by omega), show i + 1 - 1 = i by omega]
  have cand : ∀ j : Nat, ∃ w' : Int, 0 ≤ w' ∧ w' < gn g ∧ ((j < 25 → same g w' (gl g w) (repR g w 0 (oth (gt g w 0) j))) ∧ (25 ≤ j → j ≤ 40 → (2 ≤ gl g w → same g w' (gl g w) (repR g w 1 (oth (gt g w 1) ((j : Int) - 25)))) ∧ (gl g w = 1 → same g w' (gl g w + 1) (insR g w 0 ((j : Int) - 25))))) := fun j => by
    by_cases z : j < 25
    · obtain ⟨w', a, b, c⟩ := rep 0 j (Int.le_refl 0) (by omega) (by omega) (by omega)
      exact ⟨w', a, b, fun _ => c, fun y => by omega⟩
    · by_cases z1 : j ≤ 40
      · by_cases z2 : 2 ≤ gl g w
        · obtain ⟨w', a, b, c⟩ := rep 1 ((j : Int) - 25) (by decide) (by omega) (by omega) (by omega)
          exact ⟨w', a, b, fun y => by omega, fun _ _ => ⟨fun _ => c, fun y => by omega⟩⟩
        · obtain ⟨w', a, b, c⟩ := ins ((j : Int) - 25) (by omega) (by omega) (by omega)
          exact ⟨w', a, b, fun y => by omega, fun _ _ => ⟨fun y => by omega, fun _ => c⟩⟩
      · exact ⟨w, w0, w1, fun y => by omega, fun _ y => by omega⟩
  obtain ⟨σ, hσ⟩ := Classical.axiomOfChoice cand
  obtain ⟨i, j, ij, jn, e⟩ := pigeon 40 (fun j => (σ j).toNat) (fun j _ => by
    have := hσ j
    show (σ j).toNat < 40
    omega)
  have e : σ i = σ j := by
    have e : (σ i).toNat = (σ j).toNat := e
    have a := hσ i
    have b := hσ j
    omega
  obtain ⟨_, _, a1, a2⟩ := hσ i
  obtain ⟨_, _, b1, b2⟩ := hσ j
  rw [← e] at b1 b2
  by_cases zi : i < 25
  · have a1 := a1 zi
    have r0 : ∀ c, repR g w 0 c 0 = c := fun c => by unfold repR; rw [if_pos rfl]
    have h0 := a1.2 0 (Int.le_refl 0) (by omega)
    rw [r0] at h0
    by_cases zj : j < 25
    · have h1 := (b1 zj).2 0 (Int.le_refl 0) (by omega)
      rw [r0] at h1
      have := oth_inj (h0.symm.trans h1)
      omega
    · by_cases z2 : 2 ≤ gl g w
      · have h1 := ((b2 (by omega) jn).1 z2).2 0 (Int.le_refl 0) (by omega)
        have r1 : repR g w 1 (oth (gt g w 1) ((j : Int) - 25)) 0 = gt g w 0 := by unfold repR; rw [if_neg (by omega)]
        rw [r1] at h1
        exact (oth_b (a := gt g w 0) (j := (i : Int)) (by omega) (by omega)).1 (h0.symm.trans h1)
      · have h1 := ((b2 (by omega) jn).2 (by omega)).1
        have := a1.1
        omega
  · have a2 := a2 (by omega) (by omega)
    have b2 := b2 (by omega) jn
    by_cases z2 : 2 ≤ gl g w
    · have h0 := (a2.1 z2).2 1 (by decide) (by omega)
      have h1 := (b2.1 z2).2 1 (by decide) (by omega)
      have r1 : ∀ c, repR g w 1 c 1 = c := fun c => by unfold repR; rw [if_pos rfl]
      rw [r1] at h0 h1
      have := oth_inj (h0.symm.trans h1)
      omega
    · have h0 := (a2.2 (by omega)).2 0 (Int.le_refl 0) (by omega)
      have h1 := (b2.2 (by omega)).2 0 (Int.le_refl 0) (by omega)
      have r1 : ∀ c, insR g w 0 c 0 = c := fun c => by unfold insR; rw [if_neg (by omega), if_pos rfl]
      rw [r1] at h0 h1
      omega
section MN5
variable {d : Nat} {g : G} {lw : LW} {h : AH} {K : Int → AH → Prop}
theorem jH_pos {n : Int} {f : Int → Int} (ok : OkG g) (hn : NewOk g n f) : 1 ≤ jH g lw n f := by
  obtain ⟨w, wb, u, nr⟩ := hn.2.2.2
  obtain ⟨v, hi⟩ := heap_ex (lw := lw) wb.1 wb.2 u
  have vb := hi.1
  have := cnt_zero (P := fun v => ∃ w, (0 ≤ w ∧ w < gn g) ∧ us g w ∧ NearR g w n f ∧ HeapIs g lw w v) (gn g).toNat
  apply Classical.byContradiction
  intro z
  exact this (by show jH g lw n f ≤ 0; omega) _ vb.1 (by omega) ⟨w, wb, u, nr, hi⟩
theorem mNewWord (hd : 9 < d) {q : Int} (r : RepM g h) (rl : RepML lw h) (k0 : ¬ ((0 ≤ q ∧ q ≤ 2) ∨ (10 ≤ q ∧ q ≤ 17)) → K (-1) h) (k : ∀ h' x, ((0 ≤ q ∧ q ≤ 2) ∨ (10 ≤ q ∧ q ≤ 17)) → NewA g lw q x → Fr [63, 76, 77, 78, 79, 80, 81, 84, 85] [(12, 9), (12, 41), (12, 42), (12, 43)] h h' → K x h') : Call d M_M_newWord [vR 12 (-1), vI q] h K := by
  have nb := r.ok.nb
  have main : ((0 ≤ q ∧ q ≤ 2) ∨ (10 ≤ q ∧ q ≤ 17)) → A_M_newWord_22 9 K q h := fun hq => by
    refine s_M_newWord_22 (mLaysWays (by decide) r rl (fun h1 wm lm f1 => ?_))
    have f2 : Fr [63, 76, 77, 78, 79, 80, 81, 84, 85] [(12, 9), (12, 41), (12, 42), (12, 43)] h (wI (wI (wI h1 12 41 0) 12 42 0) 12 43 99) := (f1.mono (by decide) (by decide)).trans (((Fr.wI (Or.inr (by decide))).trans (Fr.wI (Or.inr (by decide)))).trans (Fr.wI (Or.inr (by decide))))
    have f3 : Fr [85] [(12, 41), (12, 42), (12, 43)] h1 (wI (wI (wI h1 12 41 0) 12 42 0) 12 43 99) := ((Fr.wI (Or.inr (by decide))).trans (Fr.wI (Or.inr (by decide)))).trans (Fr.wI (Or.inr (by decide)))
    have last : ∀ (m : Nat) (v : Int) (hh : AH) (S : Int → (Int → Int) → Prop), (m : Int) = gn g - v → 0 ≤ v → RepM g hh → HW g lw hh → BestM g lw S hh → (∀ w, 0 ≤ w → w < v → us g w → ∀ p, 0 ≤ p → p ≤ gl g w → DoneP g S w p) → Fr [63, 76, 77, 78, 79, 80, 81, 84, 85] [(12, 9), (12, 41), (12, 42), (12, 43)] h hh → A_M_newWord_79 9 K q v hh := by
      intro m
      induction m with
      | zero =>
        intro v hh S e v0 rr hw b dn ff
        have all : ∀ n f, NewOk g n f → S n f := fun n f hn => by
          obtain ⟨w, wb, u, nr⟩ := hn.2.2.2
          exact done_near (dn w wb.1 (by omega) u) nr hn.2.1
        refine s_M_newWord_79 ⟨fun _ => ?_, fun z => by rw [rr.n] at z; omega⟩
        rcases b with ⟨b1, b2, b3⟩ | ⟨n, f, b1, b2, b3, b4, b5, b6⟩
        · refine ⟨fun z => absurd b1 z, fun _ => k hh (-2) hq (Or.inl ⟨fun w w0 w1 u => ?_, rfl⟩) ff⟩
          obtain ⟨n, f, hn⟩ := exNew r.ok w0 w1 u
          exact b3 n f (all n f hn) hn
        · have jp := jH_pos (lw := lw) r.ok b1
          have best : BestN g lw n f := ⟨b1, fun n' f' hn => b6 n' f' (all n' f' hn) hn⟩
          rw [b2, b3, b4]
          refine ⟨fun _ => ⟨fun q0 => ⟨fun q1 => ⟨fun q2 => ⟨ii (by omega), fun z => ?_, fun z => ⟨ib (by have := b1.1; omega), ?_⟩⟩, fun q2 => ?_⟩, fun q1 => ?_⟩, fun q0 => ?_⟩, fun z => by omega⟩
          · exact k hh _ hq (Or.inr ⟨n, f, best, by rw [if_neg q0, if_neg q1, if_neg q2, if_neg (by omega)]⟩) ff
          · rw [b5 (q - 10) (by omega) z]
            exact k hh _ hq (Or.inr ⟨n, f, best, by rw [if_neg q0, if_neg q1, if_neg q2, if_pos z]⟩) ff
          · exact k hh _ hq (Or.inr ⟨n, f, best, by rw [if_neg q0, if_neg q1, if_pos q2]⟩) ff
          · exact k hh _ hq (Or.inr ⟨n, f, best, by rw [if_neg q0, if_pos q1]⟩) ff
          · exact k hh _ hq (Or.inr ⟨n, f, best, by rw [if_pos q0]⟩) ff
      | succ m ih =>
        intro v hh S e v0 rr hw b dn ff
        refine s_M_newWord_79 ⟨fun z => by rw [rr.n] at z; omega, fun _ => mIsUsed (by decide) rr v0 (by omega) (fun u => br1 (mTriesAbout (by decide) rr v0 (by omega) u hw b (fun h' S' b' mo dn' f' => ⟨ii (by omega), ih (v + 1) h' S' (by omega) (by omega) (rr.fr f') (hw.fr f') b' (fun w w0 w1 u' => ?_) (ff.trans (f'.mono (by decide) (by decide)))⟩))) (fun nu => br0 ⟨ii (by omega), ih (v + 1) hh S (by omega) (by omega) rr hw b (fun w w0 w1 u' => ?_) ff⟩)⟩
        · by_cases z : w = v
          · rw [z]; exact dn'
          · exact fun p p0 p1 => (dn w w0 (by omega) u' p p0 p1).mono mo
        · by_cases z : w = v
          · rw [z] at u'; exact absurd u' nu
          · exact dn w w0 (by omega) u'
    have first : ∀ (m : Nat) (v : Int) (hh : AH), (m : Int) = gn g - v → 0 ≤ v → Fr [85] [] (wI (wI (wI h1 12 41 0) 12 42 0) 12 43 99) hh → (∀ w, 0 ≤ w → w < v → us g w → HeapIs g lw w (hh.1 85 w)) → A_M_newWord_44 9 K q v hh := by
      intro m
      induction m with
      | zero =>
        intro v hh e v0 ff c
        have rr : RepM g hh := (r.fr f2).fr ff
        refine s_M_newWord_44 ⟨fun _ => last (gn g).toNat 0 hh (fun _ _ => False) (by omega) (Int.le_refl 0) rr (fun w w0 w1 u => c w w0 (by omega) u) (Or.inl ⟨?_, ?_, fun _ _ z => z.elim⟩) (fun w w0 w1 => by omega) (f2.trans (ff.mono (by decide) (by decide))), fun z => by rw [rr.n] at z; omega⟩
        · rw [ff.f 12 41, rI_nk (by decide), rI_nk (by decide)]; exact rI_eq
        · rw [ff.f 12 42, rI_nk (by decide)]; exact rI_eq
      | succ m ih =>
        intro v hh e v0 ff c
        have rr : RepM g hh := (r.fr f2).fr ff
        have wm' : WaysM g lw hh := fun a b a0 a1 b0 b1 => by
          rw [ff.i 81, f3.i 81]
          exact wm a b a0 a1 b0 b1
        refine s_M_newWord_44 ⟨fun z => by rw [rr.n] at z; omega, fun _ => mIsUsed (by decide) rr v0 (by omega) (fun u => br1 ?_) (fun nu => br0 ⟨ii (by omega), ih (v + 1) hh (by omega) (by omega) ff (fun w w0 w1 u' => ?_)⟩)⟩
        · obtain ⟨x, hx⟩ := heap_ex (lw := lw) v0 (by omega : v < gn g) u
          refine mHeapOf (by decide) r.ok wm' v0 (by omega) hx ⟨ib (by omega), ii (by omega), ih (v + 1) _ (by omega) (by omega) (ff.trans (Fr.wI (Or.inl (by decide)))) (fun w w0 w1 u' => ?_)⟩
          by_cases z : w = v
          · rw [z, rI_eq]; exact hx
          · rw [rI_nk z]; exact c w w0 (by omega) u'
        · by_cases z : w = v
          · rw [z] at u'; exact absurd u' nu
          · exact c w w0 (by omega) u'
    exact first (gn g).toNat 0 _ (by omega) (Int.le_refl 0) Fr.refl (fun w w0 w1 => by omega)
  refine c_M_newWord 9 hd (mIn (by decide) (fun p0 p1 => br1' (main (Or.inl ⟨p0, p1⟩))) (fun c => br0' (mIn (by decide) (fun p0 p1 => br1' (main (Or.inr ⟨p0, p1⟩))) (fun c2 => br0' (k0 (fun z => z.elim c c2))))))
end MN5

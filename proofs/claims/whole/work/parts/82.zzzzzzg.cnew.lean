/-! the class' new word -/
def NewC (g : G) (lw : LW) (h : AH) : Prop := (∃ w, 0 ≤ w ∧ w < gn g ∧ us g w) → ∃ n f, BestN g lw n f ∧ h.1 8 8 = jH g lw n f ∧ h.1 8 9 = jW g n f ∧ h.2.1 8 10 = (keyN f n.toNat : Int)
section CNH
variable {d : Nat} {g : G} {lw : LW} {h : AH} {K : Int → AH → Prop}
theorem HeapsC.fr2 {L : List Nat} {F : List (Nat × Int)} {h' : AH} (hp : HeapsC g lw h) (f : Fr L F h h') (h1 : 38 ∉ L := by decide) (h2 : 38 ∉ F.map Prod.fst := by decide) : HeapsC g lw h' := fun w a b u => by
  rw [f.i 38 h1 h2]
  exact hp w a b u
theorem TW.row (t : TW g (gn g) h) (ok : OkG g) {v : Int} (v0 : 0 ≤ v) (v1 : v < h.1 8 7) : ∃ (n : Int) (f : Int → Int) (N : Nat), (1 ≤ n ∧ n ≤ 8) ∧ okF f n.toNat ∧ keyR h v = (keyN f n.toNat : Int) ∧ h.2.1 45 v = (N : Int) ∧ N < 1099511627776 ∧ (∀ b : Nat, N.testBit b = true ↔ (b : Int) < gn g ∧ us g b ∧ (NearR g b n f ∨ same g b n f)) ∧ ∃ b : Nat, N.testBit b = true := by
  obtain ⟨w, wb, wu, wd⟩ := (t.2.1 (keyR h v)).mp ⟨v, ⟨v0, v1⟩, rfl⟩
  obtain ⟨n, f, n0, okf, e⟩ := wd.form ok wb.1 wb.2
  obtain ⟨N, hN, eN⟩ := t.1.2.2.2.2 v v0 v1
  have bits : ∀ b : Nat, N.testBit b = true ↔ (b : Int) < gn g ∧ us g b ∧ (NearR g b n f ∨ same g b n f) := fun b => by
    have q := t.2.2.1 (keyR h v) b (by omega)
    have q2 : N.testBit b = true ↔ Jn h (keyR h v) b := by
      constructor
      · intro z
        exact ⟨v, ⟨v0, v1⟩, rfl, N, eN, by rw [Int.toNat_natCast]; exact z⟩
      · rintro ⟨r, rb, er, M, eM, z⟩
        have := t.1.2.2.2.1 r v rb.1 rb.2 v0 v1 er
        rw [this] at eM
        rw [Int.toNat_natCast] at z
        rw [show N = M by omega]
        exact z
    rw [q2, q, e]
    constructor
    · rintro ⟨a, b2, c⟩
      exact ⟨a, b2, (DW.near ok (by omega) a n0 okf).mp c⟩
    · rintro ⟨a, b2, c⟩
      exact ⟨a, b2, (DW.near ok (by omega) a n0 okf).mpr c⟩
  refine ⟨n, f, N, n0, okf, e, eN, hN, bits, w.toNat, (bits w.toNat).mpr ?_⟩
  rw [Int.toNat_of_nonneg wb.1]
  rw [e] at wd
  exact ⟨wb.2, wu, (DW.near ok wb.1 wb.2 n0 okf).mp wd⟩
theorem cFindBest (hd : 3 < d) (r : RepCW g h) (hp : HeapsC g lw h) (t : TW g (gn g) h) (k : ∀ h', NewC g lw h' → Fr [] [(8, 8), (8, 9), (8, 10)] h h' → K 0 h') : Call d M_NewWords_findBest [vR 8 (-1)] h K := by
  have nb := r.1.1.nb
  have R1 := t.1.1.2
  refine c_NewWords_findBest 3 hd ?_
  have fin : ∀ hh, Fr [] [(8, 8), (8, 9), (8, 10)] h hh → BestC g lw (fun x => ∃ q, (0 ≤ q ∧ q < h.1 8 7) ∧ keyR h q = (x : Int)) hh → K 0 hh := fun hh ff b => k hh (fun ⟨w, w0, w1, u⟩ => by
    have inS : ∀ n f, NewOk g n f → ∃ q, (0 ≤ q ∧ q < h.1 8 7) ∧ keyR h q = (keyN f n.toNat : Int) := fun n f a => by
      obtain ⟨w, wb, wu, nr⟩ := a.2.2.2
      have := (DW.near r.1.1 wb.1 wb.2 a.1 a.2.1).mpr (Or.inl nr)
      exact (t.2.1 _).mpr ⟨w, wb, wu, this⟩
    obtain ⟨n, f, a⟩ := exNew r.1.1 w0 w1 u
    rcases b with ⟨_, _, b3⟩ | ⟨n1, f1, b1, b2, b3, b4, b5⟩
    · exact absurd a (b3 n f (inS n f a))
    · exact ⟨n1, f1, ⟨b1, fun n' f' a' => b5 n' f' (inS n' f' a') a'⟩, b2, b3, b4⟩) ff
  have key : ∀ (m : Nat) (v : Int) (hh : AH), (m : Int) = h.1 8 7 - v → 0 ≤ v → Fr [] [(8, 8), (8, 9), (8, 10)] h hh → BestC g lw (fun x => ∃ q, (0 ≤ q ∧ q < v) ∧ keyR h q = (x : Int)) hh → A_NewWords_findBest_17 3 K v hh := by
    intro m
    induction m with
    | zero =>
      intro v hh e v0 ff b
      have e7 : hh.1 8 7 = h.1 8 7 := ff.f 8 7
      have ev : v = h.1 8 7 := by omega
      rw [ev] at b
      exact s_NewWords_findBest_17 ⟨fun _ => fin hh ff b, fun z => by omega⟩
    | succ m ih =>
      intro v hh e v0 ff b
      have e7 : hh.1 8 7 = h.1 8 7 := ff.f 8 7
      have e45 : hh.2.1 45 v = h.2.1 45 v := ff.l 45 (by decide) (by decide) v
      have e44 : hh.2.1 44 v = h.2.1 44 v := ff.l 44 (by decide) (by decide) v
      obtain ⟨n, f, N, n0, okf, ek, eN, hN, bits, ex⟩ := t.row r.1.1 v0 (by omega)
      have ek : h.2.1 44 v = (keyN f n.toNat : Int) := ek
      have up : ∀ {hh}, BestC g lw (fun x => (∃ q, (0 ≤ q ∧ q < v) ∧ keyR h q = (x : Int)) ∨ x = keyN f n.toNat) hh → BestC g lw (fun x => ∃ q, (0 ≤ q ∧ q < v + 1) ∧ keyR h q = (x : Int)) hh := fun b => b.congr (fun x ⟨q, qb, eq⟩ => by
        by_cases z : q = v
        · refine Or.inr ?_
          have : keyR h v = (keyN f n.toNat : Int) := ek
          rw [z, this] at eq
          omega
        · exact Or.inl ⟨q, by omega, eq⟩)
      refine s_NewWords_findBest_17 ⟨fun z => by omega, fun _ => ⟨fun z => by omega, fun _ => ⟨ib (by omega), ?_⟩⟩⟩
      rw [e45, eN]
      refine jLBit (by decide) hN ?_
      rw [e45, e44, eN, ek]
      refine ⟨fun z => ⟨ii (by omega), ih (v + 1) hh (by omega) (by omega) ff (up ?_)⟩, fun _ => cWeigh (by decide) (r.fr ff) (hp.fr2 ff) n0 okf hN bits ex b (fun h' b' f' => ⟨ii (by omega), ih (v + 1) h' (by omega) (by omega) (ff.trans f') (up b')⟩)⟩
      by_cases ok : NewOk g n f
      · have ec : pop N 40 = jW g n f := pop_cnt (fun b => by
          rw [bits b]
          exact ⟨fun z => ⟨z.1, z.2.1, z.2.2.elim id (fun y => absurd y (ok.2.2.1 b (by omega) z.1))⟩, fun z => ⟨z.1, z.2.1, Or.inl z.2.2⟩⟩) nb.1 nb.2
        have jl := jH_le (lw := lw) (n := n) (f := f) r.1.1
        rcases b with ⟨b1, b2, b3⟩ | ⟨n1, f1, b1, b2, b3, b4, b5⟩
        · have : 0 ≤ pop N 40 := (cnt_b _ _).1
          omega
        · refine Or.inr ⟨n1, f1, b1, b2, b3, b4, fun n' f' s a => s.elim (fun s => b5 n' f' s a) (fun s => ?_)⟩
          have q := sameKey (lw := lw) a n0 okf s
          exact Bt.same (Or.inl (by omega)) s q.2.1 q.2.2
      · exact b.skip n0 okf ok
  have f0 : Fr [] [(8, 8), (8, 9), (8, 10)] h (wL (wI (wI h 8 8 0) 8 9 0) 8 10 0) := ((Fr.wI (Or.inr (by decide))).trans (Fr.wI (Or.inr (by decide)))).trans (Fr.wL (Or.inr (by decide)))
  refine key (h.1 8 7).toNat 0 _ (by have := t.1.1; omega) (Int.le_refl 0) f0 (Or.inl ⟨?_, ?_, fun n f ⟨q, qb, _⟩ => by omega⟩)
  · show (wI (wI h 8 8 0) 8 9 0).1 8 8 = 0
    rw [rI_nk (by decide)]
    exact rI_eq
  · show (wI (wI h 8 8 0) 8 9 0).1 8 9 = 0
    exact rI_eq
theorem NewC.fr2 {h' : AH} {L : List Nat} {F : List (Nat × Int)} (w : NewC g lw h) (f : Fr L F h h') (h1 : 8 ∉ L := by decide) (h3 : (∀ q ∈ [((8 : Nat), (8 : Int)), (8, 9), (8, 10)], q ∉ F) := by decide) : NewC g lw h' := by
  intro hu
  obtain ⟨n, f', a, b, c, e⟩ := w hu
  exact ⟨n, f', a, by rw [f.f 8 8 h1 (h3 _ (by decide))]; exact b, by rw [f.f 8 9 h1 (h3 _ (by decide))]; exact c, by rw [f.fl 8 10 h1 (h3 _ (by decide))]; exact e⟩
abbrev FRnw (h h' : AH) : Prop := Fr [42, 43, 44, 45] [((8 : Nat), (7 : Int)), (8, 8), (8, 9), (8, 10), (8, 11)] h h'
theorem cNewRefresh (hd : 9 < d) (r : RepCW g h) (rc : RowsC h) (w : ReachC g lw h) (hp : HeapsC g lw h) (fresh : h.1 8 11 = h.1 6 10 → NewC g lw h) (k : ∀ h', NewC g lw h' → RowsC h' → h'.1 8 11 = h.1 6 10 → Fr [42, 43, 44, 45] [(8, 7), (8, 8), (8, 9), (8, 10), (8, 11)] h h' → K 0 h') : Call d M_NewWords_refresh [vR 8 (-1)] h K := by
  have nb := r.1.1.nb
  refine c_NewWords_refresh 9 hd ⟨fun z => ?_, fun z => k h (fresh z) rc z Fr.refl⟩
  have f0 : FRnw h (wI h 8 11 (h.1 6 10)) := Fr.wI (Or.inr (by decide))
  have rc0 : RowsC (wI h 8 11 (h.1 6 10)) := rc.fr (L := []) (F := [(8, 11)]) (Fr.wI (Or.inr (by decide)))
  have key : ∀ (m : Nat) (v : Int) (hh : AH), (m : Int) = gn g - v → 0 ≤ v → TW g v hh → Fr [42, 43, 44, 45] [(8, 7)] (wI h 8 11 (h.1 6 10)) hh → A_NewWords_refresh_32 9 K v hh := by
    intro m
    induction m with
    | zero =>
      intro v hh e v0 t ff
      have f1 : FRnw h hh := f0.trans (ff.mono (by decide) (by decide))
      have ev : v = gn g := by omega
      rw [ev] at t
      refine s_NewWords_refresh_32 ⟨fun _ => cFindBest (by decide) (r.fr f1) (hp.fr2 f1) t (fun h' nc f' => k h' nc ?_ ?_ (f1.trans (f'.mono (by decide) (by decide)))), fun z => by rw [(r.fr f1).1.2.1.1] at z; omega⟩
      · exact t.1.rows.fr f'
      · rw [f'.f 8 11, ff.f 8 11]
        exact rI_eq
    | succ m ih =>
      intro v hh e v0 t ff
      have f1 : FRnw h hh := f0.trans (ff.mono (by decide) (by decide))
      have v1 : v < gn g := by omega
      have rb := t.2.2.2
      refine s_NewWords_refresh_32 ⟨fun z => by rw [(r.fr f1).1.2.1.1] at z; omega, fun _ => wIsUsed (by decide) (r.fr f1) (fun _ _ u => br1 ?_) (fun nu => br0 ⟨ii (by omega), ih (v + 1) hh (by omega) (by omega) (t.skip (fun u => nu ⟨v0, v1, u⟩)) ff⟩)⟩
      exact cAboutW (P := fun h7 => inI (v + 1) ∧ A_NewWords_refresh_32 9 K (v + 1) h7) (by decide) (r.fr f1) t.1 v0 v1 (by omega) (fun h' js => ⟨ii (by omega), ih (v + 1) h' (by omega) (by omega) (TW.step v0 t u js) (ff.trans js.2.2.2.2)⟩)
  refine cEmptyRows (by decide) rc0 (fun h' t' e7 f' => ?_)
  refine key (gn g).toNat 0 h' (by omega) (Int.le_refl 0) ⟨t', fun x => ⟨fun ⟨q, qb, _⟩ => by omega, fun ⟨w, wb, _⟩ => by omega⟩, fun x b b0 => ⟨fun ⟨q, qb, _⟩ => by omega, fun ⟨bb, _⟩ => by omega⟩, by omega⟩ (f'.mono (by decide) (by decide))
end CNH

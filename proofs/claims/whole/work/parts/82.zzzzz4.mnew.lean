/-! the reference's new word: all rows about a word -/
def insR (g : G) (w p c : Int) (k : Int) : Int := if k < p then gt g w k else if k = p then c else gt g w (k - 1)
def repR (g : G) (w p c : Int) (k : Int) : Int := if k = p then c else gt g w k
def delR (g : G) (w p : Int) (k : Int) : Int := gt g w (if k < p then k else k + 1)
def swpR (g : G) (w p : Int) (k : Int) : Int := if k = p then gt g w (p + 1) else if k = p + 1 then gt g w p else gt g w k
abbrev FRn (h h' : AH) : Prop := Fr [63, 84] [((12 : Nat), (9 : Int)), (12, 41), (12, 42), (12, 43)] h h'
def HasR (S : Int → (Int → Int) → Prop) (n : Int) (e : Int → Int) : Prop := ∀ f, (∀ k, 0 ≤ k → k < n → f k = e k) → S n f
def DoneC (g : G) (S : Int → (Int → Int) → Prop) (w p c : Int) : Prop := HasR S (gl g w + 1) (insR g w p c) ∧ (p < gl g w → HasR S (gl g w) (repR g w p c))
def DoneP (g : G) (S : Int → (Int → Int) → Prop) (w p : Int) : Prop := (∀ c, 0 ≤ c → c < 26 → DoneC g S w p c) ∧ (p < gl g w → HasR S (gl g w - 1) (delR g w p)) ∧ (p + 1 < gl g w → HasR S (gl g w) (swpR g w p))
theorem HasR.mono {S S' : Int → (Int → Int) → Prop} {n : Int} {e : Int → Int} (h : HasR S n e) (m : ∀ n f, S n f → S' n f) : HasR S' n e := fun f q => m n f (h f q)
theorem DoneC.mono {g : G} {S S' : Int → (Int → Int) → Prop} {w p c : Int} (h : DoneC g S w p c) (m : ∀ n f, S n f → S' n f) : DoneC g S' w p c := ⟨h.1.mono m, fun z => (h.2 z).mono m⟩
theorem DoneP.mono {g : G} {S S' : Int → (Int → Int) → Prop} {w p : Int} (h : DoneP g S w p) (m : ∀ n f, S n f → S' n f) : DoneP g S' w p := ⟨fun c a b => (h.1 c a b).mono m, fun z => (h.2.1 z).mono m, fun z => (h.2.2 z).mono m⟩
theorem andR_l {S : Int → (Int → Int) → Prop} {n : Int} {e : Int → Int} : ∀ m f, S m f → andR S n e m f := fun _ _ z => Or.inl z
theorem andR_r {S : Int → (Int → Int) → Prop} {n : Int} {e : Int → Int} : HasR (andR S n e) n e := fun _ q => Or.inr ⟨rfl, q⟩
theorem done_near {g : G} {S : Int → (Int → Int) → Prop} {w n : Int} {f : Int → Int} (hd : ∀ p, 0 ≤ p → p ≤ gl g w → DoneP g S w p) (q : NearR g w n f) (ok : okF f n.toNat) : S n f := by
  rcases q with ⟨l, i, b, q1, q2⟩ | ⟨l, i, b, q0, q1, q2, q3⟩ | ⟨l, p, b, q⟩ | ⟨l, p, b, q⟩
  · have fb := ok i b.1 (by omega)
    rw [← l]
    refine ((hd i b.1 (by omega)).1 (f i) fb.1 (by omega)).2 (by omega) f (fun k k0 k1 => ?_)
    unfold repR
    by_cases z : k = i
    · rw [if_pos z, z]
    · rw [if_neg z]; exact q2 k k0 (by omega) z
  · rw [← l]
    refine (hd i b.1 (by omega)).2.2 (by omega) f (fun k k0 k1 => ?_)
    unfold swpR
    by_cases z : k = i
    · rw [if_pos z, z]; exact q1
    · rw [if_neg z]
      by_cases z2 : k = i + 1
      · rw [if_pos z2, z2]; exact q2
      · rw [if_neg z2]; exact q3 k k0 (by omega) z z2
  · have fb := ok p b.1 (by omega)
    rw [l]
    refine ((hd p b.1 (by omega)).1 (f p) fb.1 (by omega)).1 f (fun k k0 k1 => ?_)
    unfold insR
    by_cases z : k < p
    · rw [if_pos z]
      have := q k k0 (by omega)
      rw [if_pos z] at this
      exact this.symm
    · rw [if_neg z]
      by_cases z2 : k = p
      · rw [if_pos z2, z2]
      · rw [if_neg z2]
        have := q (k - 1) (by omega) (by omega)
        rw [if_neg (by omega), show k - 1 + 1 = k by omega] at this
        exact this.symm
  · rw [l]
    exact (hd p b.1 (by omega)).2.1 b.2 f (fun k k0 k1 => q k k0 (by omega))
section MN4
variable {d : Nat} {g : G} {lw : LW} {h : AH} {K : Int → AH → Prop} {S : Int → (Int → Int) → Prop}
theorem mPutsIn (hd : 1 < d) {w p c : Int} (r : RepM g h) (w0 : 0 ≤ w) (w1 : w < gn g) (p0 : 0 ≤ p) (p1 : p ≤ gl g w) (k : ∀ h', Row0 (gl g w + 1) (insR g w p c) h' → Fr [63] [(12, 9)] h h' → K 0 h') : Call d M_M_putsIn [vR 12 (-1), vI w, vI p, vI c] h K := by
  have nb := r.ok.nb
  have lb := r.ok.lb w0 w1
  refine c_M_putsIn 1 hd ⟨ib (by omega), ?_⟩
  rw [r.l w0 w1]
  refine ⟨ii (by omega), ?_⟩
  have f0 : Fr [63] [(12, 9)] h (wI h 12 9 (gl g w + 1)) := Fr.wI (Or.inr (by decide))
  have key : ∀ (m : Nat) (v : Int) (hh : AH), (m : Int) = gl g w + 1 - v → 0 ≤ v → Fr [63] [(12, 9)] h hh → hh.1 12 9 = gl g w + 1 → (∀ i, 0 ≤ i → i < v → hh.1 63 i = insR g w p c i) → A_M_putsIn_15 1 K w p c v hh := by
    intro m
    induction m with
    | zero =>
      intro v hh e v0 ff e9 cc
      refine s_M_putsIn_15 ⟨fun _ => k hh ⟨e9, by omega, fun i i0 i1 => cc i i0 (by omega)⟩ ff, fun z => by omega⟩
    | succ m ih =>
      intro v hh e v0 ff e9 cc
      have rr := r.fr ff
      have nxt' : ∀ x, x = insR g w p c v → A_M_putsIn_15 1 K w p c (v + 1) (wI hh 63 v x) := fun x hx => by
        refine ih (v + 1) _ (by omega) (by omega) (ff.trans (Fr.wI (Or.inl (by decide)))) (by rw [rI_ne (by decide)]; exact e9) (fun i i0 i1 => ?_)
        by_cases hi : i = v
        · rw [hi, rI_eq]; exact hx
        · rw [rI_nk hi]; exact cc i i0 (by omega)
      refine s_M_putsIn_15 ⟨fun z => by omega, fun _ => ⟨fun z => ⟨fun z2 => ⟨ii (by omega), mLetter (by decide) rr w0 w1 (by omega) (by omega) ⟨ib (by omega), ii (by omega), nxt' _ ?_⟩⟩, fun z2 => ⟨ib (by omega), ii (by omega), nxt' _ ?_⟩⟩, fun z => mLetter (by decide) rr w0 w1 v0 (by omega) ⟨ib (by omega), ii (by omega), nxt' _ ?_⟩⟩⟩
      · unfold insR; rw [if_neg (by omega), if_neg z2]
      · unfold insR; rw [if_neg (by omega), if_pos z2]
      · unfold insR; rw [if_pos z]
  exact key (gl g w + 1).toNat 0 _ (by omega) (Int.le_refl 0) f0 rI_eq (fun i i0 i1 => by omega)
theorem mLeavesOut (hd : 1 < d) {w p : Int} (r : RepM g h) (w0 : 0 ≤ w) (w1 : w < gn g) (p0 : 0 ≤ p) (p1 : p < gl g w) (k : ∀ h', Row0 (gl g w - 1) (delR g w p) h' → Fr [63] [(12, 9)] h h' → K 0 h') : Call d M_M_leavesOut [vR 12 (-1), vI w, vI p] h K := by
  have nb := r.ok.nb
  have lb := r.ok.lb w0 w1
  refine c_M_leavesOut 1 hd ⟨ib (by omega), ?_⟩
  rw [r.l w0 w1]
  refine ⟨ii (by omega), ?_⟩
  have f0 : Fr [63] [(12, 9)] h (wI h 12 9 (gl g w - 1)) := Fr.wI (Or.inr (by decide))
  have key : ∀ (m : Nat) (v : Int) (hh : AH), (m : Int) = gl g w - 1 - v → 0 ≤ v → Fr [63] [(12, 9)] h hh → hh.1 12 9 = gl g w - 1 → (∀ i, 0 ≤ i → i < v → hh.1 63 i = delR g w p i) → A_M_leavesOut_14 1 K w p v hh := by
    intro m
    induction m with
    | zero =>
      intro v hh e v0 ff e9 cc
      refine s_M_leavesOut_14 ⟨fun _ => k hh ⟨e9, by omega, fun i i0 i1 => cc i i0 (by omega)⟩ ff, fun z => by omega⟩
    | succ m ih =>
      intro v hh e v0 ff e9 cc
      have rr := r.fr ff
      have go : ∀ s, s = (if v < p then v else v + 1) → A_M_leavesOut_41 1 K w p v v w s hh := fun s hs => by
        have sb : 0 ≤ s ∧ s < gl g w := by
          rw [hs]
          split <;> omega
        refine s_M_leavesOut_41 (mLetter (by decide) rr w0 w1 sb.1 sb.2 ⟨ib (by omega), ii (by omega), ?_⟩)
        refine ih (v + 1) _ (by omega) (by omega) (ff.trans (Fr.wI (Or.inl (by decide)))) (by rw [rI_ne (by decide)]; exact e9) (fun i i0 i1 => ?_)
        by_cases hi : i = v
        · rw [hi, rI_eq, hs]; rfl
        · rw [rI_nk hi]; exact cc i i0 (by omega)
      exact s_M_leavesOut_14 ⟨fun z => by omega, fun _ => ⟨fun z => ⟨ii (by omega), go _ (by rw [if_neg (by omega)])⟩, fun z => go _ (by rw [if_pos z])⟩⟩
  exact key (gl g w - 1).toNat 0 _ (by omega) (Int.le_refl 0) f0 rI_eq (fun i i0 i1 => by omega)
theorem Row0.put {n i x : Int} {e : Int → Int} (q : Row0 n e h) : Row0 n (fun k => if k = i then x else e k) (wI h 63 i x) := ⟨by rw [rI_ne (by decide)]; exact q.1, q.2.1, fun k k0 k1 => by
  by_cases z : k = i
  · rw [z, rI_eq]; exact (if_pos rfl).symm
  · rw [rI_nk z, q.2.2 k k0 k1]; exact (if_neg z).symm⟩
theorem Row0.ext {n : Int} {e e' : Int → Int} (q : Row0 n e h) (x : ∀ k, 0 ≤ k → k < n → e k = e' k) : Row0 n e' h := ⟨q.1, q.2.1, fun k k0 k1 => (q.2.2 k k0 k1).trans (x k k0 k1)⟩
theorem HW.fr {L : List Nat} {F : List (Nat × Int)} {h' : AH} (q : HW g lw h) (f : Fr L F h h') (h1 : 85 ∉ L := by decide) (h2 : 85 ∉ F.map Prod.fst := by decide) : HW g lw h' := fun w a b u => by
  rw [f.i 85 h1 h2]
  exact q w a b u
theorem mTriesAbout (hd : 4 < d) {w : Int} (r : RepM g h) (w0 : 0 ≤ w) (w1 : w < gn g) (u : us g w) (hw : HW g lw h) (b : BestM g lw S h) (k : ∀ h' S', BestM g lw S' h' → (∀ n f, S n f → S' n f) → (∀ p, 0 ≤ p → p ≤ gl g w → DoneP g S' w p) → FRn h h' → K 0 h') : Call d M_M_triesAbout [vR 12 (-1), vI w] h K := by
  have nb := r.ok.nb
  have lb := r.ok.lb w0 w1
  have tb : ∀ k, 0 ≤ k → k < gl g w → 0 ≤ gt g w k ∧ gt g w k ≤ 25 := fun k a b => r.ok.tb w0 w1 a b
  have tryR : ∀ {K2 : Int → AH → Prop} {n : Int} {e : Int → Int} {S1 : Int → (Int → Int) → Prop} {hh : AH}, FRn h hh → Row0 n e hh → (1 ≤ n → n ≤ 8 → okF e n.toNat ∧ (NearR g w n e ∨ same g w n e)) → BestM g lw S1 hh → (∀ h', BestM g lw (andR S1 n e) h' → FRn h h' → K2 0 h') → Call 4 M_M_triesNew [vR 12 (-1)] hh K2 := fun ff q hf b1 k1 => mTriesNew (by decide) (r.fr ff) q (fun n0 n1 => ⟨(hf n0 n1).1, (hf n0 n1).2.elim (fun z => Or.inl ⟨w, ⟨w0, w1⟩, u, z⟩) (fun z => Or.inr ⟨w, w0, w1, z⟩)⟩) (hw.fr ff) b1 (fun h' b2 f2 => k1 h' b2 (ff.trans (f2.mono (by decide) (by decide))))
  have up : ∀ {hh h' : AH}, FRn h hh → Fr [63] [(12, 9)] hh h' → FRn h h' := fun a c => a.trans (c.mono (by decide) (by decide))
  have bk : ∀ {S1 : Int → (Int → Int) → Prop} {hh h' : AH}, BestM g lw S1 hh → Fr [63] [(12, 9)] hh h' → BestM g lw S1 h' := fun b1 c => by
    have e84 := c.i 84
    have e41 := c.f 12 41
    have e42 := c.f 12 42
    have e43 := c.f 12 43
    unfold BestM at *
    simp only [e84, e41, e42, e43]
    exact b1
  refine c_M_triesAbout 4 hd ?_
  have outer : ∀ (m : Nat) (p : Int) (hh : AH) (S1 : Int → (Int → Int) → Prop), (m : Int) = gl g w + 1 - p → 0 ≤ p → BestM g lw S1 hh → (∀ n f, S n f → S1 n f) → (∀ p', 0 ≤ p' → p' < p → DoneP g S1 w p') → FRn h hh → A_M_triesAbout_2 4 K w p hh := by
    intro m
    induction m with
    | zero =>
      intro p hh S1 e p0 b1 m1 dn ff
      refine s_M_triesAbout_2 ⟨ib (by omega), ?_⟩
      rw [(r.fr ff).l w0 w1]
      exact ⟨fun _ => k hh S1 b1 m1 (fun p' a c => dn p' a (by omega)) ff, fun z => by omega⟩
    | succ m ih =>
      intro p hh S1 e p0 b1 m1 dn ff
      refine s_M_triesAbout_2 ⟨ib (by omega), ?_⟩
      rw [(r.fr ff).l w0 w1]
      refine ⟨fun z => by omega, fun z => ?_⟩
      have inner : ∀ (j : Nat) (c : Int) (hh : AH) (S1 : Int → (Int → Int) → Prop), (j : Int) = 26 - c → 0 ≤ c → BestM g lw S1 hh → (∀ n f, S n f → S1 n f) → (∀ p', 0 ≤ p' → p' < p → DoneP g S1 w p') → (∀ c', 0 ≤ c' → c' < c → DoneC g S1 w p c') → FRn h hh → A_M_triesAbout_14 4 K w p c hh := by
        intro j
        induction j with
        | zero =>
          intro c hh S1 e c0 b1 m1 dn dc ff
          refine s_M_triesAbout_14 ⟨fun _ => ⟨ib (by omega), ?_⟩, fun z => by omega⟩
          rw [(r.fr ff).l w0 w1]
          refine ⟨fun z1 => mLeavesOut (by decide) (r.fr ff) w0 w1 p0 (by omega) (fun h1 q1 f1 => tryR (up ff f1) q1 (fun n0 n1 => ⟨fun i i0 i1 => ?_, Or.inl (Or.inr (Or.inr (Or.inr ⟨rfl, p, ⟨p0, by omega⟩, fun i i0 i1 => rfl⟩)))⟩) (bk b1 f1) (fun h2 b2 f2 => ⟨ii (by omega), ?_⟩)), fun z1 => ⟨ii (by omega), ih (p + 1) hh S1 (by omega) (by omega) b1 m1 (fun p' a1 a2 => ?_) ff⟩⟩
          · unfold delR
            split
            · exact tb i i0 (by omega)
            · exact tb (i + 1) (by omega) (by omega)
          · rw [(r.fr f2).l w0 w1]
            refine ⟨fun z2 => mLaysRow (by decide) (r.fr f2) w0 w1 (fun h3 q3 f3 => ?_), fun z2 => ih (p + 1) h2 _ (by omega) (by omega) b2 (fun n f y => Or.inl (m1 n f y)) (fun p' a1 a2 => ?_) f2⟩
            · have ff3 := up f2 f3
              refine mLetter (by decide) (r.fr ff3) w0 w1 (by omega) (by omega) ⟨ib (by omega), ?_⟩
              have f4 : Fr [63] [(12, 9)] h3 (wI h3 63 p (gt g w (p + 1))) := Fr.wI (Or.inl (by decide))
              refine mLetter (by decide) (r.fr (up ff3 f4)) w0 w1 (by omega) (by omega) ⟨ib (by omega), ?_⟩
              have f5 : Fr [63] [(12, 9)] (wI h3 63 p (gt g w (p + 1))) (wI (wI h3 63 p (gt g w (p + 1))) 63 (p + 1) (gt g w p)) := Fr.wI (Or.inl (by decide))
              have q5 : Row0 (gl g w) (swpR g w p) (wI (wI h3 63 p (gt g w (p + 1))) 63 (p + 1) (gt g w p)) := by
                refine (q3.put.put).ext (fun i i0 i1 => ?_)
                unfold swpR
                by_cases y : i = p
                · rw [if_pos y, if_neg (by omega), if_pos y]
                · by_cases y2 : i = p + 1
                  · simp only [if_neg y, if_pos y2]
                  · simp only [if_neg y, if_neg y2]
              refine tryR (up (up ff3 f4) f5) q5 (fun n0 n1 => ⟨fun i i0 i1 => ?_, ?_⟩) (bk (bk (bk b2 f3) f4) f5) (fun h6 b6 f6 => ih (p + 1) h6 _ (by omega) (by omega) b6 (fun n f y => Or.inl (Or.inl (m1 n f y))) (fun p' a1 a2 => ?_) f6)
              · unfold swpR
                split
                · exact tb (p + 1) (by omega) (by omega)
                · split
                  · exact tb p p0 (by omega)
                  · exact tb i i0 (by omega)
              · by_cases y : gt g w p = gt g w (p + 1)
                · refine Or.inr ⟨rfl, fun i i0 i1 => ?_⟩
                  unfold swpR
                  by_cases y1 : i = p
                  · rw [if_pos y1, y1]; exact y
                  · rw [if_neg y1]
                    by_cases y2 : i = p + 1
                    · rw [if_pos y2, y2]; exact y.symm
                    · rw [if_neg y2]
                · refine Or.inl (Or.inr (Or.inl ⟨rfl, p, ⟨p0, by omega⟩, y, ?_, ?_, fun i i0 i1 n1 n2 => ?_⟩))
                  · unfold swpR; rw [if_pos rfl]
                  · unfold swpR; rw [if_neg (by omega), if_pos rfl]
                  · unfold swpR; rw [if_neg n1, if_neg n2]
              · by_cases y : p' = p
                · rw [y]
                  exact ⟨fun c' x1 x2 => (dc c' x1 (by omega)).mono (fun n f y => Or.inl (Or.inl y)), fun _ => HasR.mono andR_r andR_l, fun _ => andR_r⟩
                · exact (dn p' a1 (by omega)).mono (fun n f y => Or.inl (Or.inl y))
            · by_cases y : p' = p
              · rw [y]
                exact ⟨fun c' x1 x2 => (dc c' x1 (by omega)).mono andR_l, fun _ => andR_r, fun y2 => by omega⟩
              · exact (dn p' a1 (by omega)).mono andR_l
          · by_cases y : p' = p
            · rw [y]
              exact ⟨fun c' x1 x2 => dc c' x1 (by omega), fun y2 => by omega, fun y2 => by omega⟩
            · exact dn p' a1 (by omega)
        | succ j ihj =>
          intro c hh S1 e c0 b1 m1 dn dc ff
          refine s_M_triesAbout_14 ⟨fun z => by omega, fun _ => mPutsIn (by decide) (r.fr ff) w0 w1 p0 z (fun h1 q1 f1 => tryR (up ff f1) q1 (fun n0 n1 => ⟨fun i i0 i1 => ?_, Or.inl (Or.inr (Or.inr (Or.inl ⟨rfl, p, ⟨p0, by omega⟩, fun i i0 i1 => ?_⟩)))⟩) (bk b1 f1) (fun h2 b2 f2 => ⟨ib (by omega), ?_⟩))⟩
          · unfold insR
            split
            · exact tb i i0 (by omega)
            · split
              · omega
              · exact tb (i - 1) (by omega) (by omega)
          · unfold insR
            by_cases y : i < p
            · rw [if_pos y, if_pos y]
            · rw [if_neg y, if_neg (by omega), if_neg (by omega), show i + 1 - 1 = i by omega]
          · rw [(r.fr f2).l w0 w1]
            refine ⟨fun z2 => mLaysRow (by decide) (r.fr f2) w0 w1 (fun h3 q3 f3 => ⟨ib (by omega), ?_⟩), fun z2 => ⟨ii (by omega), ihj (c + 1) h2 _ (by omega) (by omega) b2 (fun n f y => Or.inl (m1 n f y)) (fun p' a1 a2 => (dn p' a1 a2).mono andR_l) (fun c' a1 a2 => ?_) f2⟩⟩
            · have ff3 := up f2 f3
              have f4 : Fr [63] [(12, 9)] h3 (wI h3 63 p c) := Fr.wI (Or.inl (by decide))
              have q4 : Row0 (gl g w) (repR g w p c) (wI h3 63 p c) := q3.put
              refine tryR (up ff3 f4) q4 (fun n0 n1 => ⟨fun i i0 i1 => ?_, ?_⟩) (bk (bk b2 f3) f4) (fun h6 b6 f6 => ⟨ii (by omega), ihj (c + 1) h6 _ (by omega) (by omega) b6 (fun n f y => Or.inl (Or.inl (m1 n f y))) (fun p' a1 a2 => (dn p' a1 a2).mono (fun n f y => Or.inl (Or.inl y))) (fun c' a1 a2 => ?_) f6⟩)
              · unfold repR
                split
                · omega
                · exact tb i i0 (by omega)
              · by_cases y : c = gt g w p
                · refine Or.inr ⟨rfl, fun i i0 i1 => ?_⟩
                  unfold repR
                  by_cases y1 : i = p
                  · rw [if_pos y1, y1]; exact y.symm
                  · rw [if_neg y1]
                · refine Or.inl (Or.inl ⟨rfl, p, ⟨p0, by omega⟩, ?_, fun i i0 i1 n1 => ?_⟩)
                  · unfold repR; rw [if_pos rfl]; exact y
                  · unfold repR; rw [if_neg n1]
              · by_cases y : c' = c
                · rw [y]
                  exact ⟨HasR.mono andR_r andR_l, fun _ => andR_r⟩
                · exact (dc c' a1 (by omega)).mono (fun n f y => Or.inl (Or.inl y))
            · by_cases y : c' = c
              · rw [y]
                exact ⟨andR_r, fun y2 => by omega⟩
              · exact (dc c' a1 (by omega)).mono andR_l
      exact inner 26 0 hh S1 (by omega) (Int.le_refl 0) b1 m1 dn (fun c' a1 a2 => by omega) ff
  exact outer (gl g w + 1).toNat 0 h S (by omega) (Int.le_refl 0) b (fun _ _ y => y) (fun p' a1 a2 => by omega) Fr.refl
end MN4

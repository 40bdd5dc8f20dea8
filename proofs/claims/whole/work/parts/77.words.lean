/-! words come, go and change -/
def gBar (g : G) (w v : Int) : G := (gn g, gl g, gt g, gk g, go g, (fun u => if u = w then v else gb g u), gs g)
def gKnow (g : G) (w n : Int) : G := (gn g, gl g, gt g, (fun u => if u = w then n else gk g u), go g, gb g, gs g)
def gSpeak (g : G) (s : Int) : G := (gn g, gl g, gt g, gk g, go g, gb g, s)
def gOff (g : G) : G := (gn g - 1, gl g, gt g, gk g, go g, gb g, gs g)
def gAdd (g : G) (p : Int) (f : Int → Int) (n o : Int) : G := (gn g + 1, (fun u => if u = gn g then p else gl g u), (fun u => if u = gn g then f else gt g u), (fun u => if u = gn g then n else gk g u), (fun u => if u = gn g then o else go g u), (fun u => if u = gn g then 0 else gb g u), gs g)
theorem ok_bar {g : G} (r : OkG g) {w v : Int} (hv : v = 0 ∨ v = 1) : OkG (gBar g w v) := ⟨r.1, r.2.1, fun u u0 u1 => by
  have q := r.2.2 u u0 u1
  refine ⟨q.1, q.2.1, q.2.2.1, ?_, q.2.2.2.2⟩
  show (if u = w then v else gb g u) = 0 ∨ (if u = w then v else gb g u) = 1
  split
  · exact hv
  · exact q.2.2.2.1⟩
theorem ok_know {g : G} (r : OkG g) {w n : Int} (h0 : 0 ≤ n) (h1 : n ≤ 99) : OkG (gKnow g w n) := ⟨r.1, r.2.1, fun u u0 u1 => by
  have q := r.2.2 u u0 u1
  refine ⟨q.1, ?_, q.2.2⟩
  show 0 ≤ (if u = w then n else gk g u) ∧ (if u = w then n else gk g u) ≤ 99
  split
  · exact ⟨h0, h1⟩
  · exact q.2.1⟩
theorem ok_speak {g : G} (r : OkG g) {s : Int} (h0 : -1 ≤ s) (h1 : s ≤ 3) : OkG (gSpeak g s) := ⟨r.1, ⟨h0, h1⟩, r.2.2⟩
theorem ok_off {g : G} (r : OkG g) (hn : gn g ≠ 0) : OkG (gOff g) := ⟨by
  have := r.1
  show 0 ≤ gn g - 1 ∧ gn g - 1 ≤ 40
  omega, r.2.1, fun u u0 u1 => r.2.2 u u0 (by have u1 : u < gn g - 1 := u1; omega)⟩
theorem ok_add {g : G} (r : OkG g) {p n o : Int} {f : Int → Int} (hn : gn g < 40) (p0 : 1 ≤ p ∧ p ≤ 8) (n0 : 0 ≤ n ∧ n ≤ 99) (o0 : 1 ≤ o ∧ o ≤ 15) (hf : ∀ k, 0 ≤ k → k < p → 0 ≤ f k ∧ f k ≤ 25) : OkG (gAdd g p f n o) := ⟨by
  have := r.1
  show 0 ≤ gn g + 1 ∧ gn g + 1 ≤ 40
  omega, r.2.1, fun u u0 u1 => by
  have u1 : u < gn g + 1 := u1
  by_cases z : u = gn g
  · have e1 : gl (gAdd g p f n o) u = p := if_pos z
    have e2 : gk (gAdd g p f n o) u = n := if_pos z
    have e3 : go (gAdd g p f n o) u = o := if_pos z
    have e4 : gb (gAdd g p f n o) u = 0 := if_pos z
    have e5 : gt (gAdd g p f n o) u = f := if_pos z
    rw [e1, e2, e3, e4, e5]
    exact ⟨p0, n0, o0, Or.inl rfl, hf⟩
  · have e1 : gl (gAdd g p f n o) u = gl g u := if_neg z
    have e2 : gk (gAdd g p f n o) u = gk g u := if_neg z
    have e3 : go (gAdd g p f n o) u = go g u := if_neg z
    have e4 : gb (gAdd g p f n o) u = gb g u := if_neg z
    have e5 : gt (gAdd g p f n o) u = gt g u := if_neg z
    rw [e1, e2, e3, e4, e5]
    exact r.2.2 u u0 (by omega)⟩
section MW
variable {d : Nat} {g : G} {h : AH} {K : Int → AH → Prop}
theorem mBar (hd : 1 < d) {w v : Int} (r : RepM g h) (hv : v = 0 ∨ v = 1) (k1 : ∀ h', (0 ≤ w ∧ w < gn g) ∧ gb g w ≠ v → RepM (gBar g w v) h' → Fr [62] [] h h' → K 1 h') (k0 : ¬ ((0 ≤ w ∧ w < gn g) ∧ gb g w ≠ v) → K 0 h) : Call d M_M_bar [vR 12 (-1), vI w, vI v] h K := by
  have nb := r.ok.nb
  refine c_M_bar 1 hd (mIsWord (by decide) r (fun w0 w1 => br1 ⟨ib (by omega), ?_⟩) (fun c => br0 (k0 (fun z => c z.1))))
  rw [r.b w0 w1]
  have f1 : Fr [62] [] h (wI h 62 w v) := Fr.wI (Or.inl (by decide))
  refine ⟨fun c => ⟨hv, k1 _ ⟨⟨w0, w1⟩, c⟩ ⟨ok_bar r.ok hv, by rw [rI_ne (by decide)]; exact r.n, by rw [rI_ne (by decide)]; exact r.s, fun u u0 u1 => ?_⟩ f1⟩, fun c => k0 (fun z => z.2 c)⟩
  obtain ⟨q1, q2, q3, q4, q5⟩ := r.2.2.2 u u0 u1
  refine ⟨by rw [rI_ne (by decide)]; exact q1, by rw [rI_ne (by decide)]; exact q2, by rw [rI_ne (by decide)]; exact q3, ?_, fun k k0 k1 => by rw [rI_ne (by decide)]; exact q5 k k0 k1⟩
  show _ = if u = w then v else gb g u
  by_cases z : u = w
  · rw [if_pos z, z, rI_eq]
  · rw [if_neg z, rI_nk z]; exact q4
theorem mKnow (hd : 1 < d) {w n : Int} (r : RepM g h) (k1 : ∀ h', (0 ≤ w ∧ w < gn g) ∧ 0 ≤ n ∧ n ≤ 99 → RepM (gKnow g w n) h' → Fr [60] [] h h' → K 1 h') (k0 : ¬ ((0 ≤ w ∧ w < gn g) ∧ 0 ≤ n ∧ n ≤ 99) → K 0 h) : Call d M_M_know [vR 12 (-1), vI w, vI n] h K := by
  have nb := r.ok.nb
  refine c_M_know 1 hd (mIsWord (by decide) r (fun w0 w1 => br1 (mIn (by decide) (fun n0 n1 => br1' ⟨ib (by omega), ?_⟩) (fun c => br0' (k0 (fun z => c z.2))))) (fun c => br0 (k0 (fun z => c z.1))))
  refine k1 _ ⟨⟨w0, w1⟩, n0, n1⟩ ⟨ok_know r.ok n0 n1, by rw [rI_ne (by decide)]; exact r.n, by rw [rI_ne (by decide)]; exact r.s, fun u u0 u1 => ?_⟩ (Fr.wI (Or.inl (by decide)))
  obtain ⟨q1, q2, q3, q4, q5⟩ := r.2.2.2 u u0 u1
  refine ⟨by rw [rI_ne (by decide)]; exact q1, ?_, by rw [rI_ne (by decide)]; exact q3, by rw [rI_ne (by decide)]; exact q4, fun k k0 k1 => by rw [rI_ne (by decide)]; exact q5 k k0 k1⟩
  show _ = if u = w then n else gk g u
  by_cases z : u = w
  · rw [if_pos z, z, rI_eq]
  · rw [if_neg z, rI_nk z]; exact q2
theorem mSpeak (hd : 1 < d) {s : Int} (r : RepM g h) (k1 : ∀ h', -1 ≤ s ∧ s ≤ 3 → RepM (gSpeak g s) h' → Fr [] [(12, 2)] h h' → K 1 h') (k0 : ¬ (-1 ≤ s ∧ s ≤ 3) → K 0 h) : Call d M_M_speak [vR 12 (-1), vI s] h K := by
  refine c_M_speak 1 hd (mIn (by decide) (fun n0 n1 => br1' ?_) (fun c => br0' (k0 c)))
  refine k1 _ ⟨n0, n1⟩ ⟨ok_speak r.ok n0 n1, by rw [rI_nk (by decide)]; exact r.n, rI_eq, fun u u0 u1 => ?_⟩ (Fr.wI (Or.inr (by decide)))
  obtain ⟨q1, q2, q3, q4, q5⟩ := r.2.2.2 u u0 u1
  exact ⟨by rw [rI_ne (by decide)]; exact q1, by rw [rI_ne (by decide)]; exact q2, by rw [rI_ne (by decide)]; exact q3, by rw [rI_ne (by decide)]; exact q4, fun k k0 k1 => by rw [rI_ne (by decide)]; exact q5 k k0 k1⟩
theorem mOff (hd : 0 < d) (r : RepM g h) (k1 : ∀ h', gn g ≠ 0 → RepM (gOff g) h' → Fr [] [(12, 0)] h h' → K (gl g (gn g - 1)) h') (k0 : gn g = 0 → K (-1) h) : Call d M_M_off [vR 12 (-1)] h K := by
  have nb := r.ok.nb
  refine c_M_off 0 hd ?_
  rw [r.n]
  refine ⟨fun c => ⟨ii (by omega), ib (by omega), ?_⟩, k0⟩
  rw [r.l (by omega) (by omega)]
  refine k1 _ c ⟨ok_off r.ok c, rI_eq, by rw [rI_nk (by decide)]; exact r.s, fun u u0 u1 => ?_⟩ (Fr.wI (Or.inr (by decide)))
  obtain ⟨q1, q2, q3, q4, q5⟩ := r.2.2.2 u u0 (by have u1 : u < gn g - 1 := u1; omega)
  exact ⟨by rw [rI_ne (by decide)]; exact q1, by rw [rI_ne (by decide)]; exact q2, by rw [rI_ne (by decide)]; exact q3, by rw [rI_ne (by decide)]; exact q4, fun k k0 k1 => by rw [rI_ne (by decide)]; exact q5 k k0 k1⟩
theorem mSeed (hd : 1 < d) {x : Int} (k1 : 0 ≤ x ∧ x ≤ 65535 → K 1 (wI h 12 1 x)) (k0 : ¬ (0 ≤ x ∧ x ≤ 65535) → K 0 h) : Call d M_M_seed [vR 12 (-1), vI x] h K :=
  c_M_seed 1 hd (mIn (by decide) (fun n0 n1 => br1' (k1 ⟨n0, n1⟩)) (fun c => br0' (k0 c)))
theorem mWord (hd : 2 < d) {p n o : Int} {t : Tp} (r : RepM g h) (rt : RepMT t h) (k0 : ¬ ((1 ≤ p ∧ p ≤ 8) ∧ (0 ≤ n ∧ n ≤ 99) ∧ (1 ≤ o ∧ o ≤ 15) ∧ gn g < 40 ∧ p ≤ t.1) → K (-1) h) (k2 : ∀ h', (1 ≤ p ∧ p ≤ 8) ∧ (0 ≤ n ∧ n ≤ 99) ∧ (1 ≤ o ∧ o ≤ 15) ∧ gn g < 40 ∧ p ≤ t.1 → ((¬ ∀ i, 0 ≤ i → i < p → isLet (t.2 i)) ∨ ((∀ i, 0 ≤ i → i < p → isLet (t.2 i)) ∧ ∃ w, 0 ≤ w ∧ w < gn g ∧ same g w p (fun i => t.2 i - 97))) → RepMT (0, t.2) h' → Fr [58, 59, 60, 61, 62, 63] [(12, 0), (12, 9), (12, 11)] h h' → RepM g h' → K (-2) h') (k1 : ∀ h', (1 ≤ p ∧ p ≤ 8) ∧ (0 ≤ n ∧ n ≤ 99) ∧ (1 ≤ o ∧ o ≤ 15) ∧ gn g < 40 ∧ p ≤ t.1 → (∀ i, 0 ≤ i → i < p → isLet (t.2 i)) → (∀ w, 0 ≤ w → w < gn g → ¬ same g w p (fun i => t.2 i - 97)) → RepM (gAdd g p (fun i => t.2 i - 97) n o) h' → RepMT (0, t.2) h' → Fr [58, 59, 60, 61, 62, 63] [(12, 0), (12, 9), (12, 11)] h h' → K (gn g) h') : Call d M_M_word [vR 12 (-1), vI p, vI n, vI o] h K := by
  have nb := r.ok.nb
  refine c_M_word 2 hd (mIn (by decide) (fun p0 p1 => br1 (mIn (by decide) (fun n0 n1 => br1 (mIn (by decide) (fun o0 o1 => br1 ?_) (fun c => br0 (k0 (by omega))))) (fun c => br0 (k0 (by omega))))) (fun c => br0 (k0 (by omega))))
  rw [r.n, rt.2.1]
  refine ⟨fun c => k0 (by omega), fun c => ⟨fun c2 => ?_, fun c2 => k0 (by omega)⟩⟩
  have G : (1 ≤ p ∧ p ≤ 8) ∧ (0 ≤ n ∧ n ≤ 99) ∧ (1 ≤ o ∧ o ≤ 15) ∧ gn g < 40 ∧ p ≤ t.1 := ⟨⟨p0, p1⟩, ⟨n0, n1⟩, ⟨o0, o1⟩, by omega, c2⟩
  refine mTakesLetters (by decide) rt (by omega) (by omega) c2 (fun h1 al q1 rt1 f1 => br1 ?_) (fun h1 na rt1 f1 => br0 (k2 h1 G (Or.inl na) rt1 (f1.mono (by decide) (by decide)) (r.fr f1)))
  have r1 := r.fr f1
  refine mIsRowWord (by decide) r1 q1 (fun ex => br1 (k2 h1 G (Or.inr ⟨al, ex⟩) rt1 (f1.mono (by decide) (by decide)) r1)) (fun no => br0 ?_)
  have key : ∀ m : Nat, ∀ (v4 : Int) (hh : AH), 0 ≤ v4 → v4 ≤ p → p - v4 < m → Fr [59] [] h1 hh → RepM g hh → (∀ i, 0 ≤ i → i < v4 → hh.1 59 (8 * gn g + i) = t.2 i - 97) → A_M_word_70 2 K p n o v4 hh := by
    intro m
    induction m with
    | zero => intro v4 hh x1 x2 e; omega
    | succ m ih =>
      intro v4 hh x1 x2 e ff rr s
      refine s_M_word_70 ?_
      rw [rr.n]
      refine ⟨fun c3 => ⟨ib (by omega), ii (by omega), ii (by omega), ?_⟩, fun c3 => ⟨ii (by omega), ii (by omega), ib (by omega), ib (by omega), ii (by omega), ih (v4 + 1) _ (by omega) (by omega) (by omega) (ff.trans (Fr.wI (Or.inl (by decide)))) ⟨rr.ok, by rw [rI_ne (by decide)]; exact rr.n, by rw [rI_ne (by decide)]; exact rr.s, fun u u0 u1 => ?_⟩ (fun i i0 i1 => ?_)⟩⟩
      · rw [show gn g + 1 - 1 = gn g by omega]
        have fa := ((((ff.mono (L2 := [58, 59, 60, 61, 62]) (F2 := [(12, 0)]) (by decide) (by decide)).trans (Fr.wI (o := 58) (k := gn g) (v := p) (Or.inl (by decide)))).trans (Fr.wI (o := 60) (k := gn g) (v := n) (Or.inl (by decide)))).trans (Fr.wI (o := 61) (k := gn g) (v := o) (Or.inl (by decide)))).trans (Fr.wI (o := 62) (k := gn g) (v := 0) (Or.inl (by decide)))
        have fb := fa.trans (Fr.wI (o := 12) (k := 0) (v := gn g + 1) (Or.inr (by decide)))
        refine k1 _ G al no ⟨ok_add r.ok (by omega) G.1 G.2.1 G.2.2.1 (fun i i0 i1 => by have := al i i0 i1; unfold isLet at this; omega), rI_eq, ?_, fun u u0 u1 => ?_⟩ (rt1.fr fb) ((f1.mono (by decide) (by decide)).trans (fb.mono (by decide) (by decide)))
        · rw [rI_nk (by decide), rI_ne (by decide), rI_ne (by decide), rI_ne (by decide), rI_ne (by decide)]; exact rr.s
        · have u1 : u < gn g + 1 := u1
          have j58 := (rI_ne (h := wI (wI (wI (wI hh 58 (gn g) p) 60 (gn g) n) 61 (gn g) o) 62 (gn g) 0) (o := 12) (o' := 58) (k := 0) (k' := u) (v := gn g + 1) (by decide)).trans ((rI_ne (by decide)).trans ((rI_ne (by decide)).trans (rI_ne (h := wI hh 58 (gn g) p) (by decide))))
          have j60 := (rI_ne (h := wI (wI (wI (wI hh 58 (gn g) p) 60 (gn g) n) 61 (gn g) o) 62 (gn g) 0) (o := 12) (o' := 60) (k := 0) (k' := u) (v := gn g + 1) (by decide)).trans ((rI_ne (by decide)).trans (rI_ne (h := wI (wI hh 58 (gn g) p) 60 (gn g) n) (by decide)))
          have j61 := (rI_ne (h := wI (wI (wI (wI hh 58 (gn g) p) 60 (gn g) n) 61 (gn g) o) 62 (gn g) 0) (o := 12) (o' := 61) (k := 0) (k' := u) (v := gn g + 1) (by decide)).trans (rI_ne (h := wI (wI (wI hh 58 (gn g) p) 60 (gn g) n) 61 (gn g) o) (by decide))
          have j62 := rI_ne (h := wI (wI (wI (wI hh 58 (gn g) p) 60 (gn g) n) 61 (gn g) o) 62 (gn g) 0) (o := 12) (o' := 62) (k := 0) (k' := u) (v := gn g + 1) (by decide)
          rw [j58, j60, j61, j62]
          by_cases z : u = gn g
          · rw [z, rI_eq, rI_eq, rI_eq, rI_eq]
            refine ⟨(if_pos rfl).symm, (if_pos rfl).symm, (if_pos rfl).symm, (if_pos rfl).symm, fun i i0 i1 => ?_⟩
            have i1 : i < (if gn g = gn g then p else gl g (gn g)) := i1
            rw [if_pos rfl] at i1
            rw [rI_ne (by decide), rI_ne (by decide), rI_ne (by decide), rI_ne (by decide), rI_ne (by decide), s i i0 (by omega)]
            show _ = (if gn g = gn g then (fun i => t.2 i - 97) else gt g (gn g)) i
            rw [if_pos rfl]
          · obtain ⟨q1, q2, q3, q4, q5⟩ := rr.2.2.2 u u0 (by omega)
            rw [rI_nk (o' := 58) z, rI_nk (o' := 60) z, rI_nk (o' := 61) z, rI_nk (o' := 62) z, rI_ne (o' := 60) (by decide), rI_ne (o' := 61) (by decide), rI_ne (o' := 61) (by decide), rI_ne (o' := 62) (by decide), rI_ne (o' := 62) (by decide), rI_ne (o' := 62) (by decide)]
            refine ⟨q1.trans (if_neg z).symm, q2.trans (if_neg z).symm, q3.trans (if_neg z).symm, q4.trans (if_neg z).symm, fun i i0 i1 => ?_⟩
            have i1 : i < (if u = gn g then p else gl g u) := i1
            rw [if_neg z] at i1
            rw [rI_ne (by decide), rI_ne (by decide), rI_ne (by decide), rI_ne (by decide), rI_ne (by decide), q5 i i0 i1]
            show _ = (if u = gn g then (fun i => t.2 i - 97) else gt g u) i
            rw [if_neg z]
      · obtain ⟨q1, q2, q3, q4, q5⟩ := rr.2.2.2 u u0 u1
        refine ⟨by rw [rI_ne (by decide)]; exact q1, by rw [rI_ne (by decide)]; exact q2, by rw [rI_ne (by decide)]; exact q3, by rw [rI_ne (by decide)]; exact q4, fun i i0 i1 => ?_⟩
        have := (rr.ok.lb u0 u1).2
        rw [rI_nk (by omega)]; exact q5 i i0 i1
      · by_cases z : i = v4
        · rw [z, rI_eq, ff.i 63]; exact q1.2.2 v4 x1 c3
        · rw [rI_nk (by omega)]; exact s i i0 (by omega)
  exact key 9 0 h1 (by decide) (by omega) (by omega) Fr.refl r1 (fun i i0 i1 => by omega)
end MW

/-! the class: the table of ways, what can be come to, heaps -/
def has (g : G) (lw : LW) (a b : Int) : Prop := ∃ n x, Pw (eW g lw) (UW g) a b n x
def both (g : G) (lw : LW) (w v : Int) : Prop := has g lw w v ∧ has g lw v w
/-- the lowest word of the heap of w -/
def HeapIs (g : G) (lw : LW) (w v : Int) : Prop := (0 ≤ v ∧ v ≤ w) ∧ both g lw w v ∧ ∀ u, 0 ≤ u → u < v → ¬ both g lw w u
theorem both_self {g : G} {lw : LW} {w : Int} (h0 : 0 ≤ w) (h1 : w < gn g) (u : us g w) : both g lw w w := ⟨⟨0, 0, rfl, ⟨⟨h0, h1⟩, u⟩, rfl⟩, ⟨0, 0, rfl, ⟨⟨h0, h1⟩, u⟩, rfl⟩⟩
theorem HeapIs.uniq {g : G} {lw : LW} {w v v' : Int} (h : HeapIs g lw w v) (k : HeapIs g lw w v') : v = v' := by
  by_cases q : v < v'
  · exact absurd h.2.1 (k.2.2 v h.1.1 q)
  · by_cases q2 : v' < v
    · exact absurd k.2.1 (h.2.2 v' k.1.1 q2)
    · omega
/-- bits of what can be come to from a when the words below m have been tried between -/
def TabR (g : G) (lw : LW) (m a : Int) (N : Nat) : Prop := N < 1099511627776 ∧ ∀ b : Nat, b < 40 → (N.testBit b = true → has g lw a b) ∧ ∀ n x, PwI (eW g lw) (UW g) m a b n x → N.testBit b = true
def ReachC (g : G) (lw : LW) (h : AH) : Prop := ∀ a, 0 ≤ a → a < gn g → ∃ N : Nat, h.2.1 37 a = (N : Int) ∧ N < 1099511627776 ∧ ∀ b : Nat, b < 40 → (N.testBit b = true ↔ has g lw a b)
def HeapsC (g : G) (lw : LW) (h : AH) : Prop := ∀ w, 0 ≤ w → w < gn g → us g w → HeapIs g lw w (h.1 38 w)
/-- how many w below m have P -/
noncomputable def cnt (P : Int → Prop) : Nat → Int
  | 0 => 0
  | m + 1 => cnt P m + @ite _ (P m) (Classical.propDecidable _) 1 0
theorem cnt_b (P : Int → Prop) : ∀ m : Nat, 0 ≤ cnt P m ∧ cnt P m ≤ m
  | 0 => ⟨Int.le_refl _, Int.le_refl _⟩
  | m + 1 => by
    have := cnt_b P m
    unfold cnt
    split <;> omega
theorem cnt_t {P : Int → Prop} {m : Nat} (h : P m) : cnt P (m + 1) = cnt P m + 1 := by
  show cnt P m + _ = _
  rw [if_pos h]
theorem cnt_f {P : Int → Prop} {m : Nat} (h : ¬ P m) : cnt P (m + 1) = cnt P m := by
  show cnt P m + _ = _
  rw [if_neg h]; omega
/-- how many heaps -/
noncomputable def heapsN (g : G) (lw : LW) : Int := cnt (fun w => us g w ∧ HeapIs g lw w w) (gn g).toNat
section WR
variable {d : Nat} {g : G} {lw : LW} {h : AH} {K : Int → AH → Prop}
theorem cWRefresh (hd : 3 < d) (r : RepCW g h) (l : LaidC g lw h) (fresh : h.1 7 15 = h.1 6 10 → WaysC g lw h ∧ FarIs g lw (inR g) (h.1 7 11) (h.1 7 9) (h.1 7 10))
    (k0 : WaysC g lw h → FarIs g lw (inR g) (h.1 7 11) (h.1 7 9) (h.1 7 10) → h.1 7 15 = h.1 6 10 → K 0 h)
    (k1 : ∀ h', WaysC g lw h' → FarIs g lw (inR g) (h'.1 7 11) (h'.1 7 9) (h'.1 7 10) → h'.1 7 15 = h.1 6 10 → Fr [36] [(7, 9), (7, 10), (7, 11), (7, 15)] h h' → K 0 h') : Call d M_Ways_refresh [vR 7 (-1)] h K := by
  have nb := r.ok.nb
  have he : ∀ a b, 0 ≤ eW g lw a b := fun a b => (sc_b g lw a b).1
  refine c_Ways_refresh 3 hd ⟨fun c => ?_, fun c => k0 (fresh c).1 (fresh c).2 c⟩
  have f0 : Fr [36] [(7, 9), (7, 10), (7, 11), (7, 15)] h (wI h 7 15 (h.1 6 10)) := Fr.wI (Or.inr (by decide))
  refine cStart (by decide) (r.fr f0) (l.fr f0) (fun hs ts fs => ?_)
  have fs' : Fr [36] [(7, 9), (7, 10), (7, 11), (7, 15)] h hs := f0.trans (fs.mono (by decide) (by decide))
  have e15 : hs.1 7 15 = h.1 6 10 := by rw [fs.f 7 15]; exact rI_eq
  have fin : ∀ hh, (∀ a b, 0 ≤ a → a < gn g → 0 ≤ b → b < gn g → TabI (eW g lw) (UW g) (gn g) 536870912 a b (hh.2.2 36 a b)) → Fr [36] [] hs hh → Call 3 M_Ways_findFarTwo [vR 7 (-1)] hh (fun _ h1 => K 0 h1) := by
    intro hh t f
    have ww : WaysC g lw hh := fun a b a0 a1 b0 b1 => (t a b a0 a1 b0 b1).done nb.2 (by decide) (fun a b => sc_b g lw a b) (fun v hv => hv.1) (Int.le_refl _)
    have rr := (r.fr fs').fr f
    exact cFar (by decide) rr ww (fun h4 q4 f4 => k1 h4 (ww.fr f4) q4 (by rw [f4.f 7 15, f.f 7 15]; exact e15) ((fs'.trans (f.mono (by decide) (by decide))).trans (f4.mono (by decide) (by decide))))
  have round : ∀ m : Nat, ∀ (m0 v4 v6 v7 : Int) (hh : AH), 0 ≤ m0 → m0 < gn g → 0 ≤ v4 → v4 < gn g → 0 ≤ v7 → v7 ≤ gn g → (gn g - m0) * 1681 - v4 * 41 - v7 < m → TabI (eW g lw) (UW g) m0 536870912 v4 m0 v6 →
      (∀ a b, 0 ≤ a → a < gn g → 0 ≤ b → b < gn g → TabI (eW g lw) (UW g) m0 536870912 a b (hh.2.2 36 a b) ∧ ((a < v4 ∨ (a = v4 ∧ b < v7)) → TabI (eW g lw) (UW g) (m0 + 1) 536870912 a b (hh.2.2 36 a b))) → Fr [36] [] hs hh → A_Ways_refresh_79 3 K (gn g) m0 m0 v4 v4 v6 v7 hh := by
    intro m
    induction m with
    | zero => intro m0 v4 v6 v7 hh x1 x2 x3 x4 x5 x6 e; omega
    | succ m ih =>
      intro m0 v4 v6 v7 hh x1 x2 x3 x4 x5 x6 e t6 t f
      have nextRow : ∀ h', (∀ a b, 0 ≤ a → a < gn g → 0 ≤ b → b < gn g → TabI (eW g lw) (UW g) m0 536870912 a b (h'.2.2 36 a b) ∧ ((a < v4 + 1) → TabI (eW g lw) (UW g) (m0 + 1) 536870912 a b (h'.2.2 36 a b))) → Fr [36] [] hs h' → A_Ways_refresh_55 3 K (gn g) m0 m0 (v4 + 1) h' := by
        intro h' t' f'
        refine s_Ways_refresh_55 ⟨fun c2 => ⟨ii (by omega), s_Ways_refresh_40 ?_⟩, fun c2 => ⟨ib (by omega), ib (by omega), ?_⟩⟩
        · have tm : ∀ a b, 0 ≤ a → a < gn g → 0 ≤ b → b < gn g → TabI (eW g lw) (UW g) (m0 + 1) 536870912 a b (h'.2.2 36 a b) := fun a b a0 a1 b0 b1 => (t' a b a0 a1 b0 b1).2 (by omega)
          refine ⟨fun c3 => fin h' (by have e9 : m0 + 1 = gn g := by omega
                                       rw [e9] at tm; exact tm) f', fun c3 => ⟨ib (by omega), s_Ways_refresh_55 ⟨fun c4 => by omega, fun c4 => ⟨ib (by omega), ib (by omega), ?_⟩⟩⟩⟩
          exact ih (m0 + 1) 0 _ 0 h' (by omega) c3 (by omega) (by omega) (by omega) (by omega) (by omega) (tm 0 (m0 + 1) (by omega) (by omega) (by omega) c3) (fun a b a0 a1 b0 b1 => ⟨tm a b a0 a1 b0 b1, fun z => by omega⟩) f'
        · exact ih m0 (v4 + 1) _ 0 h' x1 x2 (by omega) c2 (by omega) (by omega) (by omega) (t' (v4 + 1) m0 (by omega) c2 x1 x2).1 (fun a b a0 a1 b0 b1 => ⟨(t' a b a0 a1 b0 b1).1, fun z => (t' a b a0 a1 b0 b1).2 (by omega)⟩) f'
      have b6 := t6.nn he (by decide)
      refine s_Ways_refresh_79 ⟨fun c => ⟨ii (by omega), nextRow hh (fun a b a0 a1 b0 b1 => ⟨(t a b a0 a1 b0 b1).1, fun z => ?_⟩) f⟩, fun c => ⟨fun c2 => ⟨ii (by omega), nextRow hh (fun a b a0 a1 b0 b1 => ⟨(t a b a0 a1 b0 b1).1, fun z => (t a b a0 a1 b0 b1).2 (by omega)⟩) f⟩, fun c2 => ?_⟩⟩
      · by_cases ha : a = v4
        · subst ha
          exact TabI.via he (t a b a0 a1 b0 b1).1 t6 (t m0 b x1 x2 b0 b1).1 (Or.inl rfl) (Int.le_refl _) (fun q _ => by omega)
        · exact (t a b a0 a1 b0 b1).2 (by omega)
      · have t0 := (t v4 v7 x3 x4 x5 c2).1
        have t2 := (t m0 v7 x1 x2 x5 c2).1
        have b2 := t2.nn he (by decide)
        have b0 := t0.nn he (by decide)
        refine ⟨ib (by omega), ib (by omega), ii (by omega), ib (by omega), fun c3 => ⟨ii (by omega), ?_⟩, fun c3 => ⟨ii (by omega), ?_⟩⟩
        · refine ih m0 v4 v6 (v7 + 1) hh x1 x2 x3 x4 (by omega) (by omega) (by omega) t6 (fun a b a0 a1 b0' b1' => ⟨(t a b a0 a1 b0' b1').1, fun z => ?_⟩) f
          by_cases hab : a = v4 ∧ b = v7
          · rw [hab.1, hab.2]
            exact TabI.via he t0 t6 t2 (Or.inl rfl) (Int.le_refl _) (fun _ _ => by omega)
          · exact (t a b a0 a1 b0' b1').2 (by omega)
        · refine ih m0 v4 v6 (v7 + 1) _ x1 x2 x3 x4 (by omega) (by omega) (by omega) t6 (fun a b a0 a1 b0' b1' => ?_) (f.trans (Fr.wR (by decide)))
          by_cases hab : a = v4 ∧ b = v7
          · rw [hab.1, hab.2]
            have e0 : (wR hh 36 v4 v7 (v6 + hh.2.2 36 m0 v7)).2.2 36 v4 v7 = v6 + hh.2.2 36 m0 v7 := by simp [wR]
            rw [e0]
            have tn : TabI (eW g lw) (UW g) (m0 + 1) 536870912 v4 v7 (v6 + hh.2.2 36 m0 v7) := TabI.via he t0 t6 t2 (Or.inr ⟨rfl, c, by omega, by omega⟩) (by omega) (fun _ _ => Int.le_refl _)
            exact ⟨tn.down, fun _ => tn⟩
          · rw [rR_nk hab]
            exact ⟨(t a b a0 a1 b0' b1').1, fun z => (t a b a0 a1 b0' b1').2 (by omega)⟩
  rw [(r.fr fs').n]
  refine s_Ways_refresh_40 ⟨fun c2 => fin hs (fun a b a0 a1 => by omega) Fr.refl, fun c2 => ⟨ib (by omega), s_Ways_refresh_55 ⟨fun c4 => by omega, fun c4 => ⟨ib (by omega), ib (by omega), ?_⟩⟩⟩⟩
  exact round ((gn g) * 1681 + 1).toNat 0 0 _ 0 hs (by decide) c2 (by decide) c2 (by decide) (by omega) (by omega) (ts 0 0 (by decide) c2 (by decide) c2) (fun a b a0 a1 b0 b1 => ⟨ts a b a0 a1 b0 b1, fun z => by omega⟩) Fr.refl
theorem cReaches (hd : 0 < d) {a b : Int} (ok : OkG g) (w : ReachC g lw h) (a0 : 0 ≤ a) (a1 : a < gn g) (b0 : 0 ≤ b) (b1 : b < gn g) (kT : has g lw a b → K 1 h) (kF : ¬ has g lw a b → K 0 h) : Call d M_Ways_reaches [vR 7 (-1), vI a, vI b] h K := by
  have nb := ok.nb
  obtain ⟨N, n1, n2, n3⟩ := w a a0 a1
  refine c_Ways_reaches 0 hd ⟨ib (by omega), ?_⟩
  obtain ⟨n, hn⟩ : ∃ n : Nat, b = (n : Int) := ⟨b.toNat, by omega⟩
  rw [n1, hn, bit_and n2 (by omega)]
  have e := n3 n (by omega)
  rw [← hn] at e
  by_cases ht : N.testBit n = true
  · rw [if_pos ht]
    exact br1 (kT (e.mp ht))
  · rw [if_neg ht]
    exact br0 (kF (fun z => ht (e.mpr z)))
theorem cFindHeaps (hd : 2 < d) (r : RepCW g h) (w : ReachC g lw h) (k : ∀ h', HeapsC g lw h' → h'.1 7 8 = heapsN g lw → Fr [38] [(7, 8)] h h' → K 0 h') : Call d M_Ways_findHeaps [vR 7 (-1)] h K := by
  have nb := r.ok.nb
  refine c_Ways_findHeaps 2 hd ?_
  have key : ∀ m : Nat, ∀ (v1 v2 : Int) (hh : AH), 0 ≤ v1 → v1 < gn g → 0 ≤ v2 → v2 ≤ v1 → (gn g - v1) * 41 - v2 < m → (∀ w, 0 ≤ w → w < v1 → us g w → HeapIs g lw w (hh.1 38 w)) → hh.1 7 8 = cnt (fun w => us g w ∧ HeapIs g lw w w) v1.toNat → (∀ u, 0 ≤ u → u < v2 → ¬ both g lw v1 u) → Fr [38] [(7, 8)] h hh → A_Ways_findHeaps_20 2 K v1 v2 hh := by
    intro m
    induction m with
    | zero => intro v1 v2 hh x1 x2 x3 x4 e; omega
    | succ m ih =>
      intro v1 v2 hh x1 x2 x3 x4 e t c8 low f
      have rr := r.fr f
      have ww : ReachC g lw hh := fun a a0 a1 => by rw [f.l 37]; exact w a a0 a1
      have put : (us g v1 → both g lw v1 v2) → A_Ways_findHeaps_49 2 K v1 v2 hh := by
        intro hm
        have fw : Fr [38] [(7, 8)] h (wI hh 38 v1 v2) := f.trans (Fr.wI (Or.inl (by decide)))
        have tn : ∀ w, 0 ≤ w → w < v1 + 1 → us g w → HeapIs g lw w ((wI hh 38 v1 v2).1 38 w) := by
          intro w w0 w1 u
          by_cases hw : w = v1
          · subst hw
            rw [rI_eq]
            exact ⟨⟨x3, x4⟩, hm u, low⟩
          · rw [rI_nk hw]
            exact t w w0 (by omega) u
        have next : ∀ h', (∀ w, 0 ≤ w → w < v1 + 1 → us g w → HeapIs g lw w (h'.1 38 w)) → h'.1 7 8 = cnt (fun w => us g w ∧ HeapIs g lw w w) (v1.toNat + 1) → Fr [38] [(7, 8)] h h' → inI (v1 + 1) ∧ A_Ways_findHeaps_7 2 K (v1 + 1) h' := by
          intro h' t' c' f'
          refine ⟨ii (by omega), s_Ways_findHeaps_7 ?_⟩
          rw [(r.fr f').n]
          refine ⟨fun c2 => k h' (fun w w0 w1 u => t' w w0 (by omega) u) ?_ f', fun c2 => ih (v1 + 1) 0 h' (by omega) c2 (by omega) (by omega) (by omega) t' (by rw [c', show (v1 + 1).toNat = v1.toNat + 1 by omega]) (fun u u0 u1 => by omega) f'⟩
          rw [c']
          unfold heapsN
          rw [show (gn g).toNat = v1.toNat + 1 by omega]
        have ev : ((v1.toNat : Nat) : Int) = v1 := by omega
        have nP : (us g v1 → v2 ≠ v1) → cnt (fun w => us g w ∧ HeapIs g lw w w) (v1.toNat + 1) = cnt (fun w => us g w ∧ HeapIs g lw w w) v1.toNat := by
          intro hne
          refine cnt_f (fun z => ?_)
          rw [ev] at z
          have q : HeapIs g lw v1 v2 := ⟨⟨x3, x4⟩, hm z.1, low⟩
          exact hne z.1 (q.uniq z.2)
        refine s_Ways_findHeaps_49 ⟨ib (by omega), fun c => next _ tn (by rw [nP (fun _ => c)]; exact c8) fw, fun c => ?_⟩
        refine wIsUsed (by decide) (r.fr fw) (fun _ _ u => br1 ?_) (fun nu => br0 (next _ tn (by rw [nP (fun z => absurd ⟨x1, x2, z⟩ nu)]; exact c8) fw))
        have c8' : (wI hh 38 v1 v2).1 7 8 = cnt (fun w => us g w ∧ HeapIs g lw w w) v1.toNat := c8
        have cb := cnt_b (fun w => us g w ∧ HeapIs g lw w w) v1.toNat
        rw [c8']
        refine ⟨ii (by omega), next _ (fun w w0 w1 u2 => by rw [rI_ne (by decide)]; exact tn w w0 w1 u2) ?_ (fw.trans (Fr.wI (Or.inr (by decide))))⟩
        rw [rI_eq, cnt_t]
        rw [ev]
        have q : HeapIs g lw v1 v2 := ⟨⟨x3, x4⟩, hm u, low⟩
        rw [c] at q
        exact ⟨u, q⟩
      refine s_Ways_findHeaps_20 ⟨fun c => put (fun u => by have e9 : v2 = v1 := by omega
                                                            rw [e9]; exact both_self x1 x2 u), fun c => ?_⟩
      have skip : ¬ both g lw v1 v2 → inI (v2 + 1) ∧ A_Ways_findHeaps_20 2 K v1 (v2 + 1) hh := fun hn => ⟨ii (by omega), ih v1 (v2 + 1) hh x1 x2 (by omega) (by omega) (by omega) t c8 (fun u u0 u1 => by
        by_cases hu : u = v2
        · rw [hu]; exact hn
        · exact low u u0 (by omega)) f⟩
      exact cReaches (by decide) r.ok ww x1 x2 x3 (by omega) (fun h1 => br1 (cReaches (by decide) r.ok ww x3 (by omega) x1 x2 (fun h2 => br1' (put (fun _ => ⟨h1, h2⟩))) (fun h2 => br0' (skip (fun z => h2 z.2))))) (fun h1 => br0 (skip (fun z => h1 z.1)))
  have f0 : Fr [38] [(7, 8)] h (wI h 7 8 0) := Fr.wI (Or.inr (by decide))
  refine s_Ways_findHeaps_7 ?_
  rw [(r.fr f0).n]
  refine ⟨fun c => k _ (fun w w0 w1 => by omega) ?_ f0, fun c => key ((gn g) * 41 + 1).toNat 0 0 _ (by decide) c (by decide) (by decide) (by omega) (fun w w0 w1 => by omega) (by rw [rI_eq]; rfl) (fun u u0 u1 => by omega) f0⟩
  rw [rI_eq]
  unfold heapsN
  rw [show (gn g).toNat = 0 by omega]
  rfl
end WR

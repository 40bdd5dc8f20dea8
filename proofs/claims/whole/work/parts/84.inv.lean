/-! what holds between two calls -/
def OC : List Nat := [0, 1, 2, 3, 4, 5, 6, 7, 8, 9, 10, 11, 13, 14, 15, 16, 17, 18, 19, 20, 21, 22, 23, 24, 25, 26, 27, 28, 29, 30, 31, 32, 33, 34, 35, 36, 37, 38, 39, 40, 41, 42, 43, 44, 45, 46, 47, 48, 49, 50, 51, 52, 53, 54, 55, 56, 57]
def OM : List Nat := [12, 58, 59, 60, 61, 62, 63, 64, 65, 66, 67, 68, 69, 70, 71, 72, 73, 74, 75, 76, 77, 78, 79, 80, 81, 82, 83, 84, 85, 86, 87, 88, 89, 90, 91, 92, 93]
theorem Fr.up {L L2 : List Nat} {F : List (Nat × Int)} {h h' : AH} (a : Fr L F h h') (hL : ∀ o ∈ L, o ∈ L2) (hF : ∀ q ∈ F, q.1 ∈ L2) : Fr L2 [] h h' := fun o k x _ => a o k (fun z => x (hL o z)) (fun z => x (hF _ z))
theorem Fr.c {L : List Nat} {F : List (Nat × Int)} {h h' : AH} (a : Fr L F h h') (hL : ∀ o ∈ L, o ∈ OC := by decide) (hF : ∀ q ∈ F, q.1 ∈ OC := by decide) : Fr OC [] h h' := a.up hL hF
theorem Fr.m {L : List Nat} {F : List (Nat × Int)} {h h' : AH} (a : Fr L F h h') (hL : ∀ o ∈ L, o ∈ OM := by decide) (hF : ∀ q ∈ F, q.1 ∈ OM := by decide) : Fr OM [] h h' := a.up hL hF
def InvM (g : G) (t : Tp) (x : Int) (lw : LW) (h : AH) : Prop := RepM g h ∧ RepMT t h ∧ h.1 12 1 = x ∧ RepML lw h
def Ages (c : Int) (h : AH) : Prop := (0 ≤ h.1 2 9 ∧ h.1 2 9 ≤ c) ∧ (0 ≤ h.1 3 7 ∧ h.1 3 7 ≤ c) ∧ (0 ≤ h.1 6 10 ∧ h.1 6 10 ≤ c) ∧ h.1 6 8 ≤ h.1 2 9 ∧ h.1 6 9 ≤ h.1 3 7 ∧ h.1 7 14 ≤ h.1 6 10 ∧ h.1 7 15 ≤ h.1 6 10 ∧ h.1 7 16 ≤ h.1 6 10 ∧ h.1 8 11 ≤ h.1 6 10 ∧ h.1 11 8 ≤ h.1 2 9
def WaysOk (g : G) (lw : LW) (h : AH) : Prop := WaysC g lw h ∧ FarIs g lw (inR g) (h.1 7 11) (h.1 7 9) (h.1 7 10)
def ReachOk (g : G) (lw : LW) (h : AH) : Prop := ReachC g lw h ∧ HeapsC g lw h ∧ h.1 7 8 = heapsN g lw
def Cache (g : G) (lw : LW) (h : AH) : Prop := h.1 6 8 = h.1 2 9 → h.1 6 9 = h.1 3 7 → LaidC g lw h ∧ (h.1 7 15 = h.1 6 10 → WaysOk g lw h) ∧ (h.1 7 14 = h.1 6 10 → ReachOk g lw h) ∧ (h.1 7 16 = h.1 6 10 → BusyIs g lw (gn g) (h.1 7 12) (h.1 7 13)) ∧ (h.1 8 11 = h.1 6 10 → NewC g lw h)
def SqOk (g : G) (h : AH) : Prop := h.1 11 8 = h.1 2 9 → ∀ n, 1 ≤ n → n ≤ 4 → h.1 11 6 = n → AccC n (sqA g n) h
def InvC (c : Int) (g : G) (t : Tp) (x : Int) (lw : LW) (h : AH) : Prop := RepCW g h ∧ RepCT t h ∧ h.1 0 10 = x ∧ RepCL lw h ∧ KUpTo g (gn g) h ∧ RowsC h ∧ Ages c h ∧ Cache g lw h ∧ SqOk g h
def Inv (c : Int) (h : AH) : Prop := ∃ (g : G) (t : Tp) (x : Int) (lw : LW), (0 ≤ x ∧ x ≤ 65535) ∧ InvM g t x lw h ∧ InvC c g t x lw h
theorem InvM.fr {g : G} {t : Tp} {x : Int} {lw : LW} {h h' : AH} (i : InvM g t x lw h) (f : Fr OC [] h h') : InvM g t x lw h' := ⟨i.1.fr f, i.2.1.fr f, by rw [f.i 12]; exact i.2.2.1, i.2.2.2.fr f⟩
theorem WaysOk.fr {g : G} {lw : LW} {L : List Nat} {F : List (Nat × Int)} {h h' : AH} (w : WaysOk g lw h) (f : Fr L F h h') (h1 : (∀ o ∈ [7, 36], o ∉ L) := by decide) (h2 : 36 ∉ F.map Prod.fst := by decide) (h3 : (∀ q ∈ [((7 : Nat), (9 : Int)), (7, 10), (7, 11)], q ∉ F) := by decide) : WaysOk g lw h' := by
  refine ⟨w.1.fr f (h1 _ (by decide)) h2, ?_⟩
  rw [f.f 7 9 (h1 _ (by decide)) (h3 _ (by decide)), f.f 7 10 (h1 _ (by decide)) (h3 _ (by decide)), f.f 7 11 (h1 _ (by decide)) (h3 _ (by decide))]
  exact w.2
theorem ReachOk.fr {g : G} {lw : LW} {L : List Nat} {F : List (Nat × Int)} {h h' : AH} (w : ReachOk g lw h) (f : Fr L F h h') (h1 : (∀ o ∈ [7, 37, 38], o ∉ L) := by decide) (h2 : (∀ o ∈ [37, 38], o ∉ F.map Prod.fst) := by decide) (h3 : ((7 : Nat), (8 : Int)) ∉ F := by decide) : ReachOk g lw h' := by
  refine ⟨fun a a0 a1 => ?_, fun w' w0 w1 u => ?_, ?_⟩
  · rw [f.l 37 (h1 _ (by decide)) (h2 _ (by decide))]; exact w.1 a a0 a1
  · rw [f.i 38 (h1 _ (by decide)) (h2 _ (by decide))]; exact w.2.1 w' w0 w1 u
  · rw [f.f 7 8 (h1 _ (by decide)) h3]; exact w.2.2
theorem NewC.fr {g : G} {lw : LW} {L : List Nat} {F : List (Nat × Int)} {h h' : AH} (w : NewC g lw h) (f : Fr L F h h') (h1 : 8 ∉ L := by decide) (h3 : (∀ q ∈ [((8 : Nat), (8 : Int)), (8, 9), (8, 10)], q ∉ F) := by decide) : NewC g lw h' := by
  intro hu
  obtain ⟨n, f', a, b, c, e⟩ := w hu
  exact ⟨n, f', a, by rw [f.f 8 8 h1 (h3 _ (by decide))]; exact b, by rw [f.f 8 9 h1 (h3 _ (by decide))]; exact c, by rw [f.fl 8 10 h1 (h3 _ (by decide))]; exact e⟩
theorem SqOk.fr {g : G} {L : List Nat} {F : List (Nat × Int)} {h h' : AH} (w : SqOk g h) (f : Fr L F h h') (h1 : (∀ o ∈ [2, 11, 57], o ∉ L) := by decide) (h2 : 57 ∉ F.map Prod.fst := by decide) (h3 : (∀ q ∈ [((2 : Nat), (9 : Int)), (11, 6), (11, 7), (11, 8)], q ∉ F) := by decide) : SqOk g h' := by
  unfold SqOk AccC
  rw [f.f 2 9 (h1 _ (by decide)) (h3 _ (by decide)), f.f 11 6 (h1 _ (by decide)) (h3 _ (by decide)), f.f 11 7 (h1 _ (by decide)) (h3 _ (by decide)), f.f 11 8 (h1 _ (by decide)) (h3 _ (by decide))]
  have e57 : ∀ k, h'.1 57 k = h.1 57 k := fun k => f.i 57 (h1 _ (by decide)) h2 k
  simp only [e57]
  exact w
/-- the fields of which Ages and Cache speak -/
def AF : List (Nat × Int) := [(2, 9), (3, 7), (6, 8), (6, 9), (6, 10), (7, 14), (7, 15), (7, 16), (8, 11), (11, 8)]
theorem Ages.fr {c : Int} {L : List Nat} {F : List (Nat × Int)} {h h' : AH} (w : Ages c h) (f : Fr L F h h') (h1 : (∀ q ∈ AF, q.1 ∉ L) := by decide) (h3 : (∀ q ∈ AF, q ∉ F) := by decide) : Ages c h' := by
  unfold Ages
  have e : ∀ q ∈ AF, h'.1 q.1 q.2 = h.1 q.1 q.2 := fun q hq => f.f q.1 q.2 (h1 q hq) (h3 q hq)
  have e1 := e (2, 9) (by decide)
  have e2 := e (3, 7) (by decide)
  have e3 := e (6, 8) (by decide)
  have e4 := e (6, 9) (by decide)
  have e5 := e (6, 10) (by decide)
  have e6 := e (7, 14) (by decide)
  have e7 := e (7, 15) (by decide)
  have e8 := e (7, 16) (by decide)
  have e9 := e (8, 11) (by decide)
  have e10 := e (11, 8) (by decide)
  simp only at e1 e2 e3 e4 e5 e6 e7 e8 e9 e10
  rw [e1, e2, e3, e4, e5, e6, e7, e8, e9, e10]
  exact w
theorem Ages.up {c c' : Int} {h : AH} (w : Ages c h) (hc : c ≤ c') : Ages c' h := by
  unfold Ages at *
  omega
/-- a call that leaves all this alone -/
theorem Cache.fr {g : G} {lw : LW} {L : List Nat} {F : List (Nat × Int)} {h h' : AH} (w : Cache g lw h) (f : Fr L F h h') (h1 : (∀ o ∈ [2, 3, 6, 7, 8, 11, 30, 33, 34, 35, 36, 37, 38], o ∉ L) := by decide) (h2 : (∀ o ∈ [30, 33, 34, 35, 36, 37, 38], o ∉ F.map Prod.fst) := by decide) (h3 : (∀ q ∈ AF ++ [((7 : Nat), (8 : Int)), (7, 9), (7, 10), (7, 11), (7, 12), (7, 13), (8, 8), (8, 9), (8, 10)], q ∉ F) := by decide) : Cache g lw h' := by
  unfold Cache
  have e : ∀ q ∈ AF ++ [((7 : Nat), (8 : Int)), (7, 9), (7, 10), (7, 11), (7, 12), (7, 13), (8, 8), (8, 9), (8, 10)], q.1 ∉ L → h'.1 q.1 q.2 = h.1 q.1 q.2 := fun q hq hl => f.f q.1 q.2 hl (h3 q hq)
  have e1 := e (2, 9) (by decide) (h1 _ (by decide))
  have e2 := e (3, 7) (by decide) (h1 _ (by decide))
  have e3 := e (6, 8) (by decide) (h1 _ (by decide))
  have e4 := e (6, 9) (by decide) (h1 _ (by decide))
  have e5 := e (6, 10) (by decide) (h1 _ (by decide))
  have e6 := e (7, 14) (by decide) (h1 _ (by decide))
  have e7 := e (7, 15) (by decide) (h1 _ (by decide))
  have e8 := e (7, 16) (by decide) (h1 _ (by decide))
  have e9 := e (8, 11) (by decide) (h1 _ (by decide))
  have e10 := e (7, 12) (by decide) (h1 _ (by decide))
  have e11 := e (7, 13) (by decide) (h1 _ (by decide))
  simp only at e1 e2 e3 e4 e5 e6 e7 e8 e9 e10 e11
  rw [e1, e2, e3, e4, e5, e6, e7, e8, e9, e10, e11]
  intro a b
  obtain ⟨q1, q2, q3, q4, q5⟩ := w a b
  refine ⟨q1.fr f (fun o ho => h1 o (by revert ho; revert o; decide)) (fun o ho => h2 o (by revert ho; revert o; decide)), fun z => (q2 z).fr f (fun o ho => h1 o (by revert ho; revert o; decide)) (h2 _ (by decide)) (fun q hq => h3 q (by revert hq; revert q; decide)), fun z => (q3 z).fr f (fun o ho => h1 o (by revert ho; revert o; decide)) (fun o ho => h2 o (by revert ho; revert o; decide)) (h3 _ (by decide)), q4, fun z => (q5 z).fr f (h1 _ (by decide)) (fun q hq => h3 q (by revert hq; revert q; decide))⟩
theorem InvC.fr {c : Int} {g : G} {t : Tp} {x : Int} {lw : LW} {h h' : AH} (i : InvC c g t x lw h) (f : Fr OM [] h h') : InvC c g t x lw h' := by
  obtain ⟨i1, i2, i3, i4, i5, i6, i7, i8, i9⟩ := i
  exact ⟨i1.fr f, i2.fr f, by rw [f.i 0]; exact i3, i4.fr f, i5.fr f, i6.fr f, i7.fr f, i8.fr f, i9.fr f⟩
theorem InvC.up {c c' : Int} {g : G} {t : Tp} {x : Int} {lw : LW} {h : AH} (i : InvC c g t x lw h) (hc : c ≤ c') : InvC c' g t x lw h := ⟨i.1, i.2.1, i.2.2.1, i.2.2.2.1, i.2.2.2.2.1, i.2.2.2.2.2.1, i.2.2.2.2.2.2.1.up hc, i.2.2.2.2.2.2.2.1, i.2.2.2.2.2.2.2.2⟩
/-- after a refresh -/
def Fresh (h : AH) : Prop := h.1 6 8 = h.1 2 9 ∧ h.1 6 9 = h.1 3 7
section REF
variable {d : Nat} {c : Int} {g : G} {t : Tp} {x : Int} {lw : LW} {h : AH} {K : Int → AH → Prop}
theorem InvC.laid (i : InvC c g t x lw h) (fr : Fresh h) : LaidC g lw h := (i.2.2.2.2.2.2.2.1 fr.1 fr.2).1
theorem kSteps (hd : 5 < d) (i : InvC c g t x lw h) (hc : c ≤ 600) (k : ∀ h', InvC (c + 1) g t x lw h' → Fresh h' → Fr OC [] h h' → K 0 h') : Call d M_Steps_refresh [vR 6 (-1)] h K := by
  obtain ⟨i1, i2, i3, i4, i5, i6, i7, i8, i9⟩ := i
  have ag := i7
  unfold Ages at ag
  refine cRefresh hd i1 i4 i5 (ii (by omega)) (fun a b => (i8 a b).1) (fun l a b => k h ⟨i1, i2, i3, i4, i5, i6, i7.up (by omega), i8, i9⟩ ⟨a, b⟩ Fr.refl) (fun ns h' l a b e f => ?_)
  have e1 := f.f 2 9
  have e2 := f.f 3 7
  have e6 := f.f 7 14
  have e7 := f.f 7 15
  have e8 := f.f 7 16
  have e9 := f.f 8 11
  have e10 := f.f 11 8
  refine k h' ⟨i1.fr f, i2.fr f, by rw [f.f 0 10]; exact i3, i4.fr f, i5.fr f, i6.fr f, ?_, fun _ _ => ⟨l, fun z => by omega, fun z => by omega, fun z => by omega, fun z => by omega⟩, i9.fr f⟩ ⟨by rw [a, e1], by rw [b, e2]⟩ f.c
  unfold Ages
  rw [e1, e2, e6, e7, e8, e9, e10, a, b, e]
  omega
theorem kWays (hd : 3 < d) (i : InvC c g t x lw h) (fr : Fresh h) (k : ∀ h', InvC c g t x lw h' → Fresh h' → WaysOk g lw h' → h'.1 7 15 = h'.1 6 10 → Fr OC [] h h' → K 0 h') : Call d M_Ways_refresh [vR 7 (-1)] h K := by
  have i' := i
  obtain ⟨i1, i2, i3, i4, i5, i6, i7, i8, i9⟩ := i
  obtain ⟨q1, q2, q3, q4, q5⟩ := i8 fr.1 fr.2
  have ag := i7
  unfold Ages at ag
  refine cWRefresh hd i1 q1 q2 (fun a b e => k h i' fr ⟨a, b⟩ e Fr.refl) (fun h' a b e f => ?_)
  have e1 := f.f 2 9
  have e2 := f.f 3 7
  have e3 := f.f 6 8
  have e4 := f.f 6 9
  have e5 := f.f 6 10
  have e6 := f.f 7 14
  have e8 := f.f 7 16
  have e9 := f.f 8 11
  have e10 := f.f 11 8
  have e12 := f.f 7 12
  have e13 := f.f 7 13
  have fr' : Fresh h' := ⟨by rw [e3, e1]; exact fr.1, by rw [e4, e2]; exact fr.2⟩
  refine k h' ⟨i1.fr f, i2.fr f, by rw [f.f 0 10]; exact i3, i4.fr f, i5.fr f, i6.fr f, ?_, fun _ _ => ⟨q1.fr f, fun _ => ⟨a, b⟩, fun z => (q3 (by omega)).fr f, fun z => by rw [e12, e13]; exact q4 (by omega), fun z => (q5 (by omega)).fr f⟩, i9.fr f⟩ fr' ⟨a, b⟩ (by rw [e, e5]) f.c
  unfold Ages
  rw [e1, e2, e3, e4, e5, e6, e8, e9, e10, e]
  omega
theorem kReach (hd : 3 < d) (i : InvC c g t x lw h) (fr : Fresh h) (k : ∀ h', InvC c g t x lw h' → Fresh h' → ReachOk g lw h' → h'.1 7 14 = h'.1 6 10 → Fr OC [] h h' → K 0 h') : Call d M_Ways_refreshReach [vR 7 (-1)] h K := by
  have i' := i
  obtain ⟨i1, i2, i3, i4, i5, i6, i7, i8, i9⟩ := i
  obtain ⟨q1, q2, q3, q4, q5⟩ := i8 fr.1 fr.2
  have ag := i7
  unfold Ages at ag
  refine cRReach hd i1 q1 q3 (fun a b b2 e => k h i' fr ⟨a, b, b2⟩ e Fr.refl) (fun h' a b b2 e f => ?_)
  have e1 := f.f 2 9
  have e2 := f.f 3 7
  have e3 := f.f 6 8
  have e4 := f.f 6 9
  have e5 := f.f 6 10
  have e7 := f.f 7 15
  have e8 := f.f 7 16
  have e9 := f.f 8 11
  have e10 := f.f 11 8
  have e12 := f.f 7 12
  have e13 := f.f 7 13
  have fr' : Fresh h' := ⟨by rw [e3, e1]; exact fr.1, by rw [e4, e2]; exact fr.2⟩
  refine k h' ⟨i1.fr f, i2.fr f, by rw [f.f 0 10]; exact i3, i4.fr f, i5.fr f, i6.fr f, ?_, fun _ _ => ⟨q1.fr f, fun z => (q2 (by omega)).fr f, fun _ => ⟨a, b, b2⟩, fun z => by rw [e12, e13]; exact q4 (by omega), fun z => (q5 (by omega)).fr f⟩, i9.fr f⟩ fr' ⟨a, b, b2⟩ (by rw [e, e5]) f.c
  unfold Ages
  rw [e1, e2, e3, e4, e5, e7, e8, e9, e10, e]
  omega
theorem kBusiest (hd : 2 < d) (i : InvC c g t x lw h) (fr : Fresh h) (w : WaysOk g lw h) (e15 : h.1 7 15 = h.1 6 10) (k : ∀ h', InvC c g t x lw h' → BusyIs g lw (gn g) (h'.1 7 12) (h'.1 7 13) → Fr OC [] h h' → K 0 h') : Call d M_Ways_refreshBusiest [vR 7 (-1)] h K := by
  have i' := i
  obtain ⟨i1, i2, i3, i4, i5, i6, i7, i8, i9⟩ := i
  obtain ⟨q1, q2, q3, q4, q5⟩ := i8 fr.1 fr.2
  have ag := i7
  unfold Ages at ag
  refine cBusiest hd i1 w.1 q4 (fun a e => k h i' a Fr.refl) (fun h' a e f => ?_)
  have e1 := f.f 2 9
  have e2 := f.f 3 7
  have e3 := f.f 6 8
  have e4 := f.f 6 9
  have e5 := f.f 6 10
  have e6 := f.f 7 14
  have e7 := f.f 7 15
  have e9 := f.f 8 11
  have e10 := f.f 11 8
  refine k h' ⟨i1.fr f, i2.fr f, by rw [f.f 0 10]; exact i3, i4.fr f, i5.fr f, i6.fr f, ?_, fun _ _ => ⟨q1.fr f, fun z => (q2 (by omega)).fr f, fun z => (q3 (by omega)).fr f, fun _ => a, fun z => (q5 (by omega)).fr f⟩, i9.fr f⟩ a f.c
  unfold Ages
  rw [e1, e2, e3, e4, e5, e6, e7, e9, e10, e]
  omega
theorem kNew (hd : 9 < d) (i : InvC c g t x lw h) (fr : Fresh h) (w : ReachOk g lw h) (k : ∀ h', InvC c g t x lw h' → NewC g lw h' → Fr OC [] h h' → K 0 h') : Call d M_NewWords_refresh [vR 8 (-1)] h K := by
  have i' := i
  obtain ⟨i1, i2, i3, i4, i5, i6, i7, i8, i9⟩ := i
  obtain ⟨q1, q2, q3, q4, q5⟩ := i8 fr.1 fr.2
  have ag := i7
  unfold Ages at ag
  refine cNewRefresh hd i1 i6 w.1 w.2.1 q5 (fun h' a b e f => ?_)
  have e1 := f.f 2 9
  have e2 := f.f 3 7
  have e3 := f.f 6 8
  have e4 := f.f 6 9
  have e5 := f.f 6 10
  have e6 := f.f 7 14
  have e7 := f.f 7 15
  have e8 := f.f 7 16
  have e10 := f.f 11 8
  have e12 := f.f 7 12
  have e13 := f.f 7 13
  refine k h' ⟨i1.fr f, i2.fr f, by rw [f.f 0 10]; exact i3, i4.fr f, i5.fr f, b, ?_, fun _ _ => ⟨q1.fr f, fun z => (q2 (by omega)).fr f, fun z => (q3 (by omega)).fr f, fun z => by rw [e12, e13]; exact q4 (by omega), fun _ => a⟩, i9.fr f⟩ a f.c
  unfold Ages
  rw [e1, e2, e3, e4, e5, e6, e7, e8, e10, e]
  omega
theorem kSquares (hd : 11 < d) (i : InvC c g t x lw h) {n : Int} (n0 : 1 ≤ n) (n1 : n ≤ 4) (k : ∀ h', InvC c g t x lw h' → AccC n (sqA g n) h' → Fr OC [] h h' → K 0 h') : Call d M_Squares_refresh [vR 11 (-1), vI n] h K := by
  obtain ⟨i1, i2, i3, i4, i5, i6, i7, i8, i9⟩ := i
  have ag := i7
  unfold Ages at ag
  refine cSqRefresh hd i1 n0 n1 (fun a b => i9 a n n0 n1 b) (fun h' a e8' e6' f => ?_)
  have e1 := f.f 2 9
  have e2 := f.f 3 7
  have e3 := f.f 6 8
  have e4 := f.f 6 9
  have e5 := f.f 6 10
  have e6 := f.f 7 14
  have e7 := f.f 7 15
  have e8 := f.f 7 16
  have e9 := f.f 8 11
  have e12 := f.f 7 12
  have e13 := f.f 7 13
  refine k h' ⟨i1.fr f, i2.fr f, by rw [f.f 0 10]; exact i3, i4.fr f, i5.fr f, i6.fr f, ?_, fun z y => ?_, fun _ m m0 m1 em => ?_⟩ a f.c
  · unfold Ages
    rw [e1, e2, e3, e4, e5, e6, e7, e8, e9, e8']
    omega
  · obtain ⟨q1, q2, q3, q4, q5⟩ := i8 (by omega) (by omega)
    exact ⟨q1.fr f, fun z => (q2 (by omega)).fr f, fun z => (q3 (by omega)).fr f, fun z => by rw [e12, e13]; exact q4 (by omega), fun z => (q5 (by omega)).fr f⟩
  · rw [show m = n by omega]; exact a
/-- the words have changed -/
theorem kWords {g' : G} {t' : Tp} (i : InvC c g t x lw h) {h' : AH} {L : List Nat} (hL : ∀ o ∈ L, o ∈ [14, 15, 16, 17, 18, 19, 30, 31, 32]) (f : Fr L [(1, 1), (1, 2), (2, 6), (2, 7), (2, 8), (2, 9)] h h') (r : RepCW g' h') (rt : RepCT t' h') (ku : KUpTo g' (gn g') h') (ha : h'.1 2 9 = h.1 2 9 + 1) : InvC (c + 1) g' t' x lw h' := by
  obtain ⟨i1, i2, i3, i4, i5, i6, i7, i8, i9⟩ := i
  have ag := i7
  unfold Ages at ag
  have f2 : Fr [14, 15, 16, 17, 18, 19, 30, 31, 32] [(1, 1), (1, 2), (2, 6), (2, 7), (2, 8), (2, 9)] h h' := f.mono hL (fun _ z => z)
  have e2 := f2.f 3 7
  have e3 := f2.f 6 8
  have e4 := f2.f 6 9
  have e5 := f2.f 6 10
  have e6 := f2.f 7 14
  have e7 := f2.f 7 15
  have e8 := f2.f 7 16
  have e9 := f2.f 8 11
  have e10 := f2.f 11 8
  refine ⟨r, rt, by rw [f2.f 0 10]; exact i3, i4.fr f2, ku, i6.fr f2, ?_, fun z _ => by omega, fun z => by omega⟩
  unfold Ages
  rw [e2, e3, e4, e5, e6, e7, e8, e9, e10, ha]
  omega
/-- the tape alone, or cells of which the invariant doesn't speak -/
theorem kTape {t' : Tp} {x' : Int} {L : List Nat} {F : List (Nat × Int)} {h' : AH} (i : InvC c g t x lw h) (f : Fr L F h h') (rt : RepCT t' h') (ex : h'.1 0 10 = x') (hL : ∀ o ∈ L, o ∈ [9, 10, 13, 23, 24, 25, 26, 27, 39, 40, 41, 46, 47, 48, 49, 50, 51, 52, 53]) (hF : ∀ q ∈ F, q ∈ [((0 : Nat), (10 : Int)), (1, 1), (1, 2), (3, 8), (3, 9), (9, 4), (9, 5), (9, 6), (10, 10), (10, 11), (4, 2), (4, 3), (4, 4), (5, 5), (5, 6)]) : InvC c g t' x' lw h' := by
  obtain ⟨i1, i2, i3, i4, i5, i6, i7, i8, i9⟩ := i
  have f2 : Fr [9, 10, 13, 23, 24, 25, 26, 27, 39, 40, 41, 46, 47, 48, 49, 50, 51, 52, 53] [((0 : Nat), (10 : Int)), (1, 1), (1, 2), (3, 8), (3, 9), (9, 4), (9, 5), (9, 6), (10, 10), (10, 11), (4, 2), (4, 3), (4, 4), (5, 5), (5, 6)] h h' := f.mono hL hF
  exact ⟨i1.fr f2, rt, ex, i4.fr f2, i5.fr f2, i6.fr f2, i7.fr f2, i8.fr f2, i9.fr f2⟩
end REF

/-! the reference reads a law: sums -/
def TakM (f : Int → Int) (n : Int) (h : AH) : Prop := ∀ k, 0 ≤ k → k < n → (0 ≤ f k ∧ f k < 256) ∧ h.1 64 k = sgn (f k)
/-- what waits, the last first -/
def WS (h : AH) : List Int → Prop
  | [] => True
  | x :: ws => (h.1 66 (ws.length : Int) = x ∧ 0 ≤ x ∧ x < 16777216) ∧ WS h ws
abbrev FRm (h h' : AH) : Prop := Fr [65, 66] [((12 : Nat), (12 : Int)), (12, 14), (12, 15), (12, 16), (12, 17), (12, 19)] h h'
def RdM (f : Int → Int) (n p s : Int) (ws : List Int) (o : Nat) (h : AH) : Prop := TakM f n h ∧ (h.1 12 12 = p ∧ h.1 12 13 = n ∧ h.1 12 16 = s ∧ h.1 12 17 = (ws.length : Int) ∧ h.1 12 15 = 6 - (o : Int)) ∧ WS h ws ∧ (0 ≤ p ∧ p ≤ n ∧ n ≤ 160) ∧ 0 ≤ s ∧ o ≤ 6
/-- of those that wait: how many become orders -/
def nOps : List Int → Nat
  | [] => 0
  | x :: ws => nOps ws + (if x < 11534336 then 1 else 0)
def Tb (p s : Int) (ws : List Int) : Prop := s + nOps ws ≤ p ∧ (ws.length : Int) ≤ p
def FltM (n a b : Int) (h : AH) : Prop := h.1 12 14 = -1000 * a - b ∧ (0 ≤ a ∧ a ≤ 9) ∧ 0 ≤ b ∧ b ≤ n
theorem WS.of {h h' : AH} : ∀ {ws : List Int}, WS h ws → (∀ k, 0 ≤ k → k < (ws.length : Int) → h'.1 66 k = h.1 66 k) → WS h' ws
  | [], _, _ => trivial
  | x :: ws, q, e => ⟨⟨(e _ (by omega) (by show (ws.length : Int) < ((ws.length + 1 : Nat) : Int); omega)).trans q.1.1, q.1.2⟩, q.2.of (fun k a b => e k a (by show k < ((ws.length + 1 : Nat) : Int); omega))⟩
theorem WS.get {h : AH} {x : Int} {r : List Int} : ∀ {l : List Int}, WS h (l ++ x :: r) → h.1 66 (r.length : Int) = x
  | [], q => q.1.1
  | _ :: l, q => WS.get (l := l) q.2
theorem WS.rng {h : AH} : ∀ {ws : List Int}, WS h ws → ∀ k, 0 ≤ k → k < (ws.length : Int) → 0 ≤ h.1 66 k ∧ h.1 66 k < 16777216
  | [], _, k, a, b => by
    have b : k < ((0 : Nat) : Int) := b
    omega
  | x :: ws, q, k, a, b => by
    have b : k < ((ws.length + 1 : Nat) : Int) := b
    by_cases z : k = ws.length
    · rw [z, q.1.1]; exact q.1.2
    · exact q.2.rng k a (by omega)
theorem WS.mem {h : AH} {r : List Int} : ∀ {l : List Int}, WS h (l ++ r) → ∀ k, (r.length : Int) ≤ k → k < ((l ++ r).length : Int) → h.1 66 k ∈ l
  | [], _, k, a, b => by
    have b : k < (r.length : Int) := b
    omega
  | x :: l, q, k, a, b => by
    have b : k < (((l ++ r).length + 1 : Nat) : Int) := b
    by_cases z : k = ((l ++ r).length : Int)
    · have e : h.1 66 ((l ++ r).length : Int) = x := q.1.1
      rw [z, e]; exact List.mem_cons_self ..
    · exact List.mem_cons_of_mem _ (WS.mem (l := l) q.2 k a (by omega))
theorem td14 {x : Int} {k : Int} (h0 : 0 ≤ x) : Int.tdiv x 1048576 = x / 1048576 := Int.tdiv_eq_ediv_of_nonneg h0
section RM1
variable {d : Nat} {f : Int → Int} {n p s : Int} {ws : List Int} {o : Nat} {h : AH} {K : Int → AH → Prop}
theorem mHere (hd : 0 < d) (r : RdM f n p s ws o h) (k : K (nxt f n p) h) : Call d M_M_here [vR 12 (-1)] h K := by
  have b := r.2.2.2.1
  refine c_M_here 0 hd ?_
  rw [r.2.1.1, r.2.1.2.1]
  unfold nxt at k
  refine ⟨fun z => by rw [if_neg (by omega)] at k; exact k, fun z => ⟨ib (by omega), ?_⟩⟩
  obtain ⟨g1, g2⟩ := r.1 p b.1 z
  rw [if_pos z] at k
  rw [g2, iand_sgn g1.1 g1.2]
  exact k
theorem mWrong (hd : 0 < d) (r : RdM f n p s ws o h) {a : Int} (a0 : 0 ≤ a ∧ a ≤ 9) (k : ∀ h', FltM n a p h' → FRm h h' → K 0 h') : Call d M_M_wrongAt [vR 12 (-1), vI a, vI p] h K := by
  have b := r.2.2.2.1
  exact c_M_wrongAt 0 hd ⟨ii (by omega), ii (by omega), k _ ⟨rI_eq, a0, b.1, b.2.1⟩ (Fr.wI (Or.inr (by decide)))⟩
theorem RdM.pos (r : RdM f n p s ws o h) : h.1 12 12 = p := r.2.1.1
theorem RdM.fr (r : RdM f n p s ws o h) {h' : AH} {p' s' : Int} {o' : Nat} (ff : FRm h h') (e66 : ∀ k, 0 ≤ k → k < (ws.length : Int) → h'.1 66 k = h.1 66 k) (e12 : h'.1 12 12 = p') (e16 : h'.1 12 16 = s') (e17 : h'.1 12 17 = (ws.length : Int)) (e15 : h'.1 12 15 = 6 - (o' : Int)) (p0 : 0 ≤ p' ∧ p' ≤ n) (s0 : 0 ≤ s') (ho : o' ≤ 6) : RdM f n p' s' ws o' h' := by
  refine ⟨fun k a b => by rw [ff.i 64]; exact r.1 k a b, ⟨e12, by rw [ff.f 12 13]; exact r.2.1.2.1, e16, e17, e15⟩, r.2.2.1.of e66, ⟨p0.1, p0.2, r.2.2.2.1.2.2⟩, s0, ho⟩
/-- one place on -/
theorem RdM.on (r : RdM f n p s ws o h) (hp : p < n) : RdM f n (p + 1) s ws o (wI h 12 12 (p + 1)) ∧ FRm h (wI h 12 12 (p + 1)) := by
  have b := r.2.2.2.1
  have ff : FRm h (wI h 12 12 (p + 1)) := Fr.wI (Or.inr (by decide))
  exact ⟨r.fr ff (fun k _ _ => rI_ne (by decide)) rI_eq (by rw [rI_nk (by decide)]; exact r.2.1.2.2.1) (by rw [rI_nk (by decide)]; exact r.2.1.2.2.2.1) (by rw [rI_nk (by decide)]; exact r.2.1.2.2.2.2) ⟨by omega, by omega⟩ r.2.2.2.2.1 r.2.2.2.2.2, ff⟩
theorem mNotes (hd : 0 < d) (r : RdM f n p s ws o h) (hs : s < 180) {a b : Int} (a0 : 0 ≤ a ∧ a ≤ 15) (b0 : 0 ≤ b ∧ b < 1048576) (k : ∀ h', RdM f n p (s + 1) ws o h' → h'.1 65 s = 1048576 * a + b → (∀ k, k ≠ s → h'.1 65 k = h.1 65 k) → FRm h h' → K 0 h') : Call d M_M_notes [vR 12 (-1), vI a, vI b] h K := by
  have bd := r.2.2.2
  refine c_M_notes 0 hd ?_
  rw [r.2.1.2.2.1]
  have ff : FRm h (wI (wI h 65 s (1048576 * a + b)) 12 16 (s + 1)) := (Fr.wI (Or.inl (by decide))).trans (Fr.wI (Or.inr (by decide)))
  refine ⟨ii (by omega), ii (by omega), ib (by omega), ii (by omega), k _ (r.fr ff (fun k _ _ => by rw [rI_ne (by decide), rI_ne (by decide)]) ?_ rI_eq ?_ ?_ ⟨bd.1.1, bd.1.2.1⟩ (by omega) bd.2.2) ?_ (fun k hk => ?_) ff⟩
  · rw [rI_nk (by decide), rI_ne (by decide)]; exact r.2.1.1
  · rw [rI_nk (by decide), rI_ne (by decide)]; exact r.2.1.2.2.2.1
  · rw [rI_nk (by decide), rI_ne (by decide)]; exact r.2.1.2.2.2.2
  · rw [rI_ne (by decide)]; exact rI_eq
  · rw [rI_ne (by decide), rI_nk hk]
/-- what waits last goes -/
theorem RdM.pop {x : Int} (r : RdM f n p s (x :: ws) o h) {h' : AH} {o' : Nat} (ff : FRm h h') (e66 : ∀ k, 0 ≤ k → k < (ws.length : Int) → h'.1 66 k = h.1 66 k) {p' s' : Int} (e12 : h'.1 12 12 = p') (e16 : h'.1 12 16 = s') (e17 : h'.1 12 17 = (ws.length : Int)) (e15 : h'.1 12 15 = 6 - (o' : Int)) (p0 : 0 ≤ p' ∧ p' ≤ n) (s0 : 0 ≤ s') (ho : o' ≤ 6) : RdM f n p' s' ws o' h' :=
  ⟨fun k a b => by rw [ff.i 64]; exact r.1 k a b, ⟨e12, by rw [ff.f 12 13]; exact r.2.1.2.1, e16, e17, e15⟩, r.2.2.1.2.of e66, ⟨p0.1, p0.2, r.2.2.2.1.2.2⟩, s0, ho⟩
theorem RdM.push {x : Int} (r : RdM f n p s ws o h) (x0 : 0 ≤ x ∧ x < 16777216) {h' : AH} {o' : Nat} (ff : FRm h h') (e66 : ∀ k, 0 ≤ k → k < (ws.length : Int) → h'.1 66 k = h.1 66 k) (ex : h'.1 66 (ws.length : Int) = x) {p' s' : Int} (e12 : h'.1 12 12 = p') (e16 : h'.1 12 16 = s') (e17 : h'.1 12 17 = (ws.length : Int) + 1) (e15 : h'.1 12 15 = 6 - (o' : Int)) (p0 : 0 ≤ p' ∧ p' ≤ n) (s0 : 0 ≤ s') (ho : o' ≤ 6) : RdM f n p' s' (x :: ws) o' h' :=
  ⟨fun k a b => by rw [ff.i 64]; exact r.1 k a b, ⟨e12, by rw [ff.f 12 13]; exact r.2.1.2.1, e16, by rw [e17]; rfl, e15⟩, ⟨⟨ex, x0⟩, r.2.2.1.of e66⟩, ⟨p0.1, p0.2, r.2.2.2.1.2.2⟩, s0, ho⟩
theorem mTop (hd : 0 < d) (r : RdM f n p s ws o h) (hw : ws.length ≤ 160) (k0 : ws = [] → K (-1) h) (k : ∀ x w', ws = x :: w' → K (x / 1048576) h) : Call d M_M_top [vR 12 (-1)] h K := by
  refine c_M_top 0 hd ?_
  rw [r.2.1.2.2.2.1]
  cases ws with
  | nil => exact ⟨fun z => absurd rfl z, fun _ => k0 rfl⟩
  | cons x w' =>
    have g := r.2.2.1.1
    have e : (((x :: w').length : Nat) : Int) - 1 = w'.length := by show ((w'.length + 1 : Nat) : Int) - 1 = _; omega
    have hw : w'.length + 1 ≤ 160 := hw
    rw [e, g.1, td14 (k := 0) g.2.1]
    exact ⟨fun _ => ⟨ii (by omega), ib (by omega), ii (by omega), k x w' rfl⟩, fun z => absurd z (by show ¬ ((w'.length + 1 : Nat) : Int) = 0; omega)⟩
theorem mIsDigit (hd : 1 < d) (r : RdM f n p s ws o h) (kT : 48 ≤ nxt f n p ∧ nxt f n p ≤ 57 → K 1 h) (kF : ¬ (48 ≤ nxt f n p ∧ nxt f n p ≤ 57) → K 0 h) : Call d M_M_isDigit [vR 12 (-1)] h K :=
  c_M_isDigit 1 hd (mHere (by decide) r ⟨fun z => kF (by omega), fun z => mHere (by decide) r ⟨fun z2 => kF (by omega), fun z2 => kT ⟨z, z2⟩⟩⟩)
theorem mFactOf (hd : 0 < d) {x : Int} (k : K (pName x) h) : Call d M_M_factOf [vI x] h K := by
  refine c_M_factOf 0 hd ?_
  unfold pName nameAt at k
  refine ⟨fun z => ?_, fun z => ?_, fun z => ?_, fun z => ?_, fun z => ?_, fun z => ?_, fun z => ?_, fun z => ?_, fun z => ?_, fun z => ?_, fun z => ?_, fun z => ?_, fun z => ?_, fun z => ?_, fun z => ?_, fun z => ?_, fun z => ?_⟩
  · rw [z] at k; exact k
  · rw [z] at k; exact k
  · rw [z] at k; exact k
  · rw [z] at k; exact k
  · rw [z] at k; exact k
  · rw [z] at k; exact k
  · rw [z] at k; exact k
  · rw [z] at k; exact k
  · rw [z] at k; exact k
  · rw [z] at k; exact k
  · rw [z] at k; exact k
  · rw [z] at k; exact k
  · rw [z] at k; exact k
  · rw [z] at k; exact k
  · rw [z] at k; exact k
  · rw [z] at k; exact k
  · by_cases y : 97 ≤ x ∧ x ≤ 122
    · rw [if_pos y, if_neg (by omega), if_neg (by omega), if_neg (by omega), if_neg (by omega), if_neg (by omega), if_neg (by omega), if_neg (by omega), if_neg (by omega), if_neg (by omega)] at k
      exact k
    · rw [if_neg y] at k; exact k
theorem mOpens (hd : 0 < d) (r : RdM f n p s ws o h) (hp : p < n) (hw : ws.length ≤ 160) {a : Int} (a0 : 0 ≤ a ∧ a ≤ 15) (hd2 : 1 < d) (kT : ∀ h' o', o = o' + 1 → RdM f n (p + 1) s (1048576 * a :: ws) o' h' → (∀ k, h'.1 65 k = h.1 65 k) → FRm h h' → K 1 h') (kF : ∀ h', o = 0 → FltM n 5 p h' → FRm h h' → K 0 h') : Call d M_M_opens [vR 12 (-1), vI a] h K := by
  have b := r.2.2.2
  refine c_M_opens 1 hd2 ?_
  rw [r.2.1.2.2.2.2, r.2.1.2.2.2.1, r.2.1.1]
  refine ⟨fun z => ?_, fun z => mWrong (by decide) r (by decide) (fun h' fl ff => ⟨Or.inl rfl, kF h' (by omega) fl ff⟩)⟩
  obtain ⟨o', rfl⟩ : ∃ o', o = o' + 1 := ⟨o - 1, by omega⟩
  have ff : FRm h (wI (wI (wI (wI h 12 15 (6 - ((o' + 1 : Nat) : Int) + 1)) 66 ws.length (1048576 * a)) 12 17 (ws.length + 1)) 12 12 (p + 1)) := (((Fr.wI (Or.inr (by decide))).trans (Fr.wI (Or.inl (by decide)))).trans (Fr.wI (Or.inr (by decide)))).trans (Fr.wI (Or.inr (by decide)))
  refine ⟨ii (by omega), ii (by omega), ib (by omega), ii (by omega), ii (by omega), kT _ o' rfl (r.push (by omega) ff (fun k k0 k1 => ?_) ?_ rI_eq ?_ ?_ ?_ ⟨by omega, by omega⟩ b.2.1 (by omega)) (fun k => ?_) ff⟩
  · rw [rI_ne (by decide), rI_ne (by decide), rI_nk (by omega), rI_ne (by decide)]
  · rw [rI_ne (by decide), rI_ne (by decide)]; exact rI_eq
  · rw [rI_nk (by decide), rI_nk (by decide), rI_ne (by decide), rI_nk (by decide)]; exact r.2.1.2.2.1
  · rw [rI_nk (by decide)]; exact rI_eq
  · rw [rI_nk (by decide), rI_nk (by decide), rI_ne (by decide), rI_eq]; omega
  · rw [rI_ne (by decide), rI_ne (by decide), rI_ne (by decide), rI_ne (by decide)]
end RM1

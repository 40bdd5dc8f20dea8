theorem ordAt_join {h : AH} {o : Nat} {off : Int} {l l' : List (Int × Int)} (q : ordAt h o off l) (q' : ordAt h o (off + 2 * l.length) l') : ordAt h o off (l ++ l') := fun i v hv => by
  by_cases hi : i < l.length
  · rw [List.getElem?_append_left hi] at hv
    exact q i v hv
  · rw [List.getElem?_append_right (by omega)] at hv
    have := q' (i - l.length) v hv
    rw [show off + 2 * (l.length : Int) + 2 * ((i - l.length : Nat) : Int) = off + 2 * i by omega] at this
    exact this
/-! the class reads a law: sums -/
def RdC (f : Int → Int) (n p s : Int) (h : AH) : Prop := TakC n f h ∧ h.1 4 2 = n ∧ h.1 4 3 = p ∧ h.1 5 5 = s ∧ (0 ≤ p ∧ p ≤ n ∧ n ≤ 160) ∧ 0 ≤ s
def Flt (n a b : Int) (h : AH) : Prop := (h.1 4 4 = a ∧ h.1 4 3 = b) ∧ (0 ≤ a ∧ a ≤ 9) ∧ 0 ≤ b ∧ b ≤ n
abbrev FRd (h h' : AH) : Prop := Fr [25] [((4 : Nat), (3 : Int)), (4, 4), (5, 5)] h h'
theorem nxt_lt {f : Int → Int} {n p c : Int} (h : nxt f n p = c) (c0 : 0 ≤ c) : p < n := by
  unfold nxt at h
  by_cases z : p < n
  · exact z
  · rw [if_neg z] at h; omega
section RD1
variable {d : Nat} {f : Int → Int} {n p s : Int} {h : AH} {K : Int → AH → Prop}
theorem RdC.at_ (r : RdC f n p s h) {h' : AH} {p' s' : Int} (ff : FRd h h') (e3 : h'.1 4 3 = p') (e5 : h'.1 5 5 = s') (p0 : 0 ≤ p' ∧ p' ≤ n) (s0 : 0 ≤ s') : RdC f n p' s' h' := ⟨r.1.fr ff, by rw [ff.f 4 2]; exact r.2.1, e3, e5, ⟨p0.1, p0.2, r.2.2.2.2.1.2.2⟩, s0⟩
theorem rNext (hd : 1 < d) (r : RdC f n p s h) (k : K (nxt f n p) h) : Call d M_Reader_next [vR 4 (-1)] h K := by
  refine c_Reader_next 1 hd ?_
  rw [r.2.1, r.2.2.1]
  unfold nxt at k
  refine ⟨fun c => by rw [if_neg (by omega)] at k; exact k, fun c => tByte (by decide) r.1 (fun _ _ => by rw [if_pos c] at k; exact k) (fun z => absurd ⟨r.2.2.2.2.1.1, c⟩ z)⟩
theorem rFails (hd : 0 < d) (r : RdC f n p s h) {a : Int} (a0 : 0 ≤ a ∧ a ≤ 9) (k : ∀ h', Flt n a p h' → FRd h h' → K 0 h') : Call d M_Reader_fails [vR 4 (-1), vI a] h K :=
  c_Reader_fails 0 hd (k _ ⟨⟨rI_eq, by rw [rI_nk (by decide)]; exact r.2.2.1⟩, a0, r.2.2.2.2.1.1, r.2.2.2.2.1.2.1⟩ (Fr.wI (Or.inr (by decide))))
theorem rDigit (hd : 0 < d) {x : Int} (kT : 48 ≤ x ∧ x ≤ 57 → K 1 h) (kF : ¬ (48 ≤ x ∧ x ≤ 57) → K 0 h) : Call d M_Reader_isDigit [vI x] h K :=
  c_Reader_isDigit 0 hd ⟨fun c => kF (by omega), fun c => ⟨fun c2 => kF (by omega), fun c2 => kT ⟨c, c2⟩⟩⟩
theorem rPut (hd : 0 < d) (r : RdC f n p s h) (s1 : s + 2 ≤ 400) {o w : Int} (k : ∀ h', RdC f n p (s + 2) h' → h'.1 25 s = o → h'.1 25 (s + 1) = w → (∀ k, k ≠ s → k ≠ s + 1 → h'.1 25 k = h.1 25 k) → FRd h h' → K s h') : Call d M_LawCode_put [vR 5 (-1), vI o, vI w] h K := by
  have s0 := r.2.2.2.2.2
  refine c_LawCode_put 0 hd ?_
  rw [r.2.2.2.1]
  have ff : FRd h (wI (wI (wI h 25 s o) 25 (s + 1) w) 5 5 (s + 2)) := ((Fr.wI (Or.inl (by decide))).trans (Fr.wI (Or.inl (by decide)))).trans (Fr.wI (Or.inr (by decide)))
  refine ⟨ii (by omega), fun _ => ⟨ib (by omega), ii (by omega), ib (by omega), k _ (r.at_ ff (by rw [rI_ne (by decide), rI_ne (by decide), rI_ne (by decide)]; exact r.2.2.1) rI_eq ⟨r.2.2.2.2.1.1, r.2.2.2.2.1.2.1⟩ (by omega)) ?_ ?_ (fun k k1 k2 => ?_) ff⟩, fun z => by omega⟩
  · rw [rI_ne (by decide), rI_nk (by omega)]; exact rI_eq
  · rw [rI_ne (by decide)]; exact rI_eq
  · rw [rI_ne (by decide), rI_nk k2, rI_nk k1]
/-- one place on -/
theorem RdC.on (r : RdC f n p s h) (hp : p < n) : RdC f n (p + 1) s (wI h 4 3 (p + 1)) ∧ FRd h (wI h 4 3 (p + 1)) := by
  have b := r.2.2.2.2.1
  have ff : FRd h (wI h 4 3 (p + 1)) := Fr.wI (Or.inr (by decide))
  exact ⟨r.at_ ff rI_eq (by rw [rI_ne (by decide)]; exact r.2.2.2.1) ⟨by omega, by omega⟩ r.2.2.2.2.2, ff⟩
theorem rOpens (hd : 1 < d) (r : RdC f n p s h) (hp : p < n) {o : Nat} (ho : o ≤ 6) (kT : ∀ h', o ≠ 0 → RdC f n (p + 1) s h' → (∀ k, h'.1 25 k = h.1 25 k) → FRd h h' → K 1 h') (kF : ∀ h', o = 0 → Flt n 5 p h' → FRd h h' → K 0 h') : Call d M_Reader_opens [vR 4 (-1), vI (6 - (o : Int))] h K := by
  have b := r.2.2.2.2.1
  refine c_Reader_opens 1 hd ⟨fun z => ?_, fun z => rFails (by decide) r (by decide) (fun h' fl ff => ⟨Or.inl rfl, kF h' (by omega) fl ff⟩)⟩
  rw [r.2.2.1]
  obtain ⟨r1, f1⟩ := r.on hp
  exact ⟨ii (by omega), kT _ (by omega) r1 (fun k => rI_ne (by decide)) f1⟩
theorem rPasses (hd : 2 < d) (r : RdC f n p s h) {x : Int} (x0 : 0 ≤ x) (kT : ∀ h', nxt f n p = x → RdC f n (p + 1) s h' → (∀ k, h'.1 25 k = h.1 25 k) → FRd h h' → K 1 h') (kF : ∀ h', nxt f n p ≠ x → Flt n 1 p h' → FRd h h' → K 0 h') : Call d M_Reader_passes [vR 4 (-1), vI x] h K := by
  have b := r.2.2.2.2.1
  refine c_Reader_passes 2 hd (rNext (by decide) r ⟨fun e => ?_, fun e => rFails (by decide) r (by decide) (fun h' fl ff => ⟨Or.inl rfl, kF h' e fl ff⟩)⟩)
  rw [r.2.2.1]
  obtain ⟨r1, f1⟩ := r.on (nxt_lt e x0)
  exact ⟨ii (by omega), kT _ e r1 (fun k => rI_ne (by decide)) f1⟩
/-- what a reading of a sum and the like comes to -/
def CtE (f : Int → Int) (n p s : Int) (h : AH) (K : Int → AH → Prop) (R : Rs Jvm.Term) (B : Nat) : Prop := (∀ a b h', R = .inl (a, b) → Flt n a b h' → FRd h h' → K 0 h') ∧ (∀ E p' h', R = .inr (E, p') → p < p' → RdC f n p' (s + 2 * (cE E).length) h' → ordAt h' 25 s (cE E) → (∀ k, k < s → h'.1 25 k = h.1 25 k) → WfE E → hE E ≤ B → ((cE E).length : Int) ≤ p' - p → FRd h h' → K 1 h')
theorem rdN_b : ∀ (k : Nat) (p a : Int), 0 ≤ p → p ≤ n → 0 ≤ a → a < 10 ^ (5 - k) → k ≤ 5 → (p ≤ (rdN f n k p a).2 ∧ (rdN f n k p a).2 ≤ n) ∧ 0 ≤ (rdN f n k p a).1 ∧ (rdN f n k p a).1 ≤ 99999
  | 0, p, a, p0, p1, a0, a1, _ => by
    have a1 : a < 100000 := a1
    show (p ≤ p ∧ p ≤ n) ∧ 0 ≤ a ∧ a ≤ 99999
    omega
  | k + 1, p, a, p0, p1, a0, a1, hk => by
    have hb : (10 : Int) ^ (5 - (k + 1)) ≤ 10 ^ 4 ∧ (10 : Int) ^ (5 - k) = 10 * 10 ^ (5 - (k + 1)) := by
      have : k = 0 ∨ k = 1 ∨ k = 2 ∨ k = 3 ∨ k = 4 := by omega
      rcases this with rfl | rfl | rfl | rfl | rfl <;> decide
    have h4 : (10 : Int) ^ 4 = 10000 := rfl
    unfold rdN
    by_cases z : 48 ≤ nxt f n p ∧ nxt f n p ≤ 57
    · rw [if_pos z]
      have hp := nxt_lt (f := f) (n := n) (p := p) rfl (by omega)
      have := rdN_b k (p + 1) (10 * a + nxt f n p - 48) (by omega) (by omega) (by omega) (by omega) (by omega)
      omega
    · rw [if_neg z]
      show (p ≤ p ∧ p ≤ n) ∧ 0 ≤ a ∧ a ≤ 99999
      omega
theorem rNumber (hd : 2 < d) (r : RdC f n p s h) (hs : s ≤ 2 * p) (h0 : 48 ≤ nxt f n p ∧ nxt f n p ≤ 57) (k : CtE f n p s h K (pNum f n p) 1) : Call d M_Reader_readNumber [vR 4 (-1)] h K := by
  have b := r.2.2.2.2.1
  refine c_Reader_readNumber 2 hd ?_
  have key : ∀ (j : Nat) (q a : Int) (hh : AH), j ≤ 5 → p ≤ q → (j < 5 → p < q) → q ≤ n → 0 ≤ a → a < 10 ^ (5 - j) → RdC f n q s hh → (∀ k, hh.1 25 k = h.1 25 k) → FRd h hh → rdN f n 5 p 0 = rdN f n j q a → A_Reader_readNumber_4 2 K a (5 - (j : Int)) hh := by
    intro j
    induction j with
    | zero =>
      intro q a hh _ q0 qp q1 a0 a1 rr e25 ff hr
      refine s_Reader_readNumber_4 ⟨fun _ => s_Reader_readNumber_51 ?_, fun z => by omega⟩
      have hr : rdN f n 5 p 0 = (a, q) := hr
      have a1 : a < 100000 := a1
      have qp := qp (by decide)
      obtain ⟨k1, k2⟩ := k
      unfold pNum at k1 k2
      rw [hr] at k1 k2
      refine rNext (by decide) rr (rDigit (by decide) (fun z => br1 (rFails (by decide) rr (by decide) (fun h' fl f' => ⟨Or.inl rfl, k1 2 q h' (if_pos z) fl (ff.trans f')⟩))) (fun z => br0 ?_))
      refine rPut (by decide) rr (by omega) (fun h' r' c1 c2 c3 f' => k2 (.int (Int32.ofInt a)) q h' (if_neg z) qp r' ?_ (fun k hk => by rw [c3 k (by omega) (by omega), e25]) ?_ (Nat.le_refl 1) ?_ (ff.trans f'))
      · intro i v hv
        match i, hv with
        | 0, hv =>
          cases hv
          rw [show s + 2 * ((0 : Nat) : Int) = s by omega]
          exact ⟨c1, by rw [c2]; exact (okI ⟨by omega, by omega⟩).symm⟩
      · show 0 ≤ (Int32.ofInt a).toInt ∧ (Int32.ofInt a).toInt ≤ 99999
        rw [okI ⟨by omega, by omega⟩]; omega
      · show (1 : Int) ≤ q - p
        omega
    | succ j ih =>
      intro q a hh hj q0 qp q1 a0 a1 rr e25 ff hr
      have hb : (10 : Int) ^ (5 - (j + 1)) ≤ 10 ^ 4 ∧ (10 : Int) ^ (5 - j) = 10 * 10 ^ (5 - (j + 1)) := by
        have : j = 0 ∨ j = 1 ∨ j = 2 ∨ j = 3 ∨ j = 4 := by omega
        rcases this with rfl | rfl | rfl | rfl | rfl <;> decide
      have h4 : (10 : Int) ^ 4 = 10000 := rfl
      refine s_Reader_readNumber_4 ⟨fun z => by omega, fun _ => ?_⟩
      have hr : rdN f n 5 p 0 = (if 48 ≤ nxt f n q ∧ nxt f n q ≤ 57 then rdN f n j (q + 1) (10 * a + nxt f n q - 48) else (a, q)) := hr
      refine rNext (by decide) rr (rDigit (by decide) (fun z => br1' ⟨ii (by omega), rNext (by decide) rr ⟨ii (by omega), ii (by omega), ?_⟩⟩) (fun z => br0' ?_))
      · rw [rr.2.2.1]
        have hq := nxt_lt (f := f) (n := n) (p := q) rfl (by omega)
        obtain ⟨r1, f1⟩ := rr.on hq
        refine ⟨ii (by omega), ii (by omega), ?_⟩
        rw [if_pos z] at hr
        have := ih (q + 1) (10 * a + nxt f n q - 48) _ (by omega) (by omega) (fun _ => by omega) (by omega) (by omega) (by omega) r1 (fun k => by rw [rI_ne (by decide)]; exact e25 k) (ff.trans f1) hr
        rw [show 5 - (j : Int) = 5 - ((j + 1 : Nat) : Int) + 1 by omega] at this
        exact this
      · rw [if_neg z] at hr
        have hpq : p < q := by
          by_cases y : q = p
          · rw [y] at z; exact absurd h0 z
          · omega
        obtain ⟨k1, k2⟩ := k
        unfold pNum at k1 k2
        rw [hr] at k1 k2
        refine s_Reader_readNumber_51 (rNext (by decide) rr (rDigit (by decide) (fun y => absurd y z) (fun _ => br0 ?_)))
        refine rPut (by decide) rr (by omega) (fun h' r' c1 c2 c3 f' => k2 (.int (Int32.ofInt a)) q h' (if_neg z) hpq r' ?_ (fun k hk => by rw [c3 k (by omega) (by omega), e25]) ?_ (Nat.le_refl 1) ?_ (ff.trans f'))
        · intro i v hv
          match i, hv with
          | 0, hv =>
            cases hv
            rw [show s + 2 * ((0 : Nat) : Int) = s by omega]
            exact ⟨c1, by rw [c2]; exact (okI ⟨by omega, by omega⟩).symm⟩
        · show 0 ≤ (Int32.ofInt a).toInt ∧ (Int32.ofInt a).toInt ≤ 99999
          rw [okI ⟨by omega, by omega⟩]; omega
        · show (1 : Int) ≤ q - p
          omega
  exact key 5 p 0 h (Nat.le_refl 5) (Int.le_refl _) (fun z => by omega) b.2.1 (Int.le_refl 0) (by decide) r (fun _ => rfl) Fr.refl rfl
theorem nameAt_b {x : Int} : -1 ≤ nameAt x ∧ nameAt x < 9 := by
  unfold nameAt
  repeat (split; omega)
  omega
/-- a factor; sumK: how a sum inside is read -/
theorem rFactor {o : Nat} {sum : Int → Rs Jvm.Term} {B : Nat} (hd : 3 * o + 4 < d) (ho : o ≤ 6) (hB : 1 ≤ B) (r : RdC f n p s h) (hs : s ≤ 2 * p) (rs : o ≠ 0 → ∀ (p s : Int) (h : AH) (K : Int → AH → Prop), RdC f n p s h → s ≤ 2 * p → CtE f n p s h K (sum p) B → Call (3 * o + 4) M_Reader_readSum [vR 4 (-1), vI (6 - (o : Int) + 1)] h K) (k : CtE f n p s h K (pFac f n o sum p) B) : Call d M_Reader_readFactor [vR 4 (-1), vI (6 - (o : Int))] h K := by
  have b := r.2.2.2.2.1
  obtain ⟨k1, k2⟩ := k
  unfold pFac at k1 k2
  have name : ∀ x, x = pName (nxt f n p) → nxt f n p ≠ 91 → ¬ (48 ≤ nxt f n p ∧ nxt f n p ≤ 57) → A_Reader_readFactor_79 (3 * o + 4) K x h := fun x hx h1 h2 => by
    rw [if_neg h1, if_neg h2] at k1 k2
    rw [← hx] at k1 k2
    have xb : x < 9 := by
      rw [hx]
      unfold pName
      split
      · exact nameAt_b.2
      · decide
    refine s_Reader_readFactor_79 ⟨fun z => ?_, fun z => rFails (by omega) r (by decide) (fun h' fl f' => ⟨Or.inl rfl, k1 1 p h' (if_pos z) fl f'⟩)⟩
    rw [if_neg (show ¬ x < 0 by omega)] at k2
    have hp : p < n := by
      apply Classical.byContradiction
      intro hn
      have e : nxt f n p = -1 := if_neg hn
      rw [e] at hx
      have : pName (-1) = -1 := rfl
      omega
    rw [r.2.2.1]
    obtain ⟨r1, f1⟩ := r.on hp
    refine ⟨ii (by omega), rPut (by omega) r1 (by omega) (fun h' r' c1 c2 c3 f' => k2 _ _ h' rfl (by omega) r' ?_ (fun k hk => by rw [c3 k (by omega) (by omega), rI_ne (by decide)]) ?_ ?_ ?_ (f1.trans f'))⟩
    · intro i v hv
      match i, hv with
      | 0, hv =>
        cases hv
        rw [show s + 2 * ((0 : Nat) : Int) = s by omega]
        exact ⟨c1, by rw [c2]; show x = ((x.toNat : Nat) : Int); omega⟩
    · show x.toNat < 9
      omega
    · show 1 ≤ B
      exact hB
    · show (1 : Int) ≤ p + 1 - p
      omega
  refine c_Reader_readFactor (3 * o + 4) hd (rNext (by omega) r ⟨fun hne => rDigit (by omega) (fun hdg => br1 ?_) (fun hnd => br0 ⟨fun z => ?_, fun z => ⟨fun z2 => ⟨⟨⟨z, z2⟩, by omega⟩, ?_⟩, fun z2 => ?_⟩⟩), fun he => ?_⟩)
  · rw [if_neg hne, if_pos hdg] at k1 k2
    exact rNumber (by omega) r hs hdg ⟨fun a b h' e fl f' => ⟨Or.inl rfl, k1 a b h' e fl f'⟩, fun E p' h' e hp r' oc un w hh hl f' => ⟨Or.inr rfl, k2 E p' h' e hp r' oc un w (by omega) hl f'⟩⟩
  · exact s_Reader_readFactor_68 (name (-1) (by unfold pName; rw [if_neg (by omega)]) hne hnd)
  · exact name _ (by unfold pName; rw [if_pos ⟨z, z2⟩]) hne hnd
  · exact s_Reader_readFactor_68 (name (-1) (by unfold pName; rw [if_neg (by omega)]) hne hnd)
  · rw [if_pos he] at k1 k2
    have hp := nxt_lt he (by decide)
    refine rOpens (by omega) r hp ho (fun h1 ho0 r1 e1 f1 => br1 ⟨ii (by omega), ?_⟩) (fun h1 ho0 fl f1 => br0 (k1 5 p h1 (by rw [if_pos ho0]) fl f1))
    rw [if_neg ho0] at k1 k2
    refine rs ho0 (p + 1) s h1 _ r1 (by omega) ⟨fun a b h' e fl f' => br0 (k1 a b h' (by rw [e]) fl (f1.trans f')), fun E p' h' e hp' r' oc un w hh hl f' => br1 ?_⟩
    refine rPasses (by omega) r' (by decide) (fun h2 e2 r2 u2 f2 => br1 (k2 E (p' + 1) h2 (by rw [e]; show (if nxt f n p' = 93 then _ else _) = _; rw [if_pos e2]) (by omega) r2 (ordAt_fr oc u2) (fun k hk => by rw [u2, un k hk, e1]) w hh (by omega) ((f1.trans f').trans f2))) (fun h2 e2 fl f2 => br0 (k1 1 p' h2 (by rw [e]; show (if nxt f n p' = 93 then _ else _) = _; rw [if_neg e2]) fl ((f1.trans f').trans f2)))
theorem cE_opT {x : Int} {a b : Jvm.Term} (hx : x ∈ [43, 45, 42, 47, 37]) : cE (opT x a b) = cE a ++ (cE b ++ [(x, 0)]) ∧ hE (opT x a b) = max (hE a) (hE b + 1) ∧ (WfE (opT x a b) ↔ WfE a ∧ WfE b) := by
  simp only [List.mem_cons, List.not_mem_nil, or_false] at hx
  unfold opT
  rcases hx with rfl | rfl | rfl | rfl | rfl
  · exact ⟨rfl, rfl, Iff.rfl⟩
  · exact ⟨rfl, rfl, Iff.rfl⟩
  · exact ⟨rfl, rfl, Iff.rfl⟩
  · exact ⟨rfl, rfl, Iff.rfl⟩
  · exact ⟨rfl, rfl, Iff.rfl⟩
/-- readProduct: operands by readFactor, the signs [42, 47, 37] between -/
theorem rProduct {one : Int → Rs Jvm.Term} {B D : Nat} {q1 : Int} (hd : D < d) (hD : 2 ≤ D) (r : RdC f n p s h) (hs : s ≤ 2 * p) (ro : ∀ (p s : Int) (h : AH) (K : Int → AH → Prop), RdC f n p s h → s ≤ 2 * p → CtE f n p s h K (one p) B → Call D M_Reader_readFactor [vR 4 (-1), vI q1] h K) (k : CtE f n p s h K (pChain f n [42, 47, 37] one p) (B + 1)) : Call d M_Reader_readProduct [vR 4 (-1), vI q1] h K := by
  have b := r.2.2.2.2.1
  obtain ⟨k1, k2⟩ := k
  unfold pChain at k1 k2
  refine c_Reader_readProduct D hd ?_
  have loop : ∀ (j : Nat) (a : Jvm.Term) (q v3 : Int) (hh : AH), (j : Int) = 161 - v3 → 0 ≤ v3 → v3 ≤ q → p < q → RdC f n q (s + 2 * (cE a).length) hh → ordAt hh 25 s (cE a) → (∀ k, k < s → hh.1 25 k = h.1 25 k) → WfE a → hE a ≤ B + 1 → ((cE a).length : Int) ≤ q - p → FRd h hh → (∀ a' b' h', pMore f n [42, 47, 37] one j a q = .inl (a', b') → Flt n a' b' h' → FRd h h' → K 0 h') → (∀ E p' h', pMore f n [42, 47, 37] one j a q = .inr (E, p') → p < p' → RdC f n p' (s + 2 * (cE E).length) h' → ordAt h' 25 s (cE E) → (∀ k, k < s → h'.1 25 k = h.1 25 k) → WfE E → hE E ≤ B + 1 → ((cE E).length : Int) ≤ p' - p → FRd h h' → K 1 h') → A_Reader_readProduct_35 D K q1 v3 hh := by
    intro j
    induction j with
    | zero =>
      intro a q v3 hh hj v0 v1 pq rr
      have := rr.2.2.2.2.1
      omega
    | succ j ih =>
      intro a q v3 hh hj v0 v1 pq rr oc un w hb hl ff m1 m2
      have bq := rr.2.2.2.2.1
      have step : ∀ x, nxt f n q = x → x ∈ [42, 47, 37] → 0 ≤ x → A_Reader_readProduct_60 D K q1 x v3 hh := fun x hx hm x0 => by
        have hq := nxt_lt hx x0
        refine s_Reader_readProduct_60 ?_
        rw [rr.2.2.1]
        obtain ⟨r1, f1⟩ := rr.on hq
        have hxz : x ≠ 0 := fun z => by
          rw [z] at hm
          revert hm
          decide
        have m1' : ∀ a' b' h', (match one (q + 1) with
          | .inl e => (.inl e : Rs Jvm.Term)
          | .inr q' => pMore f n [42, 47, 37] one j (opT (nxt f n q) a q'.1) q'.2) = .inl (a', b') → Flt n a' b' h' → FRd h h' → K 0 h' := fun a' b' h' e => m1 a' b' h' (by
          show (if nxt f n q ∈ [42, 47, 37] then _ else _) = _
          rw [if_pos (by rw [hx]; exact hm)]
          exact e)
        have m2' : ∀ E p' h', (match one (q + 1) with
          | .inl e => (.inl e : Rs Jvm.Term)
          | .inr q' => pMore f n [42, 47, 37] one j (opT (nxt f n q) a q'.1) q'.2) = .inr (E, p') → p < p' → RdC f n p' (s + 2 * (cE E).length) h' → ordAt h' 25 s (cE E) → (∀ k, k < s → h'.1 25 k = h.1 25 k) → WfE E → hE E ≤ B + 1 → ((cE E).length : Int) ≤ p' - p → FRd h h' → K 1 h' := fun E p' h' e => m2 E p' h' (by
          show (if nxt f n q ∈ [42, 47, 37] then _ else _) = _
          rw [if_pos (by rw [hx]; exact hm)]
          exact e)
        refine ⟨ii (by omega), ii (by omega), s_Reader_readProduct_4 ⟨fun z => by omega, fun _ => ?_⟩⟩
        refine ro (q + 1) _ _ _ r1 (by omega) ⟨fun a' b' h' e fl f' => br0' (m1' a' b' h' (by rw [e]) fl ((ff.trans f1).trans f')), fun E p' h' e hp' r' oc' un' w' hb' hl' f' => br1' ⟨fun z => absurd z hxz, fun _ => ?_⟩⟩
        have bp := r'.2.2.2.2.1
        refine rPut (by omega) r' (by omega) (fun h2 r2 c1 c2 c3 f2 => ?_)
        have ct := cE_opT (x := x) (a := a) (b := E) (by revert hm; simp only [List.mem_cons, List.not_mem_nil, or_false]; omega)
        have ln : ((cE (opT x a E)).length : Int) = (cE a).length + (cE E).length + 1 := by
          rw [ct.1]
          simp only [List.length_append, List.length_cons, List.length_nil]
          omega
        refine ih (opT x a E) p' (v3 + 1) h2 (by omega) (by omega) (by omega) (by omega) ?_ ?_ (fun k hk => ?_) (ct.2.2.mpr ⟨w, w'⟩) (by rw [ct.2.1]; omega) (by omega) (((ff.trans f1).trans f').trans f2) (fun a' b' h3 e3 => m1' a' b' h3 (by rw [e, hx]; exact e3)) (fun E3 p3 h3 e3 => m2' E3 p3 h3 (by rw [e, hx]; exact e3))
        · rw [ln, show s + 2 * (((cE a).length : Int) + (cE E).length + 1) = s + 2 * ((cE a).length : Int) + 2 * ((cE E).length : Int) + 2 by omega]
          exact r2
        · rw [ct.1]
          have o1 : ordAt h2 25 s (cE a) := fun i v hv => by
            have hi := (List.getElem?_eq_some_iff.mp hv).1
            rw [c3 _ (by omega) (by omega), c3 _ (by omega) (by omega), un' _ (by omega), un' _ (by omega), rI_ne (by decide), rI_ne (by decide)]
            exact oc i v hv
          have o2 : ordAt h2 25 (s + 2 * ((cE a).length : Int)) (cE E) := fun i v hv => by
            have hi := (List.getElem?_eq_some_iff.mp hv).1
            rw [c3 _ (by omega) (by omega), c3 _ (by omega) (by omega)]
            exact oc' i v hv
          refine ordAt_join o1 (ordAt_join o2 (fun i v hv => ?_))
          match i, hv with
          | 0, hv =>
            cases hv
            rw [show s + 2 * ((cE a).length : Int) + 2 * ((cE E).length : Int) + 2 * ((0 : Nat) : Int) = s + 2 * ((cE a).length : Int) + 2 * ((cE E).length : Int) by omega]
            exact ⟨c1, c2⟩
        · rw [c3 k (by omega) (by omega), un' k (by omega), rI_ne (by decide)]
          exact un k hk
      have stop : nxt f n q ∉ [42, 47, 37] → K 1 hh := fun hn => m2 a q hh (by
        show (if nxt f n q ∈ [42, 47, 37] then _ else _) = _
        rw [if_neg hn]) pq rr oc un w hb hl ff
      refine s_Reader_readProduct_35 (rNext (by omega) rr ?_)
      refine ⟨fun z => by rw [z]; exact step 42 z (by decide) (by decide), fun z1 => ⟨fun z => by rw [z]; exact step 47 z (by decide) (by decide), fun z2 => ⟨fun z => by rw [z]; exact step 37 z (by decide) (by decide), fun z3 => stop (by
        simp only [List.mem_cons, List.not_mem_nil, or_false]
        omega)⟩⟩⟩
  refine s_Reader_readProduct_4 ⟨fun z => absurd z (by decide), fun _ => ro p s h _ r hs ⟨fun a b h' e fl f' => br0' (k1 a b h' (by rw [e]) fl f'), fun E p' h' e hp' r' oc un w hb hl f' => br1' ⟨fun _ => ?_, fun z => absurd rfl z⟩⟩⟩
  exact loop 161 E p' 0 h' (by decide) (Int.le_refl 0) (by omega) hp' r' oc un w (by omega) hl f' (fun a' b' h2 e2 => k1 a' b' h2 (by rw [e]; exact e2)) (fun E2 p2 h2 e2 => k2 E2 p2 h2 (by rw [e]; exact e2))
/-- readSum: operands by readProduct, the signs [43, 45] between -/
theorem rSumC {one : Int → Rs Jvm.Term} {B D : Nat} {q1 : Int} (hd : D < d) (hD : 2 ≤ D) (r : RdC f n p s h) (hs : s ≤ 2 * p) (ro : ∀ (p s : Int) (h : AH) (K : Int → AH → Prop), RdC f n p s h → s ≤ 2 * p → CtE f n p s h K (one p) B → Call D M_Reader_readProduct [vR 4 (-1), vI q1] h K) (k : CtE f n p s h K (pChain f n [43, 45] one p) (B + 1)) : Call d M_Reader_readSum [vR 4 (-1), vI q1] h K := by
  have b := r.2.2.2.2.1
  obtain ⟨k1, k2⟩ := k
  unfold pChain at k1 k2
  refine c_Reader_readSum D hd ?_
  have loop : ∀ (j : Nat) (a : Jvm.Term) (q v3 : Int) (hh : AH), (j : Int) = 161 - v3 → 0 ≤ v3 → v3 ≤ q → p < q → RdC f n q (s + 2 * (cE a).length) hh → ordAt hh 25 s (cE a) → (∀ k, k < s → hh.1 25 k = h.1 25 k) → WfE a → hE a ≤ B + 1 → ((cE a).length : Int) ≤ q - p → FRd h hh → (∀ a' b' h', pMore f n [43, 45] one j a q = .inl (a', b') → Flt n a' b' h' → FRd h h' → K 0 h') → (∀ E p' h', pMore f n [43, 45] one j a q = .inr (E, p') → p < p' → RdC f n p' (s + 2 * (cE E).length) h' → ordAt h' 25 s (cE E) → (∀ k, k < s → h'.1 25 k = h.1 25 k) → WfE E → hE E ≤ B + 1 → ((cE E).length : Int) ≤ p' - p → FRd h h' → K 1 h') → A_Reader_readSum_35 D K q1 v3 hh := by
    intro j
    induction j with
    | zero =>
      intro a q v3 hh hj v0 v1 pq rr
      have := rr.2.2.2.2.1
      omega
    | succ j ih =>
      intro a q v3 hh hj v0 v1 pq rr oc un w hb hl ff m1 m2
      have bq := rr.2.2.2.2.1
      have step : ∀ x, nxt f n q = x → x ∈ [43, 45] → 0 ≤ x → A_Reader_readSum_54 D K q1 x v3 hh := fun x hx hm x0 => by
        have hq := nxt_lt hx x0
        refine s_Reader_readSum_54 ?_
        rw [rr.2.2.1]
        obtain ⟨r1, f1⟩ := rr.on hq
        have hxz : x ≠ 0 := fun z => by
          rw [z] at hm
          revert hm
          decide
        have m1' : ∀ a' b' h', (match one (q + 1) with
          | .inl e => (.inl e : Rs Jvm.Term)
          | .inr q' => pMore f n [43, 45] one j (opT (nxt f n q) a q'.1) q'.2) = .inl (a', b') → Flt n a' b' h' → FRd h h' → K 0 h' := fun a' b' h' e => m1 a' b' h' (by
          show (if nxt f n q ∈ [43, 45] then _ else _) = _
          rw [if_pos (by rw [hx]; exact hm)]
          exact e)
        have m2' : ∀ E p' h', (match one (q + 1) with
          | .inl e => (.inl e : Rs Jvm.Term)
          | .inr q' => pMore f n [43, 45] one j (opT (nxt f n q) a q'.1) q'.2) = .inr (E, p') → p < p' → RdC f n p' (s + 2 * (cE E).length) h' → ordAt h' 25 s (cE E) → (∀ k, k < s → h'.1 25 k = h.1 25 k) → WfE E → hE E ≤ B + 1 → ((cE E).length : Int) ≤ p' - p → FRd h h' → K 1 h' := fun E p' h' e => m2 E p' h' (by
          show (if nxt f n q ∈ [43, 45] then _ else _) = _
          rw [if_pos (by rw [hx]; exact hm)]
          exact e)
        refine ⟨ii (by omega), ii (by omega), s_Reader_readSum_4 ⟨fun z => by omega, fun _ => ?_⟩⟩
        refine ro (q + 1) _ _ _ r1 (by omega) ⟨fun a' b' h' e fl f' => br0' (m1' a' b' h' (by rw [e]) fl ((ff.trans f1).trans f')), fun E p' h' e hp' r' oc' un' w' hb' hl' f' => br1' ⟨fun z => absurd z hxz, fun _ => ?_⟩⟩
        have bp := r'.2.2.2.2.1
        refine rPut (by omega) r' (by omega) (fun h2 r2 c1 c2 c3 f2 => ?_)
        have ct := cE_opT (x := x) (a := a) (b := E) (by revert hm; simp only [List.mem_cons, List.not_mem_nil, or_false]; omega)
        have ln : ((cE (opT x a E)).length : Int) = (cE a).length + (cE E).length + 1 := by
          rw [ct.1]
          simp only [List.length_append, List.length_cons, List.length_nil]
          omega
        refine ih (opT x a E) p' (v3 + 1) h2 (by omega) (by omega) (by omega) (by omega) ?_ ?_ (fun k hk => ?_) (ct.2.2.mpr ⟨w, w'⟩) (by rw [ct.2.1]; omega) (by omega) (((ff.trans f1).trans f').trans f2) (fun a' b' h3 e3 => m1' a' b' h3 (by rw [e, hx]; exact e3)) (fun E3 p3 h3 e3 => m2' E3 p3 h3 (by rw [e, hx]; exact e3))
        · rw [ln, show s + 2 * (((cE a).length : Int) + (cE E).length + 1) = s + 2 * ((cE a).length : Int) + 2 * ((cE E).length : Int) + 2 by omega]
          exact r2
        · rw [ct.1]
          have o1 : ordAt h2 25 s (cE a) := fun i v hv => by
            have hi := (List.getElem?_eq_some_iff.mp hv).1
            rw [c3 _ (by omega) (by omega), c3 _ (by omega) (by omega), un' _ (by omega), un' _ (by omega), rI_ne (by decide), rI_ne (by decide)]
            exact oc i v hv
          have o2 : ordAt h2 25 (s + 2 * ((cE a).length : Int)) (cE E) := fun i v hv => by
            have hi := (List.getElem?_eq_some_iff.mp hv).1
            rw [c3 _ (by omega) (by omega), c3 _ (by omega) (by omega)]
            exact oc' i v hv
          refine ordAt_join o1 (ordAt_join o2 (fun i v hv => ?_))
          match i, hv with
          | 0, hv =>
            cases hv
            rw [show s + 2 * ((cE a).length : Int) + 2 * ((cE E).length : Int) + 2 * ((0 : Nat) : Int) = s + 2 * ((cE a).length : Int) + 2 * ((cE E).length : Int) by omega]
            exact ⟨c1, c2⟩
        · rw [c3 k (by omega) (by omega), un' k (by omega), rI_ne (by decide)]
          exact un k hk
      have stop : nxt f n q ∉ [43, 45] → K 1 hh := fun hn => m2 a q hh (by
        show (if nxt f n q ∈ [43, 45] then _ else _) = _
        rw [if_neg hn]) pq rr oc un w hb hl ff
      refine s_Reader_readSum_35 (rNext (by omega) rr ?_)
      refine ⟨fun z => by rw [z]; exact step 43 z (by decide) (by decide), fun z1 => ⟨fun z => by rw [z]; exact step 45 z (by decide) (by decide), fun z2 => stop (by
        simp only [List.mem_cons, List.not_mem_nil, or_false]
        omega)⟩⟩
  refine s_Reader_readSum_4 ⟨fun z => absurd z (by decide), fun _ => ro p s h _ r hs ⟨fun a b h' e fl f' => br0' (k1 a b h' (by rw [e]) fl f'), fun E p' h' e hp' r' oc un w hb hl f' => br1' ⟨fun _ => ?_, fun z => absurd rfl z⟩⟩⟩
  exact loop 161 E p' 0 h' (by decide) (Int.le_refl 0) (by omega) hp' r' oc un w (by omega) hl f' (fun a' b' h2 e2 => k1 a' b' h2 (by rw [e]; exact e2)) (fun E2 p2 h2 e2 => k2 E2 p2 h2 (by rw [e]; exact e2))
theorem rSum : ∀ (o : Nat), o ≤ 6 → ∀ (d : Nat) (p s : Int) (h : AH) (K : Int → AH → Prop), 3 * o + 6 < d → RdC f n p s h → s ≤ 2 * p → CtE f n p s h K (pSum f n o p) (2 * o + 3) → Call d M_Reader_readSum [vR 4 (-1), vI (6 - (o : Int))] h K := by
  intro o
  induction o with
  | zero =>
    intro _ d p s h K hd r hs k
    exact rSumC (B := 2) (D := 6) hd (by decide) r hs (fun p s h K r hs k => rProduct (B := 1) (D := 5) (by decide) (by decide) r hs (fun p s h K r hs k => rFactor (o := 0) (by decide) (by decide) (by decide) r hs (fun z => absurd rfl z) k) k) k
  | succ o ih =>
    intro ho d p s h K hd r hs k
    refine rSumC (B := 2 * o + 4) (D := 3 * o + 9) (by omega) (by omega) r hs (fun p s h K r hs k => rProduct (B := 2 * o + 3) (D := 3 * o + 8) (by omega) (by omega) r hs (fun p s h K r hs k => rFactor (o := o + 1) (by omega) ho (by omega) r hs (fun _ p s h K r hs k => ?_) k) k) k
    have := ih (by omega) (3 * (o + 1) + 4) p s h K (by omega) r hs k
    rw [show 6 - (o : Int) = 6 - ((o + 1 : Nat) : Int) + 1 by omega] at this
    exact this
end RD1

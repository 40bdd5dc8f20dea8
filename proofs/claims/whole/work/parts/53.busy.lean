/-! walks; who stands between most twos -/
theorem w64_w64 (y : Int) : w64 (w64 y) = w64 y := by unfold w64; rw [Int64.ofInt_toInt]
theorem ws_w64 {P : Int → Prop} {f : Int → Int} : ∀ m : Nat, w64 (ws P f m) = ws P f m
  | 0 => show w64 0 = 0 by decide
  | m + 1 => by
    unfold ws
    by_cases p : P m
    · rw [if_pos p, w64_w64]
    · rw [if_neg p, ws_w64 m]
/-- rows of v steps from a: how many come to v -/
noncomputable def wk (g : G) (lw : LW) (a : Int) : Nat → Int → Int
  | 0, v => if v = a then 1 else 0
  | k + 1, v => ws (fun u => (sc g lw u v).1 ≠ 0) (wk g lw a k) (gn g).toNat
section WK
variable {d : Nat} {g : G} {lw : LW} {h : AH} {K : Int → AH → Prop}
theorem mWalks (hd : 5 < d) {a b p : Int} (r : RepM g h) (rl : RepML lw h) (k0 : (¬ (0 ≤ a ∧ a < gn g) ∨ ¬ (0 ≤ b ∧ b < gn g) ∨ ¬ (0 ≤ p ∧ p ≤ 10)) → K (-1) h) (k1 : 0 ≤ a → a < gn g → 0 ≤ b → b < gn g → 0 ≤ p → p ≤ 10 → (¬ us g a ∨ ¬ us g b) → K 0 h) (k2 : ∀ h', 0 ≤ a → a < gn g → 0 ≤ b → b < gn g → 0 ≤ p → p ≤ 10 → us g a → us g b → Fr [76, 77, 78, 79, 80, 86, 87] [] h h' → K (wk g lw a p.toNat b) h') : Call d M_M_walks [vR 12 (-1), vI a, vI b, vI p] h K := by
  have nb := r.ok.nb
  refine c_M_walks 5 hd (mIsWord (by decide) r (fun a0 a1 => br1 (mIsWord (by decide) r (fun b0 b1 => br1 (mIn (by decide) (fun p0 p1 => br1' (mIsUsed (by decide) r a0 a1 (fun ua => br1 (mIsUsed (by decide) r b0 b1 (fun ub => br1' (mLaysSteps (by decide) r rl (fun hs ls fs => ?_))) (fun nu => br0' (k1 a0 a1 b0 b1 p0 p1 (Or.inr nu))))) (fun nu => br0 (k1 a0 a1 b0 b1 p0 p1 (Or.inl nu))))) (fun c => br0' (k0 (by omega))))) (fun c => br0 (k0 (by omega))))) (fun c => br0 (k0 (by omega))))
  have rs := r.fr fs
  have fs' : Fr [76, 77, 78, 79, 80, 86, 87] [] h hs := fs.mono (by decide) (by decide)
  have copy : ∀ m : Nat, ∀ (v4 v5 : Int) (hh : AH), 0 ≤ v4 → v4 < p → 0 ≤ v5 → v5 ≤ gn g → gn g - v5 < m → Fr [86, 87] [] hs hh → (∀ h', Fr [86, 87] [] hs h' → (∀ v, 0 ≤ v → v < gn g → h'.2.1 86 v = wk g lw a (v4 + 1).toNat v) → A_M_walks_91 5 K b p (v4 + 1) h') → (∀ v, 0 ≤ v → v < gn g → hh.2.1 87 v = wk g lw a (v4 + 1).toNat v) → (∀ v, 0 ≤ v → v < v5 → hh.2.1 86 v = wk g lw a (v4 + 1).toNat v) → A_M_walks_177 5 K b p v4 v5 hh := by
    intro m
    induction m with
    | zero => intro v4 v5 hh x1 x2 x3 x4 e; omega
    | succ m ih =>
      intro v4 v5 hh x1 x2 x3 x4 e f on t1 t2
      refine s_M_walks_177 ?_
      rw [(rs.fr f).n]
      refine ⟨fun c => ⟨ii (by omega), on hh f (fun v v0 v1 => t2 v v0 (by omega))⟩, fun c => ⟨ib (by omega), ii (by omega), ih v4 (v5 + 1) _ x1 x2 (by omega) (by omega) (by omega) (f.trans (Fr.wL (Or.inl (by decide)))) on (fun v v0 v1 => ?_) (fun v v0 v1 => ?_)⟩⟩
      · rw [rL_ne (by decide)]; exact t1 v v0 v1
      · by_cases z : v = v5
        · rw [z, rL_eq]; exact t1 v5 x3 c
        · rw [rL_nk z]; exact t2 v v0 (by omega)
  have sum : ∀ m : Nat, ∀ (v4 v5 v6 : Int) (hh : AH), 0 ≤ v4 → v4 < p → 0 ≤ v5 → v5 < gn g → 0 ≤ v6 → v6 ≤ gn g → (gn g - v5) * 41 - v6 < m → Fr [86, 87] [] hs hh → (∀ h', Fr [86, 87] [] hs h' → (∀ v, 0 ≤ v → v < gn g → h'.2.1 86 v = wk g lw a (v4 + 1).toNat v) → A_M_walks_91 5 K b p (v4 + 1) h') → (∀ v, 0 ≤ v → v < gn g → hh.2.1 86 v = wk g lw a v4.toNat v) → (∀ v, 0 ≤ v → v < v5 → hh.2.1 87 v = wk g lw a (v4 + 1).toNat v) → hh.2.1 87 v5 = ws (fun u => (sc g lw u v5).1 ≠ 0) (wk g lw a v4.toNat) v6.toNat → A_M_walks_120 5 K b p v4 v5 v6 hh := by
    intro m
    induction m with
    | zero => intro v4 v5 v6 hh x1 x2 x3 x4 x5 x6 e; omega
    | succ m ih =>
      intro v4 v5 v6 hh x1 x2 x3 x4 x5 x6 e f on t0 t1 t2
      have rr := rs.fr f
      refine s_M_walks_120 ?_
      rw [rr.n]
      refine ⟨fun c => ⟨ii (by omega), s_M_walks_100 ?_⟩, fun c => ?_⟩
      · have t3 : ∀ v, 0 ≤ v → v < v5 + 1 → hh.2.1 87 v = wk g lw a (v4 + 1).toNat v := by
          intro v v0 v1
          by_cases z : v = v5
          · rw [z, t2, show v6 = gn g by omega, show (v4 + 1).toNat = v4.toNat + 1 by omega]
            rfl
          · exact t1 v v0 (by omega)
        rw [rr.n]
        refine ⟨fun c2 => copy ((gn g).toNat + 1) v4 0 hh x1 x2 (by decide) (by omega) (by omega) f on (fun v v0 v1 => t3 v v0 (by omega)) (fun v v0 v1 => by omega), fun c2 => ⟨ib (by omega), ih v4 (v5 + 1) 0 _ x1 x2 (by omega) c2 (by decide) (by omega) (by omega) (f.trans (Fr.wL (Or.inl (by decide)))) on (fun v v0 v1 => ?_) (fun v v0 v1 => ?_) rL_eq⟩⟩
        · rw [rL_ne (by decide)]; exact t0 v v0 v1
        · rw [rL_nk (by omega)]; exact t3 v v0 v1
      · refine mIsStep (by decide) rr (ls.fr f) x5 c x3 x4 (fun hy => br1 ⟨ib (by omega), ib (by omega), ii (by omega), ?_⟩) (fun hn => br0 ⟨ii (by omega), ih v4 v5 (v6 + 1) hh x1 x2 x3 x4 (by omega) (by omega) (by omega) f on t0 t1 (by rw [ws_f x5 (fun z => z hn)]; exact t2)⟩)
        refine ih v4 v5 (v6 + 1) _ x1 x2 x3 x4 (by omega) (by omega) (by omega) (f.trans (Fr.wL (Or.inl (by decide)))) on (fun v v0 v1 => ?_) (fun v v0 v1 => ?_) ?_
        · rw [rL_ne (by decide)]; exact t0 v v0 v1
        · rw [rL_nk (by omega)]; exact t1 v v0 v1
        · rw [rL_eq, ws_t x5 hy, t2, t0 v6 x5 c]
  have turn : ∀ m : Nat, ∀ (v4 : Int) (hh : AH), 0 ≤ v4 → v4 ≤ p → p - v4 < m → Fr [86, 87] [] hs hh → (∀ v, 0 ≤ v → v < gn g → hh.2.1 86 v = wk g lw a v4.toNat v) → A_M_walks_91 5 K b p v4 hh := by
    intro m
    induction m with
    | zero => intro v4 hh x1 x2 e; omega
    | succ m ih =>
      intro v4 hh x1 x2 e f t
      refine s_M_walks_91 ⟨fun c => ⟨ib (by omega), ?_⟩, fun c => s_M_walks_100 ?_⟩
      · rw [t b b0 b1, show v4 = p by omega]
        exact k2 hh a0 a1 b0 b1 p0 p1 ua ub (fs'.trans (f.mono (by decide) (by decide)))
      · rw [(rs.fr f).n]
        refine ⟨fun c2 => by omega, fun c2 => ⟨ib (by omega), sum ((gn g) * 41 + 1).toNat v4 0 0 _ x1 c (by decide) c2 (by decide) (by omega) (by omega) (f.trans (Fr.wL (Or.inl (by decide)))) (fun h' f' t' => ih (v4 + 1) h' (by omega) (by omega) (by omega) f' t') (fun v v0 v1 => by rw [rL_ne (by decide)]; exact t v v0 v1) (fun v v0 v1 => by omega) rL_eq⟩⟩
  have start : ∀ m : Nat, ∀ (v4 : Int) (hh : AH), 0 ≤ v4 → v4 ≤ gn g → gn g - v4 < m → Fr [86, 87] [] hs hh → (∀ v, 0 ≤ v → v < v4 → hh.2.1 86 v = if v = a then 1 else 0) → A_M_walks_55 5 K a b p v4 hh := by
    intro m
    induction m with
    | zero => intro v4 hh x1 x2 e; omega
    | succ m ih =>
      intro v4 hh x1 x2 e f t
      refine s_M_walks_55 ?_
      rw [(rs.fr f).n]
      refine ⟨fun c => turn (p.toNat + 1) 0 hh (by decide) p0 (by omega) f (fun v v0 v1 => t v v0 (by omega)), fun c => ⟨ib (by omega), ii (by omega), ih (v4 + 1) _ (by omega) (by omega) (by omega) (f.trans (Fr.wL (Or.inl (by decide)))) (fun v v0 v1 => ?_)⟩⟩
      by_cases z : v = v4
      · rw [z, rL_eq]
      · rw [rL_nk z]; exact t v v0 (by omega)
  exact start ((gn g).toNat + 1) 0 hs (by decide) (by omega) (by omega) Fr.refl (fun v v0 v1 => by omega)
theorem Fr.cpL {h : AH} : Fr [40] [] h (cpL h 39 40 40) := fun o k x y => ⟨rfl, if_neg (fun z => x (by rw [z.1]; decide)), fun _ => rfl⟩
theorem cWalksInto (hd : 1 < d) {v : Int} (r : RepCW g h) (l : LaidC g lw h) (v0 : 0 ≤ v) (v1 : v < gn g) (k : K (ws (fun u => (sc g lw u v).1 ≠ 0) (fun u => h.2.1 40 u) (gn g).toNat) h) : Call d M_Ways_walksInto [vR 7 (-1), vI v] h K := by
  have nb := r.ok.nb
  refine c_Ways_walksInto 1 hd ?_
  have key : ∀ m : Nat, ∀ v2 v4 : Int, 0 ≤ v4 → v4 ≤ gn g → gn g - v4 < m → v2 = ws (fun u => (sc g lw u v).1 ≠ 0) (fun u => h.2.1 40 u) v4.toNat → A_Ways_walksInto_5 1 K v v2 v4 h := by
    intro m
    induction m with
    | zero => intro v2 v4 x1 x2 e; omega
    | succ m ih =>
      intro v2 v4 x1 x2 e t
      refine s_Ways_walksInto_5 ?_
      rw [r.n]
      refine ⟨fun c => ?_, fun c => ⟨ib (by omega), fun c2 => ⟨ii (by omega), ih v2 (v4 + 1) (by omega) (by omega) (by omega) ?_⟩, fun c2 => cLeads (by decide) r l x1 c v0 v1 (fun hy => br1 ⟨ii (by omega), ih _ (v4 + 1) (by omega) (by omega) (by omega) ?_⟩) (fun hn => br0 ⟨ii (by omega), ih v2 (v4 + 1) (by omega) (by omega) (by omega) ?_⟩)⟩⟩
      · rw [t, show v4 = gn g by omega]; exact k
      · by_cases hy : (sc g lw v4 v).1 ≠ 0
        · rw [ws_t x1 hy, c2, Int.add_zero, ws_w64]; exact t
        · rw [ws_f x1 hy]; exact t
      · rw [ws_t x1 hy, t]
      · rw [ws_f x1 (fun z => z hn)]; exact t
  exact key ((gn g).toNat + 1) 0 0 (by decide) (by omega) (by omega) rfl
theorem cCountWalks (hd : 2 < d) {a b p : Int} (r : RepCW g h) (l : LaidC g lw h) (a0 : 0 ≤ a) (a1 : a < gn g) (b0 : 0 ≤ b) (b1 : b < gn g) (p0 : 0 ≤ p) (p1 : p ≤ 10) (k : ∀ h', Fr [39, 40] [] h h' → K (wk g lw a p.toNat b) h') : Call d M_Ways_countWalks [vR 7 (-1), vI a, vI b, vI p] h K := by
  have nb := r.ok.nb
  refine c_Ways_countWalks 2 hd ?_
  have row : ∀ m : Nat, ∀ (v4 v5 : Int) (hh : AH), 0 ≤ v4 → v4 < p → 0 ≤ v5 → v5 ≤ gn g → gn g - v5 < m → Fr [39, 40] [] h hh → (∀ h', Fr [39, 40] [] h h' → (∀ v, 0 ≤ v → v < gn g → h'.2.1 39 v = wk g lw a (v4 + 1).toNat v) → A_Ways_countWalks_42 2 K b p (v4 + 1) h') → (∀ v, 0 ≤ v → v < gn g → hh.2.1 40 v = wk g lw a v4.toNat v) → (∀ v, 0 ≤ v → v < v5 → hh.2.1 39 v = wk g lw a (v4 + 1).toNat v) → A_Ways_countWalks_66 2 K b p v4 v5 hh := by
    intro m
    induction m with
    | zero => intro v4 v5 hh x1 x2 x3 x4 e; omega
    | succ m ih =>
      intro v4 v5 hh x1 x2 x3 x4 e f on t1 t2
      refine s_Ways_countWalks_66 ?_
      rw [(r.fr f).n]
      refine ⟨fun c => ⟨ii (by omega), on hh f (fun v v0 v1 => t2 v v0 (by omega))⟩, fun c => cWalksInto (by decide) (r.fr f) (l.fr f) x3 c ⟨ib (by omega), ii (by omega), ih v4 (v5 + 1) _ x1 x2 (by omega) (by omega) (by omega) (f.trans (Fr.wL (Or.inl (by decide)))) on (fun v v0 v1 => ?_) (fun v v0 v1 => ?_)⟩⟩
      · rw [rL_ne (by decide)]; exact t1 v v0 v1
      · by_cases z : v = v5
        · rw [z, rL_eq, show (v4 + 1).toNat = v4.toNat + 1 by omega]
          exact ws_congr _ (fun u u0 u1 _ => t1 u u0 (by omega))
        · rw [rL_nk z]; exact t2 v v0 (by omega)
  have turn : ∀ m : Nat, ∀ (v4 : Int) (hh : AH), 0 ≤ v4 → v4 ≤ p → p - v4 < m → Fr [39, 40] [] h hh → (∀ v, 0 ≤ v → v < gn g → hh.2.1 39 v = wk g lw a v4.toNat v) → A_Ways_countWalks_42 2 K b p v4 hh := by
    intro m
    induction m with
    | zero => intro v4 hh x1 x2 e; omega
    | succ m ih =>
      intro v4 hh x1 x2 e f t
      refine s_Ways_countWalks_42 ⟨fun c => ⟨ib (by omega), ?_⟩, fun c => ⟨by decide, row ((gn g).toNat + 1) v4 0 _ x1 c (by decide) (by omega) (by omega) (f.trans (Fr.cpL.mono (by decide) (by decide))) (fun h' f' t' => ih (v4 + 1) h' (by omega) (by omega) (by omega) f' t') (fun v v0 v1 => ?_) (fun v v0 v1 => by omega)⟩⟩
      · rw [t b b0 b1, show v4 = p by omega]
        exact k hh f
      · show (if (40 : Nat) = 40 ∧ 0 ≤ v ∧ v < ((40 : Nat) : Int) then hh.2.1 39 v else hh.2.1 40 v) = _
        rw [if_pos ⟨rfl, v0, by omega⟩]
        exact t v v0 v1
  have start : ∀ m : Nat, ∀ (v4 : Int) (hh : AH), 0 ≤ v4 → v4 ≤ gn g → gn g - v4 < m → Fr [39, 40] [] h hh → (∀ v, 0 ≤ v → v < v4 → hh.2.1 39 v = if v = a then 1 else 0) → A_Ways_countWalks_3 2 K a b p v4 hh := by
    intro m
    induction m with
    | zero => intro v4 hh x1 x2 e; omega
    | succ m ih =>
      intro v4 hh x1 x2 e f t
      refine s_Ways_countWalks_3 ?_
      rw [(r.fr f).n]
      refine ⟨fun c => turn (p.toNat + 1) 0 hh (by decide) p0 (by omega) f (fun v v0 v1 => t v v0 (by omega)), fun c => ⟨ib (by omega), ii (by omega), ih (v4 + 1) _ (by omega) (by omega) (by omega) (f.trans (Fr.wL (Or.inl (by decide)))) (fun v v0 v1 => ?_)⟩⟩
      by_cases z : v = v4
      · rw [z, rL_eq]
      · rw [rL_nk z]; exact t v v0 (by omega)
  exact start ((gn g).toNat + 1) 0 h (by decide) (by omega) (by omega) Fr.refl (fun v v0 v1 => by omega)
end WK

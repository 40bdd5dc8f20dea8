/-! the reference: words -/
theorem RepM.ok {g : G} {h : AH} (r : RepM g h) : OkG g := r.1
theorem RepM.n {g : G} {h : AH} (r : RepM g h) : h.1 12 0 = gn g := r.2.1
theorem RepM.s {g : G} {h : AH} (r : RepM g h) : h.1 12 2 = gs g := r.2.2.1
theorem RepM.l {g : G} {h : AH} (r : RepM g h) {w : Int} (h0 : 0 ≤ w) (h1 : w < gn g) : h.1 58 w = gl g w := (r.2.2.2 w h0 h1).1
theorem RepM.k {g : G} {h : AH} (r : RepM g h) {w : Int} (h0 : 0 ≤ w) (h1 : w < gn g) : h.1 60 w = gk g w := (r.2.2.2 w h0 h1).2.1
theorem RepM.o {g : G} {h : AH} (r : RepM g h) {w : Int} (h0 : 0 ≤ w) (h1 : w < gn g) : h.1 61 w = go g w := (r.2.2.2 w h0 h1).2.2.1
theorem RepM.b {g : G} {h : AH} (r : RepM g h) {w : Int} (h0 : 0 ≤ w) (h1 : w < gn g) : h.1 62 w = gb g w := (r.2.2.2 w h0 h1).2.2.2.1
theorem RepM.t {g : G} {h : AH} (r : RepM g h) {w k : Int} (h0 : 0 ≤ w) (h1 : w < gn g) (k0 : 0 ≤ k) (k1 : k < gl g w) : h.1 59 (8 * w + k) = gt g w k := (r.2.2.2 w h0 h1).2.2.2.2 k k0 k1
theorem OkG.nb {g : G} (r : OkG g) : 0 ≤ gn g ∧ gn g ≤ 40 := r.1
theorem OkG.sb {g : G} (r : OkG g) : -1 ≤ gs g ∧ gs g ≤ 3 := r.2.1
theorem OkG.lb {g : G} (r : OkG g) {w : Int} (h0 : 0 ≤ w) (h1 : w < gn g) : 1 ≤ gl g w ∧ gl g w ≤ 8 := (r.2.2 w h0 h1).1
theorem OkG.kb {g : G} (r : OkG g) {w : Int} (h0 : 0 ≤ w) (h1 : w < gn g) : 0 ≤ gk g w ∧ gk g w ≤ 99 := (r.2.2 w h0 h1).2.1
theorem OkG.ob {g : G} (r : OkG g) {w : Int} (h0 : 0 ≤ w) (h1 : w < gn g) : 1 ≤ go g w ∧ go g w ≤ 15 := (r.2.2 w h0 h1).2.2.1
theorem OkG.bb {g : G} (r : OkG g) {w : Int} (h0 : 0 ≤ w) (h1 : w < gn g) : gb g w = 0 ∨ gb g w = 1 := (r.2.2 w h0 h1).2.2.2.1
theorem OkG.tb {g : G} (r : OkG g) {w k : Int} (h0 : 0 ≤ w) (h1 : w < gn g) (k0 : 0 ≤ k) (k1 : k < gl g w) : 0 ≤ gt g w k ∧ gt g w k ≤ 25 := (r.2.2 w h0 h1).2.2.2.2 k k0 k1
section M1
variable {d : Nat} {g : G} {h : AH} {K : Int → AH → Prop}
theorem mIn (hd : 0 < d) {v lo hi : Int} (kT : lo ≤ v → v ≤ hi → K 1 h) (kF : ¬ (lo ≤ v ∧ v ≤ hi) → K 0 h) : Call d M_M_in [vI v, vI lo, vI hi] h K :=
  c_M_in 0 hd ⟨fun c => kF (by omega), fun c => ⟨fun c2 => kF (by omega), fun c2 => kT c c2⟩⟩
theorem mSum (hd : 0 < d) {a b : Int} (ha : 0 ≤ a) (hb : 0 ≤ b) (kF : 1000000000 ≤ a ∨ 1000000000 ≤ b → K 1000000000 h) (kT : a < 1000000000 → b < 1000000000 → K (a + b) h) : Call d M_M_sum [vI a, vI b] h K :=
  c_M_sum 0 hd ⟨fun c => kF (Or.inl c), fun c => ⟨fun c2 => ⟨ii (by omega), kT c c2⟩, fun c2 => kF (Or.inr c2)⟩⟩
theorem mMin (hd : 0 < d) {a b : Int} (k : K (min a b) h) : Call d M_M_min [vI a, vI b] h K :=
  c_M_min 0 hd ⟨fun c => by rwa [show min a b = b by omega] at k, fun c => by rwa [show min a b = a by omega] at k⟩
theorem mIsWord (hd : 0 < d) {w : Int} (r : RepM g h) (kT : 0 ≤ w → w < gn g → K 1 h) (kF : ¬ (0 ≤ w ∧ w < gn g) → K 0 h) : Call d M_M_isWord [vR 12 (-1), vI w] h K := by
  have e := r.n
  exact c_M_isWord 0 hd ⟨fun c => kF (by omega), fun c => ⟨fun c2 => kF (by omega), fun c2 => kT c (by omega)⟩⟩
theorem mIsUsed (hd : 0 < d) {w : Int} (r : RepM g h) (h0 : 0 ≤ w) (h1 : w < gn g) (kT : us g w → K 1 h) (kF : ¬ us g w → K 0 h) : Call d M_M_isUsed [vR 12 (-1), vI w] h K := by
  have n := r.ok.nb
  refine c_M_isUsed 0 hd ⟨ib (by omega), ?_⟩
  rw [r.b h0 h1, r.o h0 h1, r.s]
  exact ⟨fun c => kF (fun z => c z.1), fun c => ⟨fun c2 => kT ⟨c, Or.inl c2⟩, fun c2 => ⟨fun c3 => kF (fun z => z.2.elim c2 c3), fun c3 => kT ⟨c, Or.inr c3⟩⟩⟩⟩
theorem mLetter (hd : 0 < d) {w k : Int} (r : RepM g h) (h0 : 0 ≤ w) (h1 : w < gn g) (k0 : 0 ≤ k) (k1 : k < gl g w) (kk : K (gt g w k) h) : Call d M_M_letter [vR 12 (-1), vI w, vI k] h K := by
  have n := r.ok.nb
  have l := r.ok.lb h0 h1
  refine c_M_letter 0 hd ⟨ii (by omega), ii (by omega), ib (by omega), ?_⟩
  rw [r.t h0 h1 k0 k1]
  exact kk
/-- what stands in row0, of length long0 -/
def Row0 (n : Int) (f : Int → Int) (h : AH) : Prop := h.1 12 9 = n ∧ (0 ≤ n ∧ n ≤ 12) ∧ ∀ k, 0 ≤ k → k < n → h.1 63 k = f k
def same (g : G) (w n : Int) (f : Int → Int) : Prop := gl g w = n ∧ ∀ k, 0 ≤ k → k < n → gt g w k = f k
theorem mIsRow (hd : 0 < d) {w n : Int} {f : Int → Int} (r : RepM g h) (q : Row0 n f h) (h0 : 0 ≤ w) (h1 : w < gn g) (kT : same g w n f → K 1 h) (kF : ¬ same g w n f → K 0 h) : Call d M_M_isRow [vR 12 (-1), vI w] h K := by
  have nb := r.ok.nb
  have lb := r.ok.lb h0 h1
  obtain ⟨q1, q2, q3⟩ := q
  refine c_M_isRow 0 hd ⟨ib (by omega), ?_⟩
  rw [r.l h0 h1, q1]
  refine ⟨fun c => ?_, fun c => kF (fun z => c z.1)⟩
  have key : ∀ m : Nat, ∀ v : Int, 0 ≤ v → v ≤ n → n - v < m → (∀ k, 0 ≤ k → k < v → gt g w k = f k) → A_M_isRow_17 0 K w v h := by
    intro m
    induction m with
    | zero => intro v a b e; omega
    | succ m ih =>
      intro v a b e hv
      refine s_M_isRow_17 ⟨fun c2 => kT ⟨c, fun k x y => hv k x (by omega)⟩, fun c2 => ?_⟩
      rw [q1] at c2
      refine ⟨ii (by omega), ii (by omega), ib (by omega), ib (by omega), ?_⟩
      rw [r.t h0 h1 a (by omega), q3 v a c2]
      refine ⟨fun c3 => ⟨ii (by omega), ih (v + 1) (by omega) (by omega) (by omega) (fun k x y => ?_)⟩, fun c3 => kF (fun z => c3 (z.2 v a c2))⟩
      by_cases hk : k = v
      · rw [hk]; exact c3
      · exact hv k x (by omega)
  exact key (n.toNat + 1) 0 (by omega) (by omega) (by omega) (fun k x y => by omega)
theorem mIsRowWord (hd : 1 < d) {n : Int} {f : Int → Int} (r : RepM g h) (q : Row0 n f h) (kT : (∃ w, 0 ≤ w ∧ w < gn g ∧ same g w n f) → K 1 h) (kF : (∀ w, 0 ≤ w → w < gn g → ¬ same g w n f) → K 0 h) : Call d M_M_isRowWord [vR 12 (-1)] h K := by
  have nb := r.ok.nb
  refine c_M_isRowWord 1 hd ?_
  have key : ∀ m : Nat, ∀ v : Int, 0 ≤ v → v ≤ gn g → gn g - v < m → (∀ w, 0 ≤ w → w < v → ¬ same g w n f) → A_M_isRowWord_2 1 K v h := by
    intro m
    induction m with
    | zero => intro v a b e; omega
    | succ m ih =>
      intro v a b e hv
      refine s_M_isRowWord_2 ?_
      rw [r.n]
      refine ⟨fun c => kF (fun w x y => hv w x (by omega)), fun c => mIsRow (by decide) r q a c (fun s => br1 (kT ⟨v, a, c, s⟩)) (fun s => br0 ⟨ii (by omega), ih (v + 1) (by omega) (by omega) (by omega) (fun w x y => ?_)⟩)⟩
      by_cases hw : w = v
      · rw [hw]; exact s
      · exact hv w x (by omega)
  exact key ((gn g).toNat + 1) 0 (by omega) (by omega) (by omega) (fun w x y => by omega)
end M1

/-! further rows: divisions, tables, copies, dead locals, reads behind writes -/
theorem rI_ne {h : AH} {o o' : Nat} {k k' v : Int} (hne : o' ≠ o) : (wI h o k v).1 o' k' = h.1 o' k' := if_neg (fun z => hne z.1)
theorem rI_nk {h : AH} {o o' : Nat} {k k' v : Int} (hne : k' ≠ k) : (wI h o k v).1 o' k' = h.1 o' k' := if_neg (fun z => hne z.2)
theorem rI_eq {h : AH} {o : Nat} {k v : Int} : (wI h o k v).1 o k = v := if_pos ⟨rfl, rfl⟩
theorem rI_L {h : AH} {o o' : Nat} {k k' v : Int} : (wL h o k v).1 o' k' = h.1 o' k' := rfl
theorem rI_R {h : AH} {o o' : Nat} {r k k' v : Int} : (wR h o r k v).1 o' k' = h.1 o' k' := rfl
theorem rL_ne {h : AH} {o o' : Nat} {k k' v : Int} (hne : o' ≠ o) : (wL h o k v).2.1 o' k' = h.2.1 o' k' := if_neg (fun z => hne z.1)
theorem rL_nk {h : AH} {o o' : Nat} {k k' v : Int} (hne : k' ≠ k) : (wL h o k v).2.1 o' k' = h.2.1 o' k' := if_neg (fun z => hne z.2)
theorem rL_eq {h : AH} {o : Nat} {k v : Int} : (wL h o k v).2.1 o k = v := if_pos ⟨rfl, rfl⟩
theorem rL_I {h : AH} {o o' : Nat} {k k' v : Int} : (wI h o k v).2.1 o' k' = h.2.1 o' k' := rfl
theorem rL_R {h : AH} {o o' : Nat} {r k k' v : Int} : (wR h o r k v).2.1 o' k' = h.2.1 o' k' := rfl
theorem rR_ne {h : AH} {o o' : Nat} {r r' k k' v : Int} (hne : o' ≠ o) : (wR h o r k v).2.2 o' r' k' = h.2.2 o' r' k' := if_neg (fun z => hne z.1)
theorem rR_I {h : AH} {o o' : Nat} {r' k k' v : Int} : (wI h o k v).2.2 o' r' k' = h.2.2 o' r' k' := rfl
theorem rR_L {h : AH} {o o' : Nat} {r' k k' v : Int} : (wL h o k v).2.2 o' r' k' = h.2.2 o' r' k' := rfl
theorem rdA_p {h : AH} {o : Nat} {k : Int} : rdA h o (-1) k = h.1 o k := if_pos rfl
theorem rdA_r {h : AH} {o : Nat} {r k : Int} (hr : r ≠ -1) : rdA h o r k = h.2.2 o r k := if_neg hr
theorem inb_ne {r : Int} {n : Nat} (h : inb r n) : r ≠ -1 := by have := h.1; omega
def maskL : List Bool → List (Option AV) → List (Option AV)
  | b :: bs, v :: vs => (if b then v else none) :: maskL bs vs
  | _, _ => []
theorem maskL_get : ∀ (bs : List Bool) (ls : List (Option AV)) (i : Nat) (v : AV), (maskL bs ls)[i]? = some (some v) → ls[i]? = some (some v)
  | [], _, i, v, h => by simp [maskL] at h
  | b :: bs, [], i, v, h => by simp [maskL] at h
  | b :: bs, w :: vs, 0, v, h => by
    simp only [maskL, List.getElem?_cons_zero] at h ⊢
    cases b
    · simp at h
    · exact h
  | b :: bs, w :: vs, i + 1, v, h => by
    simp only [maskL, List.getElem?_cons_succ] at h ⊢
    exact maskL_get bs vs i v h
theorem divI {x y : Int} (gx : inI x) (gy : inI y) : Int32.ofInt x / Int32.ofInt y = Int32.ofInt (x.tdiv y) := by
  apply Int32.toInt.inj
  rw [Int32.toInt_div, okI gx, okI gy, Int32.toInt_ofInt]
def cpI (h : AH) (o1 o2 : Nat) (n : Nat) : AH := (fun o k => if o = o2 ∧ 0 ≤ k ∧ k < (n : Int) then h.1 o1 k else h.1 o k, h.2.1, h.2.2)
def cpL (h : AH) (o1 o2 : Nat) (n : Nat) : AH := (h.1, fun o k => if o = o2 ∧ 0 ≤ k ∧ k < (n : Int) then h.2.1 o1 k else h.2.1 o k, h.2.2)
theorem enc_cpI {ad : Nat → Int → Nat} {cA : Nat → ClassId} {h : AH} {o1 o2 n : Nat} : ∀ o' r', (o', r') ≠ (o2, (-1 : Int)) → encE ad cA (cpI h o1 o2 n) o' r' = encE ad cA h o' r' := by
  intro o' r' hne
  unfold encE
  by_cases hr : r' = -1
  · subst hr
    rw [if_pos rfl, if_pos rfl]
    have ho : o' ≠ o2 := fun z => hne (by rw [z])
    exact encP_congr (h := h) (h' := cpI h o1 o2 n) (fun k' => by simp [cpI, ho]) (fun _ => rfl) _
  · rw [if_neg hr, if_neg hr]
    rfl
theorem ok_cpI {h : AH} {o1 o2 n : Nat} (hh : OkH h) : OkH (cpI h o1 o2 n) := ⟨fun o' k' => by show inI (if _ then _ else _); split; exact hh.1 _ _; exact hh.1 _ _, hh.2.1, hh.2.2⟩
theorem enc_cpL {ad : Nat → Int → Nat} {cA : Nat → ClassId} {h : AH} {o1 o2 n : Nat} : ∀ o' r', (o', r') ≠ (o2, (-1 : Int)) → encE ad cA (cpL h o1 o2 n) o' r' = encE ad cA h o' r' := by
  intro o' r' hne
  unfold encE
  by_cases hr : r' = -1
  · subst hr
    rw [if_pos rfl, if_pos rfl]
    have ho : o' ≠ o2 := fun z => hne (by rw [z])
    exact encP_congr (h := h) (h' := cpL h o1 o2 n) (fun _ => rfl) (fun k' => by simp [cpL, ho]) _
  · rw [if_neg hr, if_neg hr]
    rfl
theorem ok_cpL {h : AH} {o1 o2 n : Nat} (hh : OkH h) : OkH (cpL h o1 o2 n) := ⟨hh.1, fun o' k' => by show inL (if _ then _ else _); split; exact hh.2.1 _ _; exact hh.2.1 _ _, hh.2.2⟩
section AWE
variable {d : Nat} {μ μ' : Mi} {Q : Int → AH → Prop} {pc n : Nat} {ls : List (Option AV)} {st : List AV} {h : AH}
theorem a_mask (bs : List Bool) {ls2 : List (Option AV)} (h2 : maskL bs ls = ls2) (hl : ls2.length = ls.length) (k : AW d μ Q pc ls2 st h) : AW d μ Q pc ls st h := by
  intro p l e s m args below meth c H locs lsC ad dC dI cA A C hs
  subst h2
  refine k p l e s m args below meth c H locs lsC ad dC dI cA A ⟨C.1, ⟨⟨C.2.1.1.1, C.2.1.1.2.1, hl.trans C.2.1.1.2.2.1, fun i v hi => C.2.1.1.2.2.2 i v (maskL_get bs ls i v hi)⟩, fun v hv => ?_⟩, C.2.2⟩ hs
  obtain ⟨i, hi⟩ := List.getElem?_of_mem hv
  exact C.2.1.2 v (List.mem_of_getElem? (maskL_get bs ls i v hi))
theorem a_st {st2 : List AV} (e : st = st2) (k : AW d μ Q pc ls st2 h) : AW d μ Q pc ls st h := by subst e; exact k
theorem a_ldcw {idx : Nat} {x : Int} (hd : decode μ.2.1 pc = .ok (.ldc_w idx, 3)) (hc : Jvm.Cond.constant μ.1.cls idx (Int32.ofInt x) ∈ TB) (hi : inI x) (k : AW d μ Q (pc + 3) ls (vI x :: st) h) : AW d μ Q pc ls st h := by
  intro p l e s m args below meth c H locs lsC ad dC dI cA A C hs
  exact lv_ldcw C.1.1 C.1.2.1 C.1.2.2.2.2.2.1 (C.1.2.2.2.2.2.2.1 _ hc) hd (k p l e s m args below meth c H locs lsC ad dC dI cA A C (okS_cons hi hs))
theorem a_idiv {x y : Int} (hd : decode μ.2.1 pc = .ok (.idiv, 1)) (hy : y ≠ 0) (hi : inI (x.tdiv y)) (k : AW d μ Q (pc + 1) ls (vI (x.tdiv y) :: st) h) : AW d μ Q pc ls (vI y :: vI x :: st) h := by
  intro p l e s m args below meth c H locs lsC ad dC dI cA A C hs
  have gy : inI y := okS_hd hs
  have gx : inI x := okS_hd (okS_tl hs)
  have k2 := k p l e s m args below meth c H locs lsC ad dC dI cA A C (okS_cons hi (okS_tl (okS_tl hs)))
  have e : Int32.ofInt x / Int32.ofInt y = Int32.ofInt (x.tdiv y) := divI gx gy
  refine lv_idiv C.1.1 C.1.2.1 hd (fun z => hy ((inI_eq gy ⟨by decide, by decide⟩).mp z)) ?_
  rw [e]
  exact k2
theorem a_idivW {x y : Int} (hd : decode μ.2.1 pc = .ok (.idiv, 1)) (hy : y ≠ 0) (k : AW d μ Q (pc + 1) ls (vI (w32 (x.tdiv y)) :: st) h) : AW d μ Q pc ls (vI y :: vI x :: st) h := by
  intro p l e s m args below meth c H locs lsC ad dC dI cA A C hs
  have gy : inI y := okS_hd hs
  have gx : inI x := okS_hd (okS_tl hs)
  have k2 := k p l e s m args below meth c H locs lsC ad dC dI cA A C (okS_cons (inI_32 _) (okS_tl (okS_tl hs)))
  have e : Int32.ofInt x / Int32.ofInt y = Int32.ofInt (w32 (x.tdiv y)) := by
    unfold w32
    rw [Int32.ofInt_toInt, divI gx gy]
  refine lv_idiv C.1.1 C.1.2.1 hd (fun z => hy ((inI_eq gy ⟨by decide, by decide⟩).mp z)) ?_
  rw [e]
  exact k2
theorem emod_le_self {a b : Int} (h : 0 ≤ a) : a % b ≤ a := by
  obtain ⟨n, rfl⟩ := Int.eq_ofNat_of_zero_le h
  show ((n % b.natAbs : Nat) : Int) ≤ (n : Int)
  exact Int.ofNat_le.mpr (Nat.mod_le _ _)
theorem tmod_in {x y : Int} (hx : inI x) : inI (x.tmod y) := by
  have h7 := hx.1
  have h8 := hx.2
  unfold inI
  rcases Int.lt_or_le x 0 with hn | hn
  · have e := Int.neg_tmod (-x) y
    have e2 : -(-x) = x := by omega
    rw [e2] at e
    have h9 := Int.tmod_nonneg y (show 0 ≤ -x by omega)
    have h10 : (-x).tmod y ≤ -x := by
      have := Int.tmod_eq_emod_of_nonneg (b := y) (show 0 ≤ -x by omega)
      rw [this]
      exact emod_le_self (show 0 ≤ -x by omega)
    omega
  · have h9 := Int.tmod_nonneg y hn
    have h10 : x.tmod y ≤ x := by
      rw [Int.tmod_eq_emod_of_nonneg hn]
      exact emod_le_self hn
    omega
theorem a_irem {x y : Int} (hd : decode μ.2.1 pc = .ok (.irem, 1)) (hy : y ≠ 0) (k : AW d μ Q (pc + 1) ls (vI (x.tmod y) :: st) h) : AW d μ Q pc ls (vI y :: vI x :: st) h := by
  intro p l e s m args below meth c H locs lsC ad dC dI cA A C hs
  have gy : inI y := okS_hd hs
  have gx : inI x := okS_hd (okS_tl hs)
  have hi := tmod_in (y := y) gx
  have k2 := k p l e s m args below meth c H locs lsC ad dC dI cA A C (okS_cons (v := vI (x.tmod y)) hi (okS_tl (okS_tl hs)))
  have e : Int32.ofInt x - Int32.ofInt x / Int32.ofInt y * Int32.ofInt y = Int32.ofInt (x.tmod y) := by
    rw [divI gx gy, ← Int32.ofInt_mul, ← Int32.ofInt_sub]
    congr 1
    have := Int.tdiv_mul_add_tmod x y
    omega
  refine lv_irem C.1.1 C.1.2.1 hd (fun z => hy ((inI_eq gy ⟨by decide, by decide⟩).mp z)) ?_
  rw [e]
  exact k2
theorem a_tsw {dflt lo hi off x : Int} {offs : Array Int} {len tgt i : Nat} (hd : decode μ.2.1 pc = .ok (.tableswitch dflt lo hi offs, len)) (hx : x = lo + i) (h2 : lo + i ≤ hi) (ho : offs[i]? = some off) (ht : (pc : Int) + off = (tgt : Int)) (k : AW d μ Q tgt ls st h) : AW d μ Q pc ls (vI x :: st) h := by
  intro p l e s m args below meth c H locs lsC ad dC dI cA A C hs
  have gx : inI x := okS_hd hs
  exact lv_tableIn C.1.1 C.1.2.1 hd (by rw [okI gx]; omega) (by rw [okI gx]; omega) (by rw [okI gx, show (x - lo).toNat = i by omega]; exact ho) ht (k p l e s m args below meth c H locs lsC ad dC dI cA A C (okS_tl hs))
theorem a_tswD {dflt lo hi x : Int} {offs : Array Int} {len tgt : Nat} (hd : decode μ.2.1 pc = .ok (.tableswitch dflt lo hi offs, len)) (hx : x < lo ∨ hi < x) (ht : (pc : Int) + dflt = (tgt : Int)) (k : AW d μ Q tgt ls st h) : AW d μ Q pc ls (vI x :: st) h := by
  intro p l e s m args below meth c H locs lsC ad dC dI cA A C hs
  have gx : inI x := okS_hd hs
  exact lv_tableOut C.1.1 C.1.2.1 hd (by rw [okI gx]; exact hx) ht (k p l e s m args below meth c H locs lsC ad dC dI cA A C (okS_tl hs))
theorem a_lc_eq {x y off : Int} {tgt : Nat} (hd0 : decode μ.2.1 pc = .ok (.lcmp, 1)) (hd : decode μ.2.1 (pc + 1) = .ok (.ifCond .eq off, 3)) (ht : ((pc + 1 : Nat) : Int) + off = (tgt : Int)) (kt : x = y → AW d μ Q tgt ls st h) (kf : ¬ (x = y) → AW d μ Q (pc + 4) ls st h) : AW d μ Q pc ls (vL y :: vL x :: st) h := by
  refine a_lcmp hd0 (a_if_eq hd ht (fun z => kt ?_) (fun z => kf ?_))
  · unfold lcmp at z
    split at z
    · omega
    · split at z <;> omega
  · unfold lcmp at z
    split at z
    · omega
    · split at z <;> omega
theorem a_lc_ne {x y off : Int} {tgt : Nat} (hd0 : decode μ.2.1 pc = .ok (.lcmp, 1)) (hd : decode μ.2.1 (pc + 1) = .ok (.ifCond .ne off, 3)) (ht : ((pc + 1 : Nat) : Int) + off = (tgt : Int)) (kt : x ≠ y → AW d μ Q tgt ls st h) (kf : ¬ (x ≠ y) → AW d μ Q (pc + 4) ls st h) : AW d μ Q pc ls (vL y :: vL x :: st) h := by
  refine a_lcmp hd0 (a_if_ne hd ht (fun z => kt ?_) (fun z => kf ?_))
  · unfold lcmp at z
    split at z
    · omega
    · split at z <;> omega
  · unfold lcmp at z
    split at z
    · omega
    · split at z <;> omega
theorem a_lc_lt {x y off : Int} {tgt : Nat} (hd0 : decode μ.2.1 pc = .ok (.lcmp, 1)) (hd : decode μ.2.1 (pc + 1) = .ok (.ifCond .lt off, 3)) (ht : ((pc + 1 : Nat) : Int) + off = (tgt : Int)) (kt : x < y → AW d μ Q tgt ls st h) (kf : ¬ (x < y) → AW d μ Q (pc + 4) ls st h) : AW d μ Q pc ls (vL y :: vL x :: st) h := by
  refine a_lcmp hd0 (a_if_lt hd ht (fun z => kt ?_) (fun z => kf ?_))
  · unfold lcmp at z
    split at z
    · omega
    · split at z <;> omega
  · unfold lcmp at z
    split at z
    · omega
    · split at z <;> omega
theorem a_lc_ge {x y off : Int} {tgt : Nat} (hd0 : decode μ.2.1 pc = .ok (.lcmp, 1)) (hd : decode μ.2.1 (pc + 1) = .ok (.ifCond .ge off, 3)) (ht : ((pc + 1 : Nat) : Int) + off = (tgt : Int)) (kt : y ≤ x → AW d μ Q tgt ls st h) (kf : ¬ (y ≤ x) → AW d μ Q (pc + 4) ls st h) : AW d μ Q pc ls (vL y :: vL x :: st) h := by
  refine a_lcmp hd0 (a_if_ge hd ht (fun z => kt ?_) (fun z => kf ?_))
  · unfold lcmp at z
    split at z
    · omega
    · split at z <;> omega
  · unfold lcmp at z
    split at z
    · omega
    · split at z <;> omega
theorem a_lc_gt {x y off : Int} {tgt : Nat} (hd0 : decode μ.2.1 pc = .ok (.lcmp, 1)) (hd : decode μ.2.1 (pc + 1) = .ok (.ifCond .gt off, 3)) (ht : ((pc + 1 : Nat) : Int) + off = (tgt : Int)) (kt : y < x → AW d μ Q tgt ls st h) (kf : ¬ (y < x) → AW d μ Q (pc + 4) ls st h) : AW d μ Q pc ls (vL y :: vL x :: st) h := by
  refine a_lcmp hd0 (a_if_gt hd ht (fun z => kt ?_) (fun z => kf ?_))
  · unfold lcmp at z
    split at z
    · omega
    · split at z <;> omega
  · unfold lcmp at z
    split at z
    · omega
    · split at z <;> omega
theorem a_lc_le {x y off : Int} {tgt : Nat} (hd0 : decode μ.2.1 pc = .ok (.lcmp, 1)) (hd : decode μ.2.1 (pc + 1) = .ok (.ifCond .le off, 3)) (ht : ((pc + 1 : Nat) : Int) + off = (tgt : Int)) (kt : x ≤ y → AW d μ Q tgt ls st h) (kf : ¬ (x ≤ y) → AW d μ Q (pc + 4) ls st h) : AW d μ Q pc ls (vL y :: vL x :: st) h := by
  refine a_lcmp hd0 (a_if_le hd ht (fun z => kt ?_) (fun z => kf ?_))
  · unfold lcmp at z
    split at z
    · omega
    · split at z <;> omega
  · unfold lcmp at z
    split at z
    · omega
    · split at z <;> omega

theorem a_getI' {idx o ci k : Nat} {l : List Nat} {kz x : Int} (hd : decode μ.2.1 pc = .ok (.getfield idx, 3)) (fl : FL μ.1.cls idx ci k) (sk : skl[o]? = some (5, ci, l)) (hk : l[k]? = some 0) (hz : (k : Int) = kz) (hv : h.1 o kz = x) (kk : AW d μ Q (pc + 3) ls (vI x :: st) h) : AW d μ Q pc ls (vR o (-1) :: st) h := by
  subst hv; exact a_getI hd fl sk hk hz kk
theorem a_getL' {idx o ci k : Nat} {l : List Nat} {kz x : Int} (hd : decode μ.2.1 pc = .ok (.getfield idx, 3)) (fl : FL μ.1.cls idx ci k) (sk : skl[o]? = some (5, ci, l)) (hk : l[k]? = some 1) (hz : (k : Int) = kz) (hv : h.2.1 o kz = x) (kk : AW d μ Q (pc + 3) ls (vL x :: st) h) : AW d μ Q pc ls (vR o (-1) :: st) h := by
  subst hv; exact a_getL hd fl sk hk hz kk
theorem a_iald' {o n : Nat} {l : List Nat} {i x : Int} (hd : decode μ.2.1 pc = .ok (.iaload, 1)) (sk : skl[o]? = some (0, n, l)) (hb : inb i n) (hv : h.1 o i = x) (kk : AW d μ Q (pc + 1) ls (vI x :: st) h) : AW d μ Q pc ls (vI i :: vR o (-1) :: st) h := by
  subst hv; exact a_iald hd (Or.inl ⟨rfl, l, sk⟩) hb (by rw [rdA_p]; exact kk)
theorem a_ialdR' {o n m0 : Nat} {r i x : Int} (hd : decode μ.2.1 pc = .ok (.iaload, 1)) (sk : skl[o]? = some (4, n, [m0])) (hr : r ≠ -1) (hb : inb i m0) (hv : h.2.2 o r i = x) (kk : AW d μ Q (pc + 1) ls (vI x :: st) h) : AW d μ Q pc ls (vI i :: vR o r :: st) h := by
  subst hv; exact a_iald hd (Or.inr ⟨rfl, hr, n, sk⟩) hb (by rw [rdA_r hr]; exact kk)
theorem a_bald' {o n : Nat} {l : List Nat} {i x : Int} (hd : decode μ.2.1 pc = .ok (.baload, 1)) (sk : skl[o]? = some (1, n, l)) (hb : inb i n) (hv : h.1 o i = x) (kk : AW d μ Q (pc + 1) ls (vI x :: st) h) : AW d μ Q pc ls (vI i :: vR o (-1) :: st) h := by
  subst hv; exact a_bald hd (Or.inl ⟨rfl, l, sk⟩) hb kk
theorem a_zald' {o n : Nat} {l : List Nat} {i x : Int} (hd : decode μ.2.1 pc = .ok (.baload, 1)) (sk : skl[o]? = some (2, n, l)) (hb : inb i n) (hv : h.1 o i = x) (kk : AW d μ Q (pc + 1) ls (vI x :: st) h) : AW d μ Q pc ls (vI i :: vR o (-1) :: st) h := by
  subst hv; exact a_zald hd (Or.inl ⟨rfl, l, sk⟩) hb kk
theorem a_lald' {o n : Nat} {l : List Nat} {i x : Int} (hd : decode μ.2.1 pc = .ok (.laload, 1)) (sk : skl[o]? = some (3, n, l)) (hb : inb i n) (hv : h.2.1 o i = x) (kk : AW d μ Q (pc + 1) ls (vL x :: st) h) : AW d μ Q pc ls (vI i :: vR o (-1) :: st) h := by
  subst hv; exact a_lald hd sk hb kk
theorem a_cast {ls2 : List (Option AV)} {st2 : List AV} (e1 : ls = ls2) (e2 : st = st2) (k : AW d μ Q pc ls2 st2 h) : AW d μ Q pc ls st h := by subst e1; subst e2; exact k
theorem a_alen' {t o n : Nat} {r x : Int} (hd : decode μ.2.1 pc = .ok (.arraylength, 1)) (ht : t < 3) (ha : isA t o r n) (hn : n < 2147483648) (hx : (n : Int) = x) (kk : AW d μ Q (pc + 1) ls (vI x :: st) h) : AW d μ Q pc ls (vR o r :: st) h := by
  subst hx; exact a_alen hd ht ha hn kk
def ML (own : String) (idx : Nat) (y : MethodName) (co : ByteArray) : Prop := Cond.methodLink own idx y ∈ TB ∧ Cond.static y ∈ TB ∧ Cond.initialized "java/lang/Math" ∈ TB ∧ Cond.code y co 2 (some .int) ∈ TB
theorem a_mmax' {idx : Nat} {x y : Int} (hd : decode μ.2.1 pc = .ok (.invokestatic idx, 3)) (ml : ML μ.1.cls idx Lib.Math.max.name Lib.Math.max.code) (h1 : 1 ≤ d) (hroom : (st.map (fun v => if isLong (some (some v)) then 2 else 1)).sum ≤ 8) (k : AW d μ Q (pc + 3) ls (vI (max x y) :: st) h) : AW d μ Q pc ls (vI y :: vI x :: st) h := by
  refine a_mmax hd ml.1 ml.2.1 ml.2.2.1 ml.2.2.2 h1 hroom ?_
  have e : (if x < y then y else x) = max x y := by
    split <;> omega
  rw [e]
  exact k
theorem a_mmin' {idx : Nat} {x y : Int} (hd : decode μ.2.1 pc = .ok (.invokestatic idx, 3)) (ml : ML μ.1.cls idx Lib.Math.min.name Lib.Math.min.code) (h1 : 1 ≤ d) (hroom : (st.map (fun v => if isLong (some (some v)) then 2 else 1)).sum ≤ 8) (k : AW d μ Q (pc + 3) ls (vI (min x y) :: st) h) : AW d μ Q pc ls (vI y :: vI x :: st) h := by
  refine a_mmin hd ml.1 ml.2.1 ml.2.2.1 ml.2.2.2 h1 hroom ?_
  have e : (if y < x then y else x) = min x y := by
    split <;> omega
  rw [e]
  exact k
def CPL (own : String) (idx : Nat) : Prop := Cond.methodLink own idx arraycopyName ∈ TB ∧ Cond.native arraycopyName ∈ TB ∧ Cond.static arraycopyName ∈ TB ∧ Cond.initialized "java/lang/System" ∈ TB
theorem sm0 (n : Nat) (hn : n < 2147483648) : (Int32.ofInt (n : Int)).toNatClampNeg = n := clampI (by omega) ⟨by omega, by omega⟩
theorem a_copyI {idx o1 o2 n1 n2 n : Nat} {l1 l2 : List Nat} {nz : Int} (hd : decode μ.2.1 pc = .ok (.invokestatic idx, 3)) (cp : CPL μ.1.cls idx) (sk1 : skl[o1]? = some (0, n1, l1)) (sk2 : skl[o2]? = some (0, n2, l2)) (hz : (n : Int) = nz) (h1 : n ≤ n1) (h2 : n ≤ n2) (hn : n < 2147483648) (hd1 : 1 ≤ d) (hroom : (st.map (fun v => if isLong (some (some v)) then 2 else 1)).sum ≤ 8) (kk : AW d μ Q (pc + 3) ls st (cpI h o1 o2 n)) : AW d μ Q pc ls (vI nz :: vI 0 :: vR o2 (-1) :: vI 0 :: vR o1 (-1) :: st) h := by
  intro p l e s m args below meth c H locs lsC ad dC dI cA A C hs
  subst hz
  have hv2 : vid o2 (-1) := okS_hd (okS_tl (okS_tl hs))
  have hv1 : vid o1 (-1) := okS_hd (okS_tl (okS_tl (okS_tl (okS_tl hs))))
  have he1 := ws_at (ad := ad) (cA := cA) (h := h) hv1
  have he2 := ws_at (ad := ad) (cA := cA) (h := h) hv2
  rw [enc_at sk1] at he1
  rw [enc_at sk2] at he2
  have hts := C.1.2.2.2.2.2.2.1
  have z0 : (Int32.ofInt 0).toNatClampNeg = 0 := rfl
  have e9 : nativeFrameWords "java/lang/System" "arraycopy" 5 = 7 := by decide +kernel
  have hnn : ¬ Int32.ofInt (n : Int) < 0 := fun z => by
    have z2 : Int32.ofInt (n : Int) < Int32.ofInt 0 := z
    rw [inI_lt ⟨by omega, by omega⟩ ⟨by decide, by decide⟩] at z2
    omega
  refine va_copyi C.1.1 C.1.2.1 (C.1.2.2.1.trans C.2.1.1.1.symm) C.1.2.2.2.2.2.1 (hts _ cp.1) (hts _ cp.2.1) (hts _ cp.2.2.1) (hts _ cp.2.2.2) C.1.2.2.2.2.2.2.2.1 C.2.2.1 C.2.2.2.1 C.2.2.2.2.1 _ _ 0 0 he1 he2 rfl rfl rfl (by decide) (by decide) hnn (by rw [z0, sm0 n hn]; omega) (by rw [z0, sm0 n hn]; omega) (fun _ _ => rfl) (by show 1 ≤ d; omega) (by have := cat_st (ad := ad) hroom; show _ + (nativeFrameWords "java/lang/System" "arraycopy" 5 + 11) ≤ 60 * d; rw [e9]; omega) hd (fun H1 locs1 gP gD gS => ?_)
  rw [z0, sm0 n hn] at gP gD
  have hcp : va_cpy (fun k : Nat => Int32.ofInt (h.1 o1 (k : Int))) (fun k : Nat => Int32.ofInt (h.1 o2 (k : Int))) 0 0 n = (fun k : Nat => Int32.ofInt (if 0 ≤ (k : Int) ∧ (k : Int) < (n : Int) then h.1 o1 (k : Int) else h.1 o2 (k : Int))) := by
    funext k
    unfold va_cpy
    by_cases hk : k < n
    · rw [if_pos ⟨Nat.zero_le _, by omega⟩, if_pos ⟨by omega, by omega⟩, Nat.zero_add, Nat.sub_zero]
    · rw [if_neg (fun z => hk (by omega)), if_neg (fun z => hk (by omega))]
  rw [hcp] at gP gD
  have hset := ws_set (ad := ad) (cA := cA) (h := h) (h' := cpI h o1 o2 n) hv2 (e := .inl (cA 0, n2, .inl (fun k : Nat => Int32.ofInt (if 0 ≤ (k : Int) ∧ (k : Int) < (n : Int) then h.1 o1 (k : Int) else h.1 o2 (k : Int))))) (by
    rw [enc_at sk2]
    simp [encP, cpI]) (enc_cpI)
  rw [hset] at gP gD
  exact kk p l e s m args below meth c H1 locs1 lsC ad dC dI cA A ⟨C.1, C.2.1, gP, gD, gS, ok_cpI C.2.2.2.2.2⟩ (okS_tl (okS_tl (okS_tl (okS_tl (okS_tl hs)))))
theorem a_copyL {idx o1 o2 n1 n2 n : Nat} {l1 l2 : List Nat} {nz : Int} (hd : decode μ.2.1 pc = .ok (.invokestatic idx, 3)) (cp : CPL μ.1.cls idx) (sk1 : skl[o1]? = some (3, n1, l1)) (sk2 : skl[o2]? = some (3, n2, l2)) (hz : (n : Int) = nz) (h1 : n ≤ n1) (h2 : n ≤ n2) (hn : n < 2147483648) (hd1 : 1 ≤ d) (hroom : (st.map (fun v => if isLong (some (some v)) then 2 else 1)).sum ≤ 8) (kk : AW d μ Q (pc + 3) ls st (cpL h o1 o2 n)) : AW d μ Q pc ls (vI nz :: vI 0 :: vR o2 (-1) :: vI 0 :: vR o1 (-1) :: st) h := by
  intro p l e s m args below meth c H locs lsC ad dC dI cA A C hs
  subst hz
  have hv2 : vid o2 (-1) := okS_hd (okS_tl (okS_tl hs))
  have hv1 : vid o1 (-1) := okS_hd (okS_tl (okS_tl (okS_tl (okS_tl hs))))
  have he1 := ws_at (ad := ad) (cA := cA) (h := h) hv1
  have he2 := ws_at (ad := ad) (cA := cA) (h := h) hv2
  rw [enc_at sk1] at he1
  rw [enc_at sk2] at he2
  have hts := C.1.2.2.2.2.2.2.1
  have z0 : (Int32.ofInt 0).toNatClampNeg = 0 := rfl
  have e9 : nativeFrameWords "java/lang/System" "arraycopy" 5 = 7 := by decide +kernel
  have hnn : ¬ Int32.ofInt (n : Int) < 0 := fun z => by
    have z2 : Int32.ofInt (n : Int) < Int32.ofInt 0 := z
    rw [inI_lt ⟨by omega, by omega⟩ ⟨by decide, by decide⟩] at z2
    omega
  refine va_copyl C.1.1 C.1.2.1 (C.1.2.2.1.trans C.2.1.1.1.symm) C.1.2.2.2.2.2.1 (hts _ cp.1) (hts _ cp.2.1) (hts _ cp.2.2.1) (hts _ cp.2.2.2) C.1.2.2.2.2.2.2.2.1 C.2.2.1 C.2.2.2.1 C.2.2.2.2.1 _ _ 3 3 he1 he2 rfl rfl rfl (by decide) (by decide) hnn (by rw [z0, sm0 n hn]; omega) (by rw [z0, sm0 n hn]; omega) (fun _ _ => rfl) (by show 1 ≤ d; omega) (by have := cat_st (ad := ad) hroom; show _ + (nativeFrameWords "java/lang/System" "arraycopy" 5 + 11) ≤ 60 * d; rw [e9]; omega) hd (fun H1 locs1 gP gD gS => ?_)
  rw [z0, sm0 n hn] at gP gD
  have hcp : va_cpy (fun k : Nat => Int64.ofInt (h.2.1 o1 (k : Int))) (fun k : Nat => Int64.ofInt (h.2.1 o2 (k : Int))) 0 0 n = (fun k : Nat => Int64.ofInt (if 0 ≤ (k : Int) ∧ (k : Int) < (n : Int) then h.2.1 o1 (k : Int) else h.2.1 o2 (k : Int))) := by
    funext k
    unfold va_cpy
    by_cases hk : k < n
    · rw [if_pos ⟨Nat.zero_le _, by omega⟩, if_pos ⟨by omega, by omega⟩, Nat.zero_add, Nat.sub_zero]
    · rw [if_neg (fun z => hk (by omega)), if_neg (fun z => hk (by omega))]
  rw [hcp] at gP gD
  have hset := ws_set (ad := ad) (cA := cA) (h := h) (h' := cpL h o1 o2 n) hv2 (e := .inl (cA 3, n2, .inr (.inl (fun k : Nat => Int64.ofInt (if 0 ≤ (k : Int) ∧ (k : Int) < (n : Int) then h.2.1 o1 (k : Int) else h.2.1 o2 (k : Int)))))) (by
    rw [enc_at sk2]
    simp [encP, cpL]) (enc_cpL)
  rw [hset] at gP gD
  exact kk p l e s m args below meth c H1 locs1 lsC ad dC dI cA A ⟨C.1, C.2.1, gP, gD, gS, ok_cpL C.2.2.2.2.2⟩ (okS_tl (okS_tl (okS_tl (okS_tl (okS_tl hs)))))
end AWE
/-- loops: by a number that falls -/
theorem wf_ind {α : Type} (P : α → Prop) (m : α → Nat) (step : ∀ x, (∀ y, m y < m x → P y) → P x) : ∀ x, P x := by
  have key : ∀ n x, m x < n → P x := by
    intro n
    induction n with
    | zero => intro x h; omega
    | succ n ih => intro x h; exact step x (fun y hy => ih y (by omega))
  exact fun x => key (m x + 1) x (by omega)

/-! the words -/
def TB : List Cond := lw_tbl.filter goodWord
theorem tb_mem {i : Nat} {w : Cond} (h : lw_tbl[i]? = some w) (hg : goodWord w = true) : w ∈ TB := List.mem_filter.mpr ⟨List.mem_of_getElem? h, hg⟩
theorem tb_all {ws : List Cond} (ps : List Nat) (hp : ws = ps.filterMap (fun i => lw_tbl[i]?)) (hg : ws.all goodWord = true) : ∀ w ∈ ws, w ∈ TB := by
  intro w hw
  have h1 := List.all_eq_true.mp hg w hw
  rw [hp] at hw
  obtain ⟨i, -, hi⟩ := List.mem_filterMap.mp hw
  exact tb_mem hi h1
theorem tb_good {w : Cond} (h : w ∈ TB) : w ∈ TB ∧ ((w.onTables && w.keeps) = true ∨ ∃ ty, w = .arrayClass ty) := ⟨h, good_of_word (List.mem_filter.mp h).2⟩
def ClOk (ci : Nat) : Prop := ∃ (C : String) (T : u_T) (N : Nat), vwCl[ci]? = some (C, T, N) ∧ (∀ w ∈ u_ws C T N, w ∈ TB) ∧ (∃ ty0 : Nat → FieldType, ∀ k, k < N → parseFieldDescriptor (T k).2.2.1 = some (ty0 k)) ∧ ∀ a, a < N → ∀ b, b < N → a ≠ b → (T a).2.1 ≠ (T b).2.1
/-- own's pool entry idx is field k of class ci -/
def FL (own : String) (idx ci k : Nat) : Prop := ClOk ci ∧ ∃ q : vw_C, vwCl[ci]? = some q ∧ k < q.2.2 ∧ Cond.fieldLink own idx (q.2.1 k).1 (q.2.1 k).2.1 (q.2.1 k).2.2.1 ∈ TB
def FP (own : String) (idx ci k : Nat) (ty : FieldType) : Prop := FL own idx ci k ∧ ∃ q : vw_C, vwCl[ci]? = some q ∧ (q.2.1 k).2.2.2 = false ∧ parseFieldDescriptor (q.2.1 k).2.2.1 = some ty
/-- own's pool entry idx is the method μ, of n parameters, called on an object of the class ci -/
def LV (own : String) (idx : Nat) (μ : MethodName × ByteArray × Nat × Option FieldType) (n ci : Nat) : Prop :=
  (Cond.methodLink own idx μ.1 ∈ TB ∧ Cond.instanceMethod μ.1 ∈ TB ∧ Cond.selects μ.1.cls μ.1 μ.1 ∈ TB ∧ Cond.initialized μ.1.cls ∈ TB ∧ Cond.code μ.1 μ.2.1 μ.2.2.1 μ.2.2.2 ∈ TB) ∧ (μ.1.cls ≠ "java/lang/invoke/MethodHandle" ∧ μ.1.cls ≠ "java/lang/invoke/VarHandle" ∧ (parseMethodDescriptor μ.1.desc).map (fun d => d.parameters.length) = some n) ∧ μ.2.2.1 ≤ 40 ∧ ∃ q : vw_C, vwCl[ci]? = some q ∧ q.1 = μ.1.cls
def LSt (own : String) (idx : Nat) (μ : MethodName × ByteArray × Nat × Option FieldType) (n : Nat) : Prop :=
  (Cond.methodLink own idx μ.1 ∈ TB ∧ Cond.static μ.1 ∈ TB ∧ Cond.initialized μ.1.cls ∈ TB ∧ Cond.code μ.1 μ.2.1 μ.2.2.1 μ.2.2.2 ∈ TB) ∧ (μ.1.cls ≠ "java/lang/invoke/MethodHandle" ∧ μ.1.cls ≠ "java/lang/invoke/VarHandle" ∧ (parseMethodDescriptor μ.1.desc).map (fun d => d.parameters.length) = some n) ∧ μ.2.2.1 ≤ 40
/-! the abstract machine: numbers are Int (in their range), references are (object, row) -/
abbrev AV : Type := Int ⊕ Int ⊕ (Nat × Int)
abbrev AH : Type := (Nat → Int → Int) × (Nat → Int → Int) × (Nat → Int → Int → Int)
abbrev vI (x : Int) : AV := Sum.inl x
abbrev vL (x : Int) : AV := Sum.inr (Sum.inl x)
abbrev vR (o : Nat) (r : Int) : AV := Sum.inr (Sum.inr (o, r))
def inI (x : Int) : Prop := -2147483648 ≤ x ∧ x < 2147483648
def inL (x : Int) : Prop := -9223372036854775808 ≤ x ∧ x < 9223372036854775808
def inb (i : Int) (n : Nat) : Prop := 0 ≤ i ∧ i < (n : Int)
def cv (ad : Nat → Int → Nat) : AV → Value
  | .inl x => .int (Int32.ofInt x)
  | .inr (.inl x) => .long (Int64.ofInt x)
  | .inr (.inr q) => .ref (ad q.1 q.2)
def Okv : AV → Prop
  | .inl x => inI x
  | .inr (.inl x) => inL x
  | .inr (.inr q) => vid q.1 q.2
def OkS (st : List AV) : Prop := ∀ v ∈ st, Okv v
def OkL (ls : List (Option AV)) : Prop := ∀ v, some v ∈ ls → Okv v
def OkH (h : AH) : Prop := (∀ o k, inI (h.1 o k)) ∧ (∀ o k, inL (h.2.1 o k)) ∧ ∀ o r k, inI (h.2.2 o r k)
def wI (h : AH) (o : Nat) (k v : Int) : AH := (fun o' k' => if o' = o ∧ k' = k then v else h.1 o' k', h.2.1, h.2.2)
def wL (h : AH) (o : Nat) (k v : Int) : AH := (h.1, fun o' k' => if o' = o ∧ k' = k then v else h.2.1 o' k', h.2.2)
def wR (h : AH) (o : Nat) (r k v : Int) : AH := (h.1, h.2.1, fun o' r' k' => if o' = o ∧ r' = r ∧ k' = k then v else h.2.2 o' r' k')
def rdA (h : AH) (o : Nat) (r k : Int) : Int := if r = -1 then h.1 o k else h.2.2 o r k
/-! numbers -/
theorem okI {x : Int} (h : inI x) : (Int32.ofInt x).toInt = x := Int32.toInt_ofInt_of_le (by have := h.1; omega) (by have := h.2; omega)
theorem okL {x : Int} (h : inL x) : (Int64.ofInt x).toInt = x := Int64.toInt_ofInt_of_le (by have := h.1; omega) (by have := h.2; omega)
theorem inI_32 (x : Int32) : inI x.toInt := ⟨by have := x.le_toInt; omega, by have := x.toInt_lt; omega⟩
theorem inL_64 (x : Int64) : inL x.toInt := ⟨by have := x.le_toInt; omega, by have := x.toInt_lt; omega⟩
theorem inI_eq {x y : Int} (hx : inI x) (hy : inI y) : (Int32.ofInt x = Int32.ofInt y) ↔ x = y := ⟨fun h => by rw [← okI hx, ← okI hy, h], fun h => by rw [h]⟩
theorem inI_lt {x y : Int} (hx : inI x) (hy : inI y) : (Int32.ofInt x < Int32.ofInt y) ↔ x < y := by rw [Int32.lt_iff_toInt_lt, okI hx, okI hy]
theorem inI_le {x y : Int} (hx : inI x) (hy : inI y) : (Int32.ofInt x ≤ Int32.ofInt y) ↔ x ≤ y := by rw [Int32.le_iff_toInt_le, okI hx, okI hy]
theorem inL_eq {x y : Int} (hx : inL x) (hy : inL y) : (Int64.ofInt x = Int64.ofInt y) ↔ x = y := ⟨fun h => by rw [← okL hx, ← okL hy, h], fun h => by rw [h]⟩
theorem inL_lt {x y : Int} (hx : inL x) (hy : inL y) : (Int64.ofInt x < Int64.ofInt y) ↔ x < y := by rw [Int64.lt_iff_toInt_lt, okL hx, okL hy]
theorem clampI {x : Int} (h0 : 0 ≤ x) (h : inI x) : (Int32.ofInt x).toNatClampNeg = x.toNat := Int32.toNatClampNeg_ofInt_of_le (by omega) (by have := h.2; omega)
theorem inb_vp {i : Int} {n : Nat} (h : inb i n) (hi : inI i) : vp_in (Int32.ofInt i) n := by
  intro q
  rcases q with q | q
  · have q2 : Int32.ofInt i < Int32.ofInt 0 := q
    rw [inI_lt hi ⟨by decide, by decide⟩] at q2
    have := h.1
    omega
  · rw [clampI h.1 hi] at q
    have := h.1
    have := h.2
    omega
/-! operations whose result is taken off the machine's own -/
def w32 (x : Int) : Int := (Int32.ofInt x).toInt
def w64 (x : Int) : Int := (Int64.ofInt x).toInt
def iand (x y : Int) : Int := (Int32.ofInt x &&& Int32.ofInt y).toInt
def ior (x y : Int) : Int := (Int32.ofInt x ||| Int32.ofInt y).toInt
def ixor (x y : Int) : Int := (Int32.ofInt x ^^^ Int32.ofInt y).toInt
def ishl (x y : Int) : Int := (Int32.ofInt x <<< (Int32.ofInt y &&& 31)).toInt
def ishr (x y : Int) : Int := (Int32.ofInt x >>> (Int32.ofInt y &&& 31)).toInt
def iushr (x y : Int) : Int := ((Int32.ofInt x).toUInt32 >>> ((Int32.ofInt y).toUInt32 &&& Int32.toUInt32 31)).toInt32.toInt
def land (x y : Int) : Int := (Int64.ofInt x &&& Int64.ofInt y).toInt
def lor (x y : Int) : Int := (Int64.ofInt x ||| Int64.ofInt y).toInt
def lxor (x y : Int) : Int := (Int64.ofInt x ^^^ Int64.ofInt y).toInt
def lshl (x y : Int) : Int := (Int64.ofInt x <<< ((Int32.ofInt y).toInt64 &&& 63)).toInt
def lshr (x y : Int) : Int := (Int64.ofInt x >>> ((Int32.ofInt y).toInt64 &&& 63)).toInt
def lushr (x y : Int) : Int := ((Int64.ofInt x).toUInt64 >>> ((Int32.ofInt y).toInt64.toUInt64 &&& Int64.toUInt64 63)).toInt64.toInt
def l2i (x : Int) : Int := (Int32.ofInt x).toInt
def i2b (x : Int) : Int := ((Int32.ofInt x).toInt8.toInt32).toInt
def i2c (x : Int) : Int := (((Int32.ofInt x).toUInt32 % 65536).toInt32).toInt
def lcmp (x y : Int) : Int := if y < x then 1 else if x = y then 0 else -1
/-! the world -/
def fldV (ad : Nat → Int → Nat) (h : AH) (o k : Nat) (f : Nat) : Value := match f with
  | 0 => .int (Int32.ofInt (h.1 o k))
  | 1 => .long (Int64.ofInt (h.2.1 o k))
  | j + 2 => .ref (ad j (-1))
def rowLen (o : Nat) : Nat := match skl[o]? with
  | some (_, _, l) => l.headD 0
  | none => 0
def encP (ad : Nat → Int → Nat) (cA : Nat → ClassId) (h : AH) (o : Nat) : Nat × Nat × List Nat → va_E
  | (0, n, _) => .inl (cA 0, n, .inl (fun k => Int32.ofInt (h.1 o k)))
  | (1, n, _) => .inl (cA 1, n, .inl (fun k => Int32.ofInt (h.1 o k)))
  | (2, n, _) => .inl (cA 2, n, .inl (fun k => Int32.ofInt (h.1 o k)))
  | (3, n, _) => .inl (cA 3, n, .inr (.inl (fun k => Int64.ofInt (h.2.1 o k))))
  | (4, n, _) => .inl (cA 4, n, .inr (.inr (.inr (.inr (fun k => some (ad o (k : Int)))))))
  | (_, n, l) => .inr (n, l.mapIdx (fun k f => fldV ad h o k f))
def encE (ad : Nat → Int → Nat) (cA : Nat → ClassId) (h : AH) (o : Nat) (r : Int) : va_E :=
  if r = -1 then encP ad cA h o (skl.getD o (0, 0, [])) else .inl (cA 0, rowLen o, .inl (fun k => Int32.ofInt (h.2.2 o r k)))
def wsOf (ad : Nat → Int → Nat) (cA : Nat → ClassId) (h : AH) : va_W := cells.map (fun q => (ad q.1 q.2, encE ad cA h q.1 q.2))
def tysOf (cA : Nat → ClassId) : List (ClassId × FieldType) := [(cA 0, .int), (cA 1, .byte), (cA 2, .boolean), (cA 3, .long), (cA 4, .array .int)]
theorem ws_at {ad : Nat → Int → Nat} {cA : Nat → ClassId} {h : AH} {o : Nat} {r : Int} (hv : vid o r) : (wsOf ad cA h)[posOf o r]? = some (ad o r, encE ad cA h o r) := by
  unfold wsOf
  rw [List.getElem?_map, hv]
  rfl
theorem ws_set {ad : Nat → Int → Nat} {cA : Nat → ClassId} {h h' : AH} {o : Nat} {r : Int} (hv : vid o r) {e : va_E} (he : encE ad cA h' o r = e) (hne : ∀ o' r', (o', r') ≠ (o, r) → encE ad cA h' o' r' = encE ad cA h o' r') : (wsOf ad cA h).set (posOf o r) (ad o r, e) = wsOf ad cA h' := by
  apply List.ext_getElem?
  intro j
  have hlt : posOf o r < (wsOf ad cA h).length := (List.getElem?_eq_some_iff.mp (ws_at (ad := ad) (cA := cA) (h := h) hv)).1
  by_cases hj : posOf o r = j
  · subst hj
    rw [List.getElem?_set_self hlt, ws_at hv, he]
  · rw [List.getElem?_set_ne hj]
    unfold wsOf
    rw [List.getElem?_map, List.getElem?_map]
    cases hc : cells[j]? with
    | none => rfl
    | some q =>
      have hq : (q.1, q.2) ≠ (o, r) := fun z => hj (by rw [← cells_pos hc]; injection z with z1 z2; rw [z1, z2])
      exact congrArg (fun z => some (ad q.1 q.2, z)) (hne q.1 q.2 hq).symm
theorem encP_congr {ad : Nat → Int → Nat} {cA : Nat → ClassId} {h h' : AH} {o : Nat} (h1 : ∀ k, h'.1 o k = h.1 o k) (h2 : ∀ k, h'.2.1 o k = h.2.1 o k) (q : Nat × Nat × List Nat) : encP ad cA h' o q = encP ad cA h o q := by
  have hf : ∀ k f, fldV ad h' o k f = fldV ad h o k f := fun k f => by
    match f with
    | 0 => simp only [fldV, h1]
    | 1 => simp only [fldV, h2]
    | j + 2 => rfl
  unfold encP
  split <;> simp only [h1, h2, hf]
theorem enc_wI {ad : Nat → Int → Nat} {cA : Nat → ClassId} {h : AH} {o : Nat} {k v : Int} : ∀ o' r', (o', r') ≠ (o, (-1 : Int)) → encE ad cA (wI h o k v) o' r' = encE ad cA h o' r' := by
  intro o' r' hne
  unfold encE
  by_cases hr : r' = -1
  · subst hr
    rw [if_pos rfl, if_pos rfl]
    have ho : o' ≠ o := fun z => hne (by rw [z])
    exact encP_congr (h := h) (h' := wI h o k v) (fun k' => by simp [wI, ho]) (fun _ => rfl) _
  · rw [if_neg hr, if_neg hr]
    rfl
theorem enc_wL {ad : Nat → Int → Nat} {cA : Nat → ClassId} {h : AH} {o : Nat} {k v : Int} : ∀ o' r', (o', r') ≠ (o, (-1 : Int)) → encE ad cA (wL h o k v) o' r' = encE ad cA h o' r' := by
  intro o' r' hne
  unfold encE
  by_cases hr : r' = -1
  · subst hr
    rw [if_pos rfl, if_pos rfl]
    have ho : o' ≠ o := fun z => hne (by rw [z])
    exact encP_congr (h := h) (h' := wL h o k v) (fun _ => rfl) (fun k' => by simp [wL, ho]) _
  · rw [if_neg hr, if_neg hr]
    rfl
theorem enc_wR {ad : Nat → Int → Nat} {cA : Nat → ClassId} {h : AH} {o : Nat} {r k v : Int} (hr0 : r ≠ -1) : ∀ o' r', (o', r') ≠ (o, r) → encE ad cA (wR h o r k v) o' r' = encE ad cA h o' r' := by
  intro o' r' hne
  unfold encE
  by_cases hr : r' = -1
  · subst hr
    rw [if_pos rfl, if_pos rfl]
    exact encP_congr (h := h) (h' := wR h o r k v) (fun _ => rfl) (fun _ => rfl) _
  · rw [if_neg hr, if_neg hr]
    have ho : ¬ (o' = o ∧ r' = r) := fun z => hne (by rw [z.1, z.2])
    have : ∀ k' : Int, (wR h o r k v).2.2 o' r' k' = h.2.2 o' r' k' := fun k' => by
      show (if o' = o ∧ r' = r ∧ k' = k then v else h.2.2 o' r' k') = _
      rw [if_neg (fun z => ho ⟨z.1, z.2.1⟩)]
    simp only [this]
theorem enc_at {ad : Nat → Int → Nat} {cA : Nat → ClassId} {h : AH} {o : Nat} {q : Nat × Nat × List Nat} (hq : skl[o]? = some q) : encE ad cA h o (-1) = encP ad cA h o q := by
  unfold encE
  rw [if_pos rfl, List.getD_eq_getElem?_getD, hq]
  rfl
theorem enc_row {ad : Nat → Int → Nat} {cA : Nat → ClassId} {h : AH} {o n m : Nat} {r : Int} (hq : skl[o]? = some (4, n, [m])) (hr : r ≠ -1) : encE ad cA h o r = .inl (cA 0, m, .inl (fun k => Int32.ofInt (h.2.2 o r k))) := by
  unfold encE rowLen
  rw [if_neg hr, hq]
  rfl
theorem ok_wI {h : AH} {o : Nat} {k v : Int} (hh : OkH h) (hv : inI v) : OkH (wI h o k v) := ⟨fun o' k' => by
  show inI (if _ then _ else _)
  split
  · exact hv
  · exact hh.1 o' k', hh.2.1, hh.2.2⟩
theorem ok_wL {h : AH} {o : Nat} {k v : Int} (hh : OkH h) (hv : inL v) : OkH (wL h o k v) := ⟨hh.1, fun o' k' => by
  show inL (if _ then _ else _)
  split
  · exact hv
  · exact hh.2.1 o' k', hh.2.2⟩
theorem ok_wR {h : AH} {o : Nat} {r k v : Int} (hh : OkH h) (hv : inI v) : OkH (wR h o r k v) := ⟨hh.1, hh.2.1, fun o' r' k' => by
  show inI (if _ then _ else _)
  split
  · exact hv
  · exact hh.2.2 o' r' k'⟩
theorem okS_cons {v : AV} {st : List AV} (hv : Okv v) (hs : OkS st) : OkS (v :: st) := fun w hw => by
  rcases List.mem_cons.mp hw with rfl | h
  · exact hv
  · exact hs w h
theorem okS_hd {v : AV} {st : List AV} (h : OkS (v :: st)) : Okv v := h v List.mem_cons_self
theorem okS_tl {v : AV} {st : List AV} (h : OkS (v :: st)) : OkS st := fun w hw => h w (List.mem_cons_of_mem _ hw)
/-! the locals -/
def LSok (ad : Nat → Int → Nat) (lsC : Array Slot) (nL : Nat) (ls : List (Option AV)) : Prop := lsC.size = nL ∧ lv_wf lsC ∧ ls.length = nL ∧ ∀ (i : Nat) (v : AV), ls[i]? = some (some v) → lsC[i]? = some (.val (cv ad v))
def allL (ad : Nat → Int → Nat) (ls : List (Option AV)) : List (Nat × Value) := ls.zipIdx.filterMap (fun q => q.1.map (fun v => (q.2, cv ad v)))
theorem mem_allL {ad : Nat → Int → Nat} {ls : List (Option AV)} {i : Nat} {w : Value} : (i, w) ∈ allL ad ls ↔ ∃ v, ls[i]? = some (some v) ∧ w = cv ad v := by
  unfold allL
  rw [List.mem_filterMap]
  constructor
  · rintro ⟨⟨a, j⟩, h1, h2⟩
    have h3 := List.mem_zipIdx_iff_getElem?.mp h1
    cases a with
    | none => cases h2
    | some v =>
      cases h2
      exact ⟨v, h3, rfl⟩
  · rintro ⟨v, h1, rfl⟩
    exact ⟨(some v, i), List.mem_zipIdx_iff_getElem?.mpr h1, rfl⟩
theorem LSok.has {ad : Nat → Int → Nat} {lsC : Array Slot} {nL : Nat} {ls : List (Option AV)} (h : LSok ad lsC nL ls) : lv_has lsC nL (allL ad ls) := ⟨h.1, h.2.1, fun q hq => by
  obtain ⟨v, h1, h2⟩ := mem_allL.mp (show (q.1, q.2) ∈ _ from hq)
  rw [h2]
  exact h.2.2.2 q.1 v h1⟩
def isLong : Option (Option AV) → Bool
  | some (some (.inr (.inl _))) => true
  | _ => false
/-- a long one place ahead of i is gone -/
def kill (ls : List (Option AV)) (i : Nat) : List (Option AV) := if i ≠ 0 ∧ isLong ls[i - 1]? = true then ls.set (i - 1) none else ls
def set1 (ls : List (Option AV)) (i : Nat) (v : AV) : List (Option AV) := (kill ls i).set i (some v)
def set2 (ls : List (Option AV)) (i : Nat) (v : AV) : List (Option AV) := ((kill ls i).set (i + 1) none).set i (some v)
theorem kill_get {ls : List (Option AV)} {i j : Nat} {w : AV} (h : (kill ls i)[j]? = some (some w)) : ls[j]? = some (some w) ∧ ¬ (j + 1 = i ∧ isLong (some (some w)) = true) := by
  unfold kill at h
  by_cases hl : i ≠ 0 ∧ isLong ls[i - 1]? = true
  · rw [if_pos hl] at h
    by_cases hj : i - 1 = j
    · subst hj
      rw [List.getElem?_set] at h
      simp at h
    · rw [List.getElem?_set_ne hj] at h
      exact ⟨h, fun z => hj (by omega)⟩
  · rw [if_neg hl] at h
    refine ⟨h, fun z => hl ⟨by omega, ?_⟩⟩
    have : i - 1 = j := by omega
    rw [this, h]
    exact z.2
theorem kill_len {ls : List (Option AV)} {i : Nat} : (kill ls i).length = ls.length := by
  unfold kill
  split <;> simp
theorem long_cat {ad : Nat → Int → Nat} {w : AV} (h : ¬ isLong (some (some w)) = true) : (cv ad w).category = 1 := by
  match w, h with
  | .inl _, _ => rfl
  | .inr (.inl _), h => exact absurd rfl h
  | .inr (.inr _), _ => rfl
theorem ls_set1 {ad : Nat → Int → Nat} {lsC : Array Slot} {nL i : Nat} {ls : List (Option AV)} {v : AV} (hL : ls.length = nL) (h : lv_has lsC nL ((i, cv ad v) :: (allL ad ls).filter (fun q => !(q.1 == i) && !(q.1 + 1 == i && q.2.category == 2)))) : LSok ad lsC nL (set1 ls i v) := by
  refine ⟨h.1, h.2.1, by unfold set1; rw [List.length_set, kill_len, hL], fun j w hj => ?_⟩
  unfold set1 at hj
  by_cases hji : i = j
  · subst hji
    have hw : w = v := by
      rw [List.getElem?_set] at hj
      simp only [if_true] at hj
      split at hj
      · exact (Option.some.inj (Option.some.inj hj)).symm
      · cases hj
    rw [hw]
    exact h.2.2 (i, cv ad v) List.mem_cons_self
  · rw [List.getElem?_set_ne hji] at hj
    obtain ⟨h1, h2⟩ := kill_get hj
    refine h.2.2 (j, cv ad w) (List.mem_cons_of_mem _ (List.mem_filter.mpr ⟨mem_allL.mpr ⟨w, h1, rfl⟩, ?_⟩))
    simp only [Bool.and_eq_true, Bool.not_eq_true', beq_eq_false_iff_ne, Bool.and_eq_false_iff, ne_eq]
    refine ⟨fun z => hji z.symm, ?_⟩
    by_cases hz : j + 1 = i
    · exact Or.inr (fun c => by
        have := long_cat (ad := ad) (fun z => h2 ⟨hz, z⟩)
        omega)
    · exact Or.inl hz
theorem ls_set2 {ad : Nat → Int → Nat} {lsC : Array Slot} {nL i : Nat} {ls : List (Option AV)} {v : AV} (hL : ls.length = nL) (h : lv_has lsC nL ((i, cv ad v) :: (allL ad ls).filter (fun q => !(q.1 == i) && (!(q.1 == i + 1) && !(q.1 + 1 == i && q.2.category == 2))))) : LSok ad lsC nL (set2 ls i v) := by
  refine ⟨h.1, h.2.1, by unfold set2; rw [List.length_set, List.length_set, kill_len, hL], fun j w hj => ?_⟩
  unfold set2 at hj
  by_cases hji : i = j
  · subst hji
    have hw : w = v := by
      rw [List.getElem?_set] at hj
      simp only [if_true] at hj
      split at hj
      · exact (Option.some.inj (Option.some.inj hj)).symm
      · cases hj
    rw [hw]
    exact h.2.2 (i, cv ad v) List.mem_cons_self
  · rw [List.getElem?_set_ne hji] at hj
    have hj1 : i + 1 ≠ j := fun z => by
      subst z
      rw [List.getElem?_set] at hj
      simp at hj
    rw [List.getElem?_set_ne hj1] at hj
    obtain ⟨h1, h2⟩ := kill_get hj
    refine h.2.2 (j, cv ad w) (List.mem_cons_of_mem _ (List.mem_filter.mpr ⟨mem_allL.mpr ⟨w, h1, rfl⟩, ?_⟩))
    simp only [Bool.and_eq_true, Bool.not_eq_true', beq_eq_false_iff_ne, Bool.and_eq_false_iff, ne_eq]
    refine ⟨fun z => hji z.symm, fun z => hj1 z.symm, ?_⟩
    by_cases hz : j + 1 = i
    · exact Or.inr (fun c => by
        have := long_cat (ad := ad) (fun z => h2 ⟨hz, z⟩)
        omega)
    · exact Or.inl hz
theorem kill_ok {ls : List (Option AV)} {i : Nat} (h : OkL ls) : OkL (kill ls i) := by
  unfold kill
  split
  · intro v hv
    rcases List.mem_or_eq_of_mem_set hv with z | z
    · exact h v z
    · cases z
  · exact h
theorem okL_set1 {ls : List (Option AV)} {i : Nat} {v : AV} (h : OkL ls) (hv : Okv v) : OkL (set1 ls i v) := by
  intro w hw
  rcases List.mem_or_eq_of_mem_set hw with z | z
  · exact kill_ok h w z
  · cases z
    exact hv
theorem okL_set2 {ls : List (Option AV)} {i : Nat} {v : AV} (h : OkL ls) (hv : Okv v) : OkL (set2 ls i v) := by
  intro w hw
  rcases List.mem_or_eq_of_mem_set hw with z | z
  · rcases List.mem_or_eq_of_mem_set z with y | y
    · exact kill_ok h w y
    · cases y
  · cases z
    exact hv
/-! the judgement -/
abbrev Mi : Type := MethodName × ByteArray × Nat × Option FieldType
def rmA (d : Nat) : Room := { frames := d, cells := 0, slots := 0, locals := 60 * d }
def BP (ad : Nat → Int → Nat) (dC : Nat → ClassId) (dI : Nat → Nat → Nat) (cA : Nat → ClassId) (A : Nat → Prop) (h : AH) (t : State) : Prop :=
  va_P (dC, dI) vwCl (wsOf ad cA h) t.heap ∧ va_K (dC, dI) vwCl (tysOf cA) t ∧ va_D A (wsOf ad cA h) ∧ OkH h
def QA (ad : Nat → Int → Nat) (dC : Nat → ClassId) (dI : Nat → Nat → Nat) (cA : Nat → ClassId) (A : Nat → Prop) (ret : Option FieldType) (Q : Int → AH → Prop) : Array Value → State → Outcome → State → Prop := match ret with
  | none => va_Qv (S := AH) (fun h => Q 0 h) (BP ad dC dI cA A) A
  | some .long => va_Ql (S := AH) (fun r h => Q r.toInt h) (BP ad dC dI cA A) A
  | some _ => va_Qi (S := AH) (fun r h => Q r.toInt h) (BP ad dC dI cA A) A
/-! the one text that the class reads: the names of the law's factors; it lies where nothing is written -/
def lenT : List Nat := [9]
def bytT : List (List Int32) := [[107, 105, 111, 112, 108, 102, 103, 97, 98]]
def SC (A : Nat → Prop) (U : State) : Prop := ∃ adK adV : Nat → Nat, vk_R "LetterHeaps$LawReader" 102 "kioplfgab" (adK 0) U ∧ vk_S 1 lenT bytT adK adV A U U.heap ∧ va_Z "java/lang/String" "COMPACT_STRINGS" "Z" (.int 1) A U U.heap
theorem SC.to {A B : Nat → Prop} {s U : State} {H : Heap} {locs : List Loc} (h : SC A s) (hS : va_S A s.heap H locs) (hB : ∀ q, B q → A q) (hU : U.heap = H) (hW : s.WarmedH U.vm) : SC B U := by
  obtain ⟨adK, adV, h1, h2, h3⟩ := h
  exact ⟨adK, adV, h1.warm hW, by rw [hU]; exact ((h2.moved hW.alike).kept hS.2.1).narrow hB, by rw [hU]; exact ((h3.moved hW.alike).kept hS.2.1).narrow hB⟩
theorem SC.calling {A : Nat → Prop} {U : State} {g : JFrame} {mk : MethodId} {a : Array Value} (h : SC A U) : SC A (U.calling g mk a) := by
  obtain ⟨adK, adV, h1, h2, h3⟩ := h
  exact ⟨adK, adV, vk_R.same rfl h1, vk_S.moved (Vm.Alike.refl U.vm) h2, va_Z.moved (Vm.Alike.refl U.vm) h3⟩
def Cx (p : Program) (s : State) (m : MethodId) (args : Array Value) (meth : Method) (c : Code) (H : Heap) (locs : List Loc) (lsC : Array Slot) (ad : Nat → Int → Nat) (dC : Nat → ClassId) (dI : Nat → Nat → Nat) (cA : Nat → ClassId) (A : Nat → Prop) (μ : Mi) (ls : List (Option AV)) (h : AH) : Prop :=
  (p.tables.exec = Jvm.exec ∧ c.code = μ.2.1 ∧ c.maxLocals = μ.2.2.1 ∧ meth.sig.returnType = μ.2.2.2 ∧ meth.locks = false ∧ s.vm.findClass μ.1.cls = some m.cls ∧ (∀ w ∈ TB, w.before args s = true) ∧ va_K (dC, dI) vwCl (tysOf cA) s ∧ (∀ q, s.heap.size ≤ q → A q) ∧ SC A s) ∧ (LSok ad lsC μ.2.2.1 ls ∧ OkL ls) ∧ va_P (dC, dI) vwCl (wsOf ad cA h) H ∧ va_D A (wsOf ad cA h) ∧ va_S A s.heap H locs ∧ OkH h
/-- the machine, in the method μ at pc with these locals, this stack, this heap, comes to an end with Q, its calls at most d deep -/
def AW (d : Nat) (μ : Mi) (Q : Int → AH → Prop) (pc : Nat) (ls : List (Option AV)) (st : List AV) (h : AH) : Prop :=
  ∀ (p : Program) (l : Launch) (e : Env) (s : State) (m : MethodId) (args : Array Value) (below : List Frame) (meth : Method) (c : Code) (H : Heap) (locs : List Loc) (lsC : Array Slot) (ad : Nat → Int → Nat) (dC : Nat → ClassId) (dI : Nat → Nat → Nat) (cA : Nat → ClassId) (A : Nat → Prop),
    Cx p s m args meth c H locs lsC ad dC dI cA A μ ls h → OkS st → W p l e (rmA d) s m args below meth c H locs 0 0 (MQ below (QA ad dC dI cA A μ.2.2.2 Q) args s 0 0 A) (F0 m pc lsC (st.map (cv ad)))
theorem cmp_eq {x y : Int} (hx : inI x) (hy : inI y) (z : Int32.ofInt x = Int32.ofInt y) : x = y := (inI_eq hx hy).mp z
theorem cmp_eq' {x y : Int} (hx : inI x) (hy : inI y) (z : x = y) : Int32.ofInt x = Int32.ofInt y := (inI_eq hx hy).mpr z
theorem cmp_ne {x y : Int} (hx : inI x) (hy : inI y) (z : ¬ Int32.ofInt x = Int32.ofInt y) : x ≠ y := fun w => z ((inI_eq hx hy).mpr w)
theorem cmp_ne' {x y : Int} (hx : inI x) (hy : inI y) (z : x ≠ y) : ¬ Int32.ofInt x = Int32.ofInt y := fun w => z ((inI_eq hx hy).mp w)
theorem cmp_lt {x y : Int} (hx : inI x) (hy : inI y) (z : Int32.ofInt x < Int32.ofInt y) : x < y := (inI_lt hx hy).mp z
theorem cmp_lt' {x y : Int} (hx : inI x) (hy : inI y) (z : x < y) : Int32.ofInt x < Int32.ofInt y := (inI_lt hx hy).mpr z
theorem cmp_ge {x y : Int} (hx : inI x) (hy : inI y) (z : Int32.ofInt y ≤ Int32.ofInt x) : y ≤ x := (inI_le hy hx).mp z
theorem cmp_ge' {x y : Int} (hx : inI x) (hy : inI y) (z : y ≤ x) : Int32.ofInt y ≤ Int32.ofInt x := (inI_le hy hx).mpr z
theorem cmp_gt {x y : Int} (hx : inI x) (hy : inI y) (z : Int32.ofInt y < Int32.ofInt x) : y < x := (inI_lt hy hx).mp z
theorem cmp_gt' {x y : Int} (hx : inI x) (hy : inI y) (z : y < x) : Int32.ofInt y < Int32.ofInt x := (inI_lt hy hx).mpr z
theorem cmp_le {x y : Int} (hx : inI x) (hy : inI y) (z : Int32.ofInt x ≤ Int32.ofInt y) : x ≤ y := (inI_le hx hy).mp z
theorem cmp_le' {x y : Int} (hx : inI x) (hy : inI y) (z : x ≤ y) : Int32.ofInt x ≤ Int32.ofInt y := (inI_le hx hy).mpr z
section AWR
variable {d : Nat} {μ : Mi} {Q : Int → AH → Prop} {pc : Nat} {ls : List (Option AV)} {st : List AV} {h : AH}
theorem a_ok (k : OkL ls → OkS st → OkH h → AW d μ Q pc ls st h) : AW d μ Q pc ls st h := by
  intro p l e s m args below meth c H locs lsC ad dC dI cA A C hs
  exact k C.2.1.2 hs C.2.2.2.2.2 p l e s m args below meth c H locs lsC ad dC dI cA A C hs
/-! constants, locals -/
theorem a_iconst {n x : Int} (hd : decode μ.2.1 pc = .ok (.iconst n, 1)) (hx : n = x) (hi : inI x) (k : AW d μ Q (pc + 1) ls (vI x :: st) h) : AW d μ Q pc ls st h := by
  intro p l e s m args below meth c H locs lsC ad dC dI cA A C hs
  subst hx
  exact lv_iconst C.1.1 C.1.2.1 hd rfl (k p l e s m args below meth c H locs lsC ad dC dI cA A C (okS_cons hi hs))
theorem a_bipush {n x : Int} (hd : decode μ.2.1 pc = .ok (.bipush n, 2)) (hx : (Int8.ofInt n).toInt32 = Int32.ofInt x) (hi : inI x) (k : AW d μ Q (pc + 2) ls (vI x :: st) h) : AW d μ Q pc ls st h := by
  intro p l e s m args below meth c H locs lsC ad dC dI cA A C hs
  exact lv_bipush C.1.1 C.1.2.1 hd hx (k p l e s m args below meth c H locs lsC ad dC dI cA A C (okS_cons hi hs))
theorem a_sipush {n x : Int} (hd : decode μ.2.1 pc = .ok (.sipush n, 3)) (hx : (Int16.ofInt n).toInt32 = Int32.ofInt x) (hi : inI x) (k : AW d μ Q (pc + 3) ls (vI x :: st) h) : AW d μ Q pc ls st h := by
  intro p l e s m args below meth c H locs lsC ad dC dI cA A C hs
  exact lv_sipush C.1.1 C.1.2.1 hd hx (k p l e s m args below meth c H locs lsC ad dC dI cA A C (okS_cons hi hs))
theorem a_ldc {idx : Nat} {x : Int} (hd : decode μ.2.1 pc = .ok (.ldc idx, 2)) (hc : Jvm.Cond.constant μ.1.cls idx (Int32.ofInt x) ∈ TB) (hi : inI x) (k : AW d μ Q (pc + 2) ls (vI x :: st) h) : AW d μ Q pc ls st h := by
  intro p l e s m args below meth c H locs lsC ad dC dI cA A C hs
  exact lv_ldc C.1.1 C.1.2.1 C.1.2.2.2.2.2.1 (C.1.2.2.2.2.2.2.1 _ hc) hd (k p l e s m args below meth c H locs lsC ad dC dI cA A C (okS_cons hi hs))
theorem a_ldc2 {idx : Nat} {x : Int} (hd : decode μ.2.1 pc = .ok (.ldc2_w idx, 3)) (hc : Jvm.Cond.constantLong μ.1.cls idx (Int64.ofInt x) ∈ TB) (hi : inL x) (k : AW d μ Q (pc + 3) ls (vL x :: st) h) : AW d μ Q pc ls st h := by
  intro p l e s m args below meth c H locs lsC ad dC dI cA A C hs
  exact lv_ldc2 C.1.1 C.1.2.1 C.1.2.2.2.2.2.1 (C.1.2.2.2.2.2.2.1 _ hc) hd (k p l e s m args below meth c H locs lsC ad dC dI cA A C (okS_cons hi hs))
theorem a_lconst {n : Fin 2} {x : Int} (hd : decode μ.2.1 pc = .ok (.lconst n, 1)) (hx : Int64.ofNat (n : Nat) = Int64.ofInt x) (hi : inL x) (k : AW d μ Q (pc + 1) ls (vL x :: st) h) : AW d μ Q pc ls st h := by
  intro p l e s m args below meth c H locs lsC ad dC dI cA A C hs
  exact lv_lconst C.1.1 C.1.2.1 hd hx (k p l e s m args below meth c H locs lsC ad dC dI cA A C (okS_cons hi hs))

theorem a_iload_n {k : Fin 4} {x : Int} (hd : decode μ.2.1 pc = .ok (.iload_n k, 1)) (hl : ls[(k : Nat)]? = some (some (vI x))) (kk : AW d μ Q (pc + 1) ls (vI x :: st) h) : AW d μ Q pc ls st h := by
  intro p l e s m args below meth c H locs lsC ad dC dI cA A C hs
  exact lv_iload_n C.1.1 C.1.2.1 hd rfl (C.2.1.1.2.2.2 _ _ hl) (kk p l e s m args below meth c H locs lsC ad dC dI cA A C (okS_cons (C.2.1.2 _ (List.mem_of_getElem? hl)) hs))
theorem a_iload {k : Nat} {x : Int} (hd : decode μ.2.1 pc = .ok (.iload k, 2)) (hl : ls[k]? = some (some (vI x))) (kk : AW d μ Q (pc + 2) ls (vI x :: st) h) : AW d μ Q pc ls st h := by
  intro p l e s m args below meth c H locs lsC ad dC dI cA A C hs
  exact lv_iload C.1.1 C.1.2.1 hd (C.2.1.1.2.2.2 _ _ hl) (kk p l e s m args below meth c H locs lsC ad dC dI cA A C (okS_cons (C.2.1.2 _ (List.mem_of_getElem? hl)) hs))
theorem a_lload_n {k : Fin 4} {x : Int} (hd : decode μ.2.1 pc = .ok (.lload_n k, 1)) (hl : ls[(k : Nat)]? = some (some (vL x))) (kk : AW d μ Q (pc + 1) ls (vL x :: st) h) : AW d μ Q pc ls st h := by
  intro p l e s m args below meth c H locs lsC ad dC dI cA A C hs
  exact lv_lload_n C.1.1 C.1.2.1 hd rfl (C.2.1.1.2.2.2 _ _ hl) (kk p l e s m args below meth c H locs lsC ad dC dI cA A C (okS_cons (C.2.1.2 _ (List.mem_of_getElem? hl)) hs))
theorem a_lload {k : Nat} {x : Int} (hd : decode μ.2.1 pc = .ok (.lload k, 2)) (hl : ls[k]? = some (some (vL x))) (kk : AW d μ Q (pc + 2) ls (vL x :: st) h) : AW d μ Q pc ls st h := by
  intro p l e s m args below meth c H locs lsC ad dC dI cA A C hs
  exact lv_lload C.1.1 C.1.2.1 hd (C.2.1.1.2.2.2 _ _ hl) (kk p l e s m args below meth c H locs lsC ad dC dI cA A C (okS_cons (C.2.1.2 _ (List.mem_of_getElem? hl)) hs))
theorem a_aload_n {k : Fin 4} {o : Nat} {r : Int} (hd : decode μ.2.1 pc = .ok (.aload_n k, 1)) (hl : ls[(k : Nat)]? = some (some (vR o r))) (kk : AW d μ Q (pc + 1) ls (vR o r :: st) h) : AW d μ Q pc ls st h := by
  intro p l e s m args below meth c H locs lsC ad dC dI cA A C hs
  exact lv_aload_n C.1.1 C.1.2.1 hd rfl (C.2.1.1.2.2.2 _ _ hl) (kk p l e s m args below meth c H locs lsC ad dC dI cA A C (okS_cons (C.2.1.2 _ (List.mem_of_getElem? hl)) hs))
theorem a_aload {k : Nat} {o : Nat} {r : Int} (hd : decode μ.2.1 pc = .ok (.aload k, 2)) (hl : ls[k]? = some (some (vR o r))) (kk : AW d μ Q (pc + 2) ls (vR o r :: st) h) : AW d μ Q pc ls st h := by
  intro p l e s m args below meth c H locs lsC ad dC dI cA A C hs
  exact lv_aload C.1.1 C.1.2.1 hd (C.2.1.1.2.2.2 _ _ hl) (kk p l e s m args below meth c H locs lsC ad dC dI cA A C (okS_cons (C.2.1.2 _ (List.mem_of_getElem? hl)) hs))
theorem cx_set1 {p : Program} {s : State} {m : MethodId} {args : Array Value} {meth : Method} {c : Code} {H : Heap} {locs : List Loc} {lsC ls' : Array Slot} {ad : Nat → Int → Nat} {dC : Nat → ClassId} {dI : Nat → Nat → Nat} {cA : Nat → ClassId} {A : Nat → Prop} (C : Cx p s m args meth c H locs lsC ad dC dI cA A μ ls h) {i : Nat} {v : AV} (hv : Okv v) (hl : lv_has ls' μ.2.2.1 ((i, cv ad v) :: (allL ad ls).filter (fun q => !(q.1 == i) && !(q.1 + 1 == i && q.2.category == 2)))) : Cx p s m args meth c H locs ls' ad dC dI cA A μ (set1 ls i v) h := ⟨C.1, ⟨ls_set1 C.2.1.1.2.2.1 hl, okL_set1 C.2.1.2 hv⟩, C.2.2⟩
theorem cx_set2 {p : Program} {s : State} {m : MethodId} {args : Array Value} {meth : Method} {c : Code} {H : Heap} {locs : List Loc} {lsC ls' : Array Slot} {ad : Nat → Int → Nat} {dC : Nat → ClassId} {dI : Nat → Nat → Nat} {cA : Nat → ClassId} {A : Nat → Prop} (C : Cx p s m args meth c H locs lsC ad dC dI cA A μ ls h) {i : Nat} {v : AV} (hv : Okv v) (hl : lv_has ls' μ.2.2.1 ((i, cv ad v) :: (allL ad ls).filter (fun q => !(q.1 == i) && (!(q.1 == i + 1) && !(q.1 + 1 == i && q.2.category == 2))))) : Cx p s m args meth c H locs ls' ad dC dI cA A μ (set2 ls i v) h := ⟨C.1, ⟨ls_set2 C.2.1.1.2.2.1 hl, okL_set2 C.2.1.2 hv⟩, C.2.2⟩
theorem a_istore {i : Nat} {x : Int} {ls2 : List (Option AV)} (hd : decode μ.2.1 pc = .ok (.istore i, 2)) (hn : i < ls.length) (h2 : set1 ls i (vI x) = ls2) (kk : AW d μ Q (pc + 2) ls2 st h) : AW d μ Q pc ls (vI x :: st) h := by
  intro p l e s m args below meth c H locs lsC ad dC dI cA A C hs
  subst h2
  exact lv_istore C.1.1 C.1.2.1 hd C.2.1.1.has (by rw [← C.2.1.1.2.2.1]; exact hn) rfl (fun ls' hl' => kk p l e s m args below meth c H locs ls' ad dC dI cA A (cx_set1 C (okS_hd hs) hl') (okS_tl hs))
theorem a_istore_n {k : Fin 4} {i : Nat} {x : Int} {ls2 : List (Option AV)} (hd : decode μ.2.1 pc = .ok (.istore_n k, 1)) (hi : (k : Nat) = i) (hn : i < ls.length) (h2 : set1 ls i (vI x) = ls2) (kk : AW d μ Q (pc + 1) ls2 st h) : AW d μ Q pc ls (vI x :: st) h := by
  intro p l e s m args below meth c H locs lsC ad dC dI cA A C hs
  subst h2
  exact lv_istore_n C.1.1 C.1.2.1 hd hi C.2.1.1.has (by rw [← C.2.1.1.2.2.1]; exact hn) rfl (fun ls' hl' => kk p l e s m args below meth c H locs ls' ad dC dI cA A (cx_set1 C (okS_hd hs) hl') (okS_tl hs))
theorem a_lstore {i : Nat} {x : Int} {ls2 : List (Option AV)} (hd : decode μ.2.1 pc = .ok (.lstore i, 2)) (hn : i + 1 < ls.length) (h2 : set2 ls i (vL x) = ls2) (kk : AW d μ Q (pc + 2) ls2 st h) : AW d μ Q pc ls (vL x :: st) h := by
  intro p l e s m args below meth c H locs lsC ad dC dI cA A C hs
  subst h2
  exact lv_lstore C.1.1 C.1.2.1 hd C.2.1.1.has (by rw [← C.2.1.1.2.2.1]; exact hn) rfl (fun ls' hl' => kk p l e s m args below meth c H locs ls' ad dC dI cA A (cx_set2 C (okS_hd hs) hl') (okS_tl hs))
theorem a_lstore_n {k : Fin 4} {i : Nat} {x : Int} {ls2 : List (Option AV)} (hd : decode μ.2.1 pc = .ok (.lstore_n k, 1)) (hi : (k : Nat) = i) (hn : i + 1 < ls.length) (h2 : set2 ls i (vL x) = ls2) (kk : AW d μ Q (pc + 1) ls2 st h) : AW d μ Q pc ls (vL x :: st) h := by
  intro p l e s m args below meth c H locs lsC ad dC dI cA A C hs
  subst h2
  exact lv_lstore_n C.1.1 C.1.2.1 hd hi C.2.1.1.has (by rw [← C.2.1.1.2.2.1]; exact hn) rfl (fun ls' hl' => kk p l e s m args below meth c H locs ls' ad dC dI cA A (cx_set2 C (okS_hd hs) hl') (okS_tl hs))
theorem a_astore {i : Nat} {o : Nat} {r : Int} {ls2 : List (Option AV)} (hd : decode μ.2.1 pc = .ok (.astore i, 2)) (hn : i < ls.length) (h2 : set1 ls i (vR o r) = ls2) (kk : AW d μ Q (pc + 2) ls2 st h) : AW d μ Q pc ls (vR o r :: st) h := by
  intro p l e s m args below meth c H locs lsC ad dC dI cA A C hs
  subst h2
  exact lv_astore C.1.1 C.1.2.1 hd C.2.1.1.has (by rw [← C.2.1.1.2.2.1]; exact hn) rfl (fun ls' hl' => kk p l e s m args below meth c H locs ls' ad dC dI cA A (cx_set1 C (okS_hd hs) hl') (okS_tl hs))
theorem a_astore_n {k : Fin 4} {i : Nat} {o : Nat} {r : Int} {ls2 : List (Option AV)} (hd : decode μ.2.1 pc = .ok (.astore_n k, 1)) (hi : (k : Nat) = i) (hn : i < ls.length) (h2 : set1 ls i (vR o r) = ls2) (kk : AW d μ Q (pc + 1) ls2 st h) : AW d μ Q pc ls (vR o r :: st) h := by
  intro p l e s m args below meth c H locs lsC ad dC dI cA A C hs
  subst h2
  exact lv_astore_n C.1.1 C.1.2.1 hd hi C.2.1.1.has (by rw [← C.2.1.1.2.2.1]; exact hn) rfl (fun ls' hl' => kk p l e s m args below meth c H locs ls' ad dC dI cA A (cx_set1 C (okS_hd hs) hl') (okS_tl hs))
theorem a_iinc {i : Nat} {n x y : Int} {ls2 : List (Option AV)} (hd : decode μ.2.1 pc = .ok (.iinc i n, 3)) (hl : ls[i]? = some (some (vI x))) (hy : x + n = y) (hi : inI y) (h2 : set1 ls i (vI y) = ls2) (kk : AW d μ Q (pc + 3) ls2 st h) : AW d μ Q pc ls st h := by
  intro p l e s m args below meth c H locs lsC ad dC dI cA A C hs
  subst h2; subst hy
  obtain ⟨k9, hk9⟩ := List.getElem?_of_mem (mem_allL (ad := ad).mpr ⟨vI x, hl, rfl⟩)
  exact lv_iinc (v := Int32.ofInt (x + n)) C.1.1 C.1.2.1 hd C.2.1.1.has hk9 (by rw [Int32.ofInt_add]) (by rw [← C.2.1.1.2.2.1]; exact (List.getElem?_eq_some_iff.mp hl).1) rfl (fun ls' hl' => kk p l e s m args below meth c H locs ls' ad dC dI cA A (cx_set1 C (v := vI (x + n)) hi hl') hs)
theorem a_iadd {x y : Int} (hd : decode μ.2.1 pc = .ok (.iadd, 1)) (hi : inI (x + y)) (k : AW d μ Q (pc + 1) ls (vI (x + y) :: st) h) : AW d μ Q pc ls (vI y :: vI x :: st) h := by
  intro p l e s m args below meth c H locs lsC ad dC dI cA A C hs
  have k2 := k p l e s m args below meth c H locs lsC ad dC dI cA A C (okS_cons hi (okS_tl (okS_tl hs)))
  refine lv_iadd C.1.1 C.1.2.1 hd ?_
  rw [← Int32.ofInt_add]
  exact k2
theorem a_iaddW {x y : Int} (hd : decode μ.2.1 pc = .ok (.iadd, 1)) (k : AW d μ Q (pc + 1) ls (vI (w32 (x + y)) :: st) h) : AW d μ Q pc ls (vI y :: vI x :: st) h := by
  intro p l e s m args below meth c H locs lsC ad dC dI cA A C hs
  have k2 := k p l e s m args below meth c H locs lsC ad dC dI cA A C (okS_cons (inI_32 _) (okS_tl (okS_tl hs)))
  refine lv_iadd C.1.1 C.1.2.1 hd ?_
  rw [← Int32.ofInt_add, ← Int32.ofInt_toInt (Int32.ofInt (x + y))]
  exact k2
theorem a_isub {x y : Int} (hd : decode μ.2.1 pc = .ok (.isub, 1)) (hi : inI (x - y)) (k : AW d μ Q (pc + 1) ls (vI (x - y) :: st) h) : AW d μ Q pc ls (vI y :: vI x :: st) h := by
  intro p l e s m args below meth c H locs lsC ad dC dI cA A C hs
  have k2 := k p l e s m args below meth c H locs lsC ad dC dI cA A C (okS_cons hi (okS_tl (okS_tl hs)))
  refine lv_isub C.1.1 C.1.2.1 hd ?_
  rw [← Int32.ofInt_sub]
  exact k2
theorem a_isubW {x y : Int} (hd : decode μ.2.1 pc = .ok (.isub, 1)) (k : AW d μ Q (pc + 1) ls (vI (w32 (x - y)) :: st) h) : AW d μ Q pc ls (vI y :: vI x :: st) h := by
  intro p l e s m args below meth c H locs lsC ad dC dI cA A C hs
  have k2 := k p l e s m args below meth c H locs lsC ad dC dI cA A C (okS_cons (inI_32 _) (okS_tl (okS_tl hs)))
  refine lv_isub C.1.1 C.1.2.1 hd ?_
  rw [← Int32.ofInt_sub, ← Int32.ofInt_toInt (Int32.ofInt (x - y))]
  exact k2
theorem a_imul {x y : Int} (hd : decode μ.2.1 pc = .ok (.imul, 1)) (hi : inI (x * y)) (k : AW d μ Q (pc + 1) ls (vI (x * y) :: st) h) : AW d μ Q pc ls (vI y :: vI x :: st) h := by
  intro p l e s m args below meth c H locs lsC ad dC dI cA A C hs
  have k2 := k p l e s m args below meth c H locs lsC ad dC dI cA A C (okS_cons hi (okS_tl (okS_tl hs)))
  refine lv_imul C.1.1 C.1.2.1 hd ?_
  rw [← Int32.ofInt_mul]
  exact k2
theorem a_imulW {x y : Int} (hd : decode μ.2.1 pc = .ok (.imul, 1)) (k : AW d μ Q (pc + 1) ls (vI (w32 (x * y)) :: st) h) : AW d μ Q pc ls (vI y :: vI x :: st) h := by
  intro p l e s m args below meth c H locs lsC ad dC dI cA A C hs
  have k2 := k p l e s m args below meth c H locs lsC ad dC dI cA A C (okS_cons (inI_32 _) (okS_tl (okS_tl hs)))
  refine lv_imul C.1.1 C.1.2.1 hd ?_
  rw [← Int32.ofInt_mul, ← Int32.ofInt_toInt (Int32.ofInt (x * y))]
  exact k2
theorem a_ladd {x y : Int} (hd : decode μ.2.1 pc = .ok (.ladd, 1)) (hi : inL (x + y)) (k : AW d μ Q (pc + 1) ls (vL (x + y) :: st) h) : AW d μ Q pc ls (vL y :: vL x :: st) h := by
  intro p l e s m args below meth c H locs lsC ad dC dI cA A C hs
  have k2 := k p l e s m args below meth c H locs lsC ad dC dI cA A C (okS_cons hi (okS_tl (okS_tl hs)))
  refine lv_ladd C.1.1 C.1.2.1 hd ?_
  rw [← Int64.ofInt_add]
  exact k2
theorem a_laddW {x y : Int} (hd : decode μ.2.1 pc = .ok (.ladd, 1)) (k : AW d μ Q (pc + 1) ls (vL (w64 (x + y)) :: st) h) : AW d μ Q pc ls (vL y :: vL x :: st) h := by
  intro p l e s m args below meth c H locs lsC ad dC dI cA A C hs
  have k2 := k p l e s m args below meth c H locs lsC ad dC dI cA A C (okS_cons (inL_64 _) (okS_tl (okS_tl hs)))
  refine lv_ladd C.1.1 C.1.2.1 hd ?_
  rw [← Int64.ofInt_add, ← Int64.ofInt_toInt (Int64.ofInt (x + y))]
  exact k2
theorem a_lsub {x y : Int} (hd : decode μ.2.1 pc = .ok (.lsub, 1)) (hi : inL (x - y)) (k : AW d μ Q (pc + 1) ls (vL (x - y) :: st) h) : AW d μ Q pc ls (vL y :: vL x :: st) h := by
  intro p l e s m args below meth c H locs lsC ad dC dI cA A C hs
  have k2 := k p l e s m args below meth c H locs lsC ad dC dI cA A C (okS_cons hi (okS_tl (okS_tl hs)))
  refine lv_lsub C.1.1 C.1.2.1 hd ?_
  rw [← Int64.ofInt_sub]
  exact k2
theorem a_lsubW {x y : Int} (hd : decode μ.2.1 pc = .ok (.lsub, 1)) (k : AW d μ Q (pc + 1) ls (vL (w64 (x - y)) :: st) h) : AW d μ Q pc ls (vL y :: vL x :: st) h := by
  intro p l e s m args below meth c H locs lsC ad dC dI cA A C hs
  have k2 := k p l e s m args below meth c H locs lsC ad dC dI cA A C (okS_cons (inL_64 _) (okS_tl (okS_tl hs)))
  refine lv_lsub C.1.1 C.1.2.1 hd ?_
  rw [← Int64.ofInt_sub, ← Int64.ofInt_toInt (Int64.ofInt (x - y))]
  exact k2
theorem a_lmul {x y : Int} (hd : decode μ.2.1 pc = .ok (.lmul, 1)) (hi : inL (x * y)) (k : AW d μ Q (pc + 1) ls (vL (x * y) :: st) h) : AW d μ Q pc ls (vL y :: vL x :: st) h := by
  intro p l e s m args below meth c H locs lsC ad dC dI cA A C hs
  have k2 := k p l e s m args below meth c H locs lsC ad dC dI cA A C (okS_cons hi (okS_tl (okS_tl hs)))
  refine lv_lmul C.1.1 C.1.2.1 hd ?_
  rw [← Int64.ofInt_mul]
  exact k2
theorem a_lmulW {x y : Int} (hd : decode μ.2.1 pc = .ok (.lmul, 1)) (k : AW d μ Q (pc + 1) ls (vL (w64 (x * y)) :: st) h) : AW d μ Q pc ls (vL y :: vL x :: st) h := by
  intro p l e s m args below meth c H locs lsC ad dC dI cA A C hs
  have k2 := k p l e s m args below meth c H locs lsC ad dC dI cA A C (okS_cons (inL_64 _) (okS_tl (okS_tl hs)))
  refine lv_lmul C.1.1 C.1.2.1 hd ?_
  rw [← Int64.ofInt_mul, ← Int64.ofInt_toInt (Int64.ofInt (x * y))]
  exact k2
theorem a_iand {x y : Int} (hd : decode μ.2.1 pc = .ok (.iand, 1)) (k : AW d μ Q (pc + 1) ls (vI (iand x y) :: st) h) : AW d μ Q pc ls (vI y :: vI x :: st) h := by
  intro p l e s m args below meth c H locs lsC ad dC dI cA A C hs
  have k2 := k p l e s m args below meth c H locs lsC ad dC dI cA A C (okS_cons (inI_32 _) (okS_tl (okS_tl hs)))
  have e : cv ad (vI (iand x y)) = .int (Int32.ofInt (iand x y)) := rfl
  unfold iand at e
  rw [Int32.ofInt_toInt] at e
  refine lv_iand C.1.1 C.1.2.1 hd ?_
  rw [List.map_cons] at k2
  unfold iand at k2
  rw [e] at k2
  exact k2
theorem a_ior {x y : Int} (hd : decode μ.2.1 pc = .ok (.ior, 1)) (k : AW d μ Q (pc + 1) ls (vI (ior x y) :: st) h) : AW d μ Q pc ls (vI y :: vI x :: st) h := by
  intro p l e s m args below meth c H locs lsC ad dC dI cA A C hs
  have k2 := k p l e s m args below meth c H locs lsC ad dC dI cA A C (okS_cons (inI_32 _) (okS_tl (okS_tl hs)))
  have e : cv ad (vI (ior x y)) = .int (Int32.ofInt (ior x y)) := rfl
  unfold ior at e
  rw [Int32.ofInt_toInt] at e
  refine lv_ior C.1.1 C.1.2.1 hd ?_
  rw [List.map_cons] at k2
  unfold ior at k2
  rw [e] at k2
  exact k2
theorem a_ixor {x y : Int} (hd : decode μ.2.1 pc = .ok (.ixor, 1)) (k : AW d μ Q (pc + 1) ls (vI (ixor x y) :: st) h) : AW d μ Q pc ls (vI y :: vI x :: st) h := by
  intro p l e s m args below meth c H locs lsC ad dC dI cA A C hs
  have k2 := k p l e s m args below meth c H locs lsC ad dC dI cA A C (okS_cons (inI_32 _) (okS_tl (okS_tl hs)))
  have e : cv ad (vI (ixor x y)) = .int (Int32.ofInt (ixor x y)) := rfl
  unfold ixor at e
  rw [Int32.ofInt_toInt] at e
  refine lv_ixor C.1.1 C.1.2.1 hd ?_
  rw [List.map_cons] at k2
  unfold ixor at k2
  rw [e] at k2
  exact k2
theorem a_ishl {x y : Int} (hd : decode μ.2.1 pc = .ok (.ishl, 1)) (k : AW d μ Q (pc + 1) ls (vI (ishl x y) :: st) h) : AW d μ Q pc ls (vI y :: vI x :: st) h := by
  intro p l e s m args below meth c H locs lsC ad dC dI cA A C hs
  have k2 := k p l e s m args below meth c H locs lsC ad dC dI cA A C (okS_cons (inI_32 _) (okS_tl (okS_tl hs)))
  have e : cv ad (vI (ishl x y)) = .int (Int32.ofInt (ishl x y)) := rfl
  unfold ishl at e
  rw [Int32.ofInt_toInt] at e
  refine lv_ishl C.1.1 C.1.2.1 hd ?_
  rw [List.map_cons] at k2
  unfold ishl at k2
  rw [e] at k2
  exact k2
theorem a_ishr {x y : Int} (hd : decode μ.2.1 pc = .ok (.ishr, 1)) (k : AW d μ Q (pc + 1) ls (vI (ishr x y) :: st) h) : AW d μ Q pc ls (vI y :: vI x :: st) h := by
  intro p l e s m args below meth c H locs lsC ad dC dI cA A C hs
  have k2 := k p l e s m args below meth c H locs lsC ad dC dI cA A C (okS_cons (inI_32 _) (okS_tl (okS_tl hs)))
  have e : cv ad (vI (ishr x y)) = .int (Int32.ofInt (ishr x y)) := rfl
  unfold ishr at e
  rw [Int32.ofInt_toInt] at e
  refine lv_ishr C.1.1 C.1.2.1 hd ?_
  rw [List.map_cons] at k2
  unfold ishr at k2
  rw [e] at k2
  exact k2
theorem a_iushr {x y : Int} (hd : decode μ.2.1 pc = .ok (.iushr, 1)) (k : AW d μ Q (pc + 1) ls (vI (iushr x y) :: st) h) : AW d μ Q pc ls (vI y :: vI x :: st) h := by
  intro p l e s m args below meth c H locs lsC ad dC dI cA A C hs
  have k2 := k p l e s m args below meth c H locs lsC ad dC dI cA A C (okS_cons (inI_32 _) (okS_tl (okS_tl hs)))
  have e : cv ad (vI (iushr x y)) = .int (Int32.ofInt (iushr x y)) := rfl
  unfold iushr at e
  rw [Int32.ofInt_toInt] at e
  refine lv_iushr C.1.1 C.1.2.1 hd rfl ?_
  rw [List.map_cons] at k2
  unfold iushr at k2
  rw [e] at k2
  exact k2
theorem a_land {x y : Int} (hd : decode μ.2.1 pc = .ok (.land, 1)) (k : AW d μ Q (pc + 1) ls (vL (land x y) :: st) h) : AW d μ Q pc ls (vL y :: vL x :: st) h := by
  intro p l e s m args below meth c H locs lsC ad dC dI cA A C hs
  have k2 := k p l e s m args below meth c H locs lsC ad dC dI cA A C (okS_cons (inL_64 _) (okS_tl (okS_tl hs)))
  have e : cv ad (vL (land x y)) = .long (Int64.ofInt (land x y)) := rfl
  unfold land at e
  rw [Int64.ofInt_toInt] at e
  refine lv_land C.1.1 C.1.2.1 hd ?_
  rw [List.map_cons] at k2
  unfold land at k2
  rw [e] at k2
  exact k2
theorem a_lor {x y : Int} (hd : decode μ.2.1 pc = .ok (.lor, 1)) (k : AW d μ Q (pc + 1) ls (vL (lor x y) :: st) h) : AW d μ Q pc ls (vL y :: vL x :: st) h := by
  intro p l e s m args below meth c H locs lsC ad dC dI cA A C hs
  have k2 := k p l e s m args below meth c H locs lsC ad dC dI cA A C (okS_cons (inL_64 _) (okS_tl (okS_tl hs)))
  have e : cv ad (vL (lor x y)) = .long (Int64.ofInt (lor x y)) := rfl
  unfold lor at e
  rw [Int64.ofInt_toInt] at e
  refine lv_lor C.1.1 C.1.2.1 hd ?_
  rw [List.map_cons] at k2
  unfold lor at k2
  rw [e] at k2
  exact k2
theorem a_lxor {x y : Int} (hd : decode μ.2.1 pc = .ok (.lxor, 1)) (k : AW d μ Q (pc + 1) ls (vL (lxor x y) :: st) h) : AW d μ Q pc ls (vL y :: vL x :: st) h := by
  intro p l e s m args below meth c H locs lsC ad dC dI cA A C hs
  have k2 := k p l e s m args below meth c H locs lsC ad dC dI cA A C (okS_cons (inL_64 _) (okS_tl (okS_tl hs)))
  have e : cv ad (vL (lxor x y)) = .long (Int64.ofInt (lxor x y)) := rfl
  unfold lxor at e
  rw [Int64.ofInt_toInt] at e
  refine lv_lxor C.1.1 C.1.2.1 hd ?_
  rw [List.map_cons] at k2
  unfold lxor at k2
  rw [e] at k2
  exact k2
theorem a_lshl {x y : Int} (hd : decode μ.2.1 pc = .ok (.lshl, 1)) (k : AW d μ Q (pc + 1) ls (vL (lshl x y) :: st) h) : AW d μ Q pc ls (vI y :: vL x :: st) h := by
  intro p l e s m args below meth c H locs lsC ad dC dI cA A C hs
  have k2 := k p l e s m args below meth c H locs lsC ad dC dI cA A C (okS_cons (inL_64 _) (okS_tl (okS_tl hs)))
  have e : cv ad (vL (lshl x y)) = .long (Int64.ofInt (lshl x y)) := rfl
  unfold lshl at e
  rw [Int64.ofInt_toInt] at e
  refine lv_lshl C.1.1 C.1.2.1 hd rfl ?_
  rw [List.map_cons] at k2
  unfold lshl at k2
  rw [e] at k2
  exact k2
theorem a_lshr {x y : Int} (hd : decode μ.2.1 pc = .ok (.lshr, 1)) (k : AW d μ Q (pc + 1) ls (vL (lshr x y) :: st) h) : AW d μ Q pc ls (vI y :: vL x :: st) h := by
  intro p l e s m args below meth c H locs lsC ad dC dI cA A C hs
  have k2 := k p l e s m args below meth c H locs lsC ad dC dI cA A C (okS_cons (inL_64 _) (okS_tl (okS_tl hs)))
  have e : cv ad (vL (lshr x y)) = .long (Int64.ofInt (lshr x y)) := rfl
  unfold lshr at e
  rw [Int64.ofInt_toInt] at e
  refine lv_lshr C.1.1 C.1.2.1 hd rfl ?_
  rw [List.map_cons] at k2
  unfold lshr at k2
  rw [e] at k2
  exact k2
theorem a_lushr {x y : Int} (hd : decode μ.2.1 pc = .ok (.lushr, 1)) (k : AW d μ Q (pc + 1) ls (vL (lushr x y) :: st) h) : AW d μ Q pc ls (vI y :: vL x :: st) h := by
  intro p l e s m args below meth c H locs lsC ad dC dI cA A C hs
  have k2 := k p l e s m args below meth c H locs lsC ad dC dI cA A C (okS_cons (inL_64 _) (okS_tl (okS_tl hs)))
  have e : cv ad (vL (lushr x y)) = .long (Int64.ofInt (lushr x y)) := rfl
  unfold lushr at e
  rw [Int64.ofInt_toInt] at e
  refine lv_lushr C.1.1 C.1.2.1 hd rfl ?_
  rw [List.map_cons] at k2
  unfold lushr at k2
  rw [e] at k2
  exact k2
theorem a_l2i {x : Int} (hd : decode μ.2.1 pc = .ok (.l2i, 1)) (k : AW d μ Q (pc + 1) ls (vI (l2i x) :: st) h) : AW d μ Q pc ls (vL x :: st) h := by
  intro p l e s m args below meth c H locs lsC ad dC dI cA A C hs
  have k2 := k p l e s m args below meth c H locs lsC ad dC dI cA A C (okS_cons (inI_32 _) (okS_tl hs))
  have e : cv ad (vI (l2i x)) = .int (Int32.ofInt (l2i x)) := rfl
  unfold l2i at e
  rw [Int32.ofInt_toInt] at e
  rw [List.map_cons] at k2
  unfold l2i at k2
  rw [e] at k2
  exact lv_l2i C.1.1 C.1.2.1 hd (by rw [Int64.toInt32_ofInt]) k2
theorem a_i2l {x : Int} (hd : decode μ.2.1 pc = .ok (.i2l, 1)) (k : AW d μ Q (pc + 1) ls (vL x :: st) h) : AW d μ Q pc ls (vI x :: st) h := by
  intro p l e s m args below meth c H locs lsC ad dC dI cA A C hs
  have hx : inI x := okS_hd hs
  have k2 := k p l e s m args below meth c H locs lsC ad dC dI cA A C (okS_cons (v := vL x) (show inL x from ⟨by have := hx.1; omega, by have := hx.2; omega⟩) (okS_tl hs))
  exact lv_i2l C.1.1 C.1.2.1 hd (by rw [Int32.toInt64_ofInt (by have := hx.1; exact this) (by have := hx.2; show x ≤ 2147483647; omega)]) k2
theorem a_i2b {x : Int} (hd : decode μ.2.1 pc = .ok (.i2b, 1)) (k : AW d μ Q (pc + 1) ls (vI (i2b x) :: st) h) : AW d μ Q pc ls (vI x :: st) h := by
  intro p l e s m args below meth c H locs lsC ad dC dI cA A C hs
  have k2 := k p l e s m args below meth c H locs lsC ad dC dI cA A C (okS_cons (inI_32 _) (okS_tl hs))
  have e : cv ad (vI (i2b x)) = .int (Int32.ofInt (i2b x)) := rfl
  unfold i2b at e
  rw [Int32.ofInt_toInt] at e
  rw [List.map_cons] at k2
  unfold i2b at k2
  rw [e] at k2
  exact lv_i2b C.1.1 C.1.2.1 hd rfl k2
theorem a_i2c {x : Int} (hd : decode μ.2.1 pc = .ok (.i2c, 1)) (k : AW d μ Q (pc + 1) ls (vI (i2c x) :: st) h) : AW d μ Q pc ls (vI x :: st) h := by
  intro p l e s m args below meth c H locs lsC ad dC dI cA A C hs
  have k2 := k p l e s m args below meth c H locs lsC ad dC dI cA A C (okS_cons (inI_32 _) (okS_tl hs))
  have e : cv ad (vI (i2c x)) = .int (Int32.ofInt (i2c x)) := rfl
  unfold i2c at e
  rw [Int32.ofInt_toInt] at e
  rw [List.map_cons] at k2
  unfold i2c at k2
  rw [e] at k2
  exact lv_i2c C.1.1 C.1.2.1 hd rfl k2
theorem a_pop {x : Int} (hd : decode μ.2.1 pc = .ok (.pop, 1)) (k : AW d μ Q (pc + 1) ls st h) : AW d μ Q pc ls (vI x :: st) h := by
  intro p l e s m args below meth c H locs lsC ad dC dI cA A C hs
  exact lv_pop C.1.1 C.1.2.1 hd rfl (k p l e s m args below meth c H locs lsC ad dC dI cA A C (okS_tl hs))
theorem a_dupI {x : Int} (hd : decode μ.2.1 pc = .ok (.dup, 1)) (k : AW d μ Q (pc + 1) ls (vI x :: vI x :: st) h) : AW d μ Q pc ls (vI x :: st) h := by
  intro p l e s m args below meth c H locs lsC ad dC dI cA A C hs
  exact lv_dup C.1.1 C.1.2.1 hd rfl (k p l e s m args below meth c H locs lsC ad dC dI cA A C (okS_cons (okS_hd hs) hs))
theorem a_dupR {o : Nat} {r : Int} (hd : decode μ.2.1 pc = .ok (.dup, 1)) (k : AW d μ Q (pc + 1) ls (vR o r :: vR o r :: st) h) : AW d μ Q pc ls (vR o r :: st) h := by
  intro p l e s m args below meth c H locs lsC ad dC dI cA A C hs
  exact lv_dup C.1.1 C.1.2.1 hd rfl (k p l e s m args below meth c H locs lsC ad dC dI cA A C (okS_cons (okS_hd hs) hs))
theorem a_dup2 {x : Int} {o : Nat} {r : Int} (hd : decode μ.2.1 pc = .ok (.dup2, 1)) (k : AW d μ Q (pc + 1) ls (vI x :: vR o r :: vI x :: vR o r :: st) h) : AW d μ Q pc ls (vI x :: vR o r :: st) h := by
  intro p l e s m args below meth c H locs lsC ad dC dI cA A C hs
  exact lv_dup2_11 C.1.1 C.1.2.1 hd rfl rfl (k p l e s m args below meth c H locs lsC ad dC dI cA A C (okS_cons (okS_hd hs) (okS_cons (okS_hd (okS_tl hs)) hs)))
theorem a_goto {off : Int} {tgt : Nat} (hd : decode μ.2.1 pc = .ok (.goto off, 3)) (ht : (pc : Int) + off = (tgt : Int)) (k : AW d μ Q tgt ls st h) : AW d μ Q pc ls st h := by
  intro p l e s m args below meth c H locs lsC ad dC dI cA A C hs
  exact lv_goto C.1.1 C.1.2.1 hd ht (k p l e s m args below meth c H locs lsC ad dC dI cA A C hs)
theorem a_lcmp {x y : Int} (hd : decode μ.2.1 pc = .ok (.lcmp, 1)) (k : AW d μ Q (pc + 1) ls (vI (lcmp x y) :: st) h) : AW d μ Q pc ls (vL y :: vL x :: st) h := by
  intro p l e s m args below meth c H locs lsC ad dC dI cA A C hs
  have hy : inL y := okS_hd hs
  have hx : inL x := okS_hd (okS_tl hs)
  have hi : inI (lcmp x y) := by
    unfold lcmp
    split
    · exact ⟨by decide, by decide⟩
    · split <;> exact ⟨by decide, by decide⟩
  have k2 := k p l e s m args below meth c H locs lsC ad dC dI cA A C (okS_cons (v := vI (lcmp x y)) hi (okS_tl (okS_tl hs)))
  have e : lg_cmp (Int64.ofInt x) (Int64.ofInt y) = Int32.ofInt (lcmp x y) := by
    unfold lg_cmp lcmp
    simp only [gt_iff_lt, inL_lt hy hx, inL_eq hx hy]
    split
    · rfl
    · split <;> rfl
  refine W.lcmp C.1.1 C.1.2.1 hd ?_
  rw [e]
  exact k2
theorem a_if_eq {x off : Int} {tgt : Nat} (hd : decode μ.2.1 pc = .ok (.ifCond .eq off, 3)) (ht : (pc : Int) + off = (tgt : Int)) (kt : x = 0 → AW d μ Q tgt ls st h) (kf : ¬ (x = 0) → AW d μ Q (pc + 3) ls st h) : AW d μ Q pc ls (vI x :: st) h := by
  intro p l e s m args below meth c H locs lsC ad dC dI cA A C hs
  have hx : inI x := okS_hd hs
  have h0 : inI 0 := ⟨by decide, by decide⟩
  refine lv_if_eq C.1.1 C.1.2.1 hd ht (fun z => kt ?_ p l e s m args below meth c H locs lsC ad dC dI cA A C (okS_tl hs)) (fun z => kf ?_ p l e s m args below meth c H locs lsC ad dC dI cA A C (okS_tl hs))
  · exact cmp_eq hx h0 z
  · exact fun w => z (cmp_eq' hx h0 w)
theorem a_if_ne {x off : Int} {tgt : Nat} (hd : decode μ.2.1 pc = .ok (.ifCond .ne off, 3)) (ht : (pc : Int) + off = (tgt : Int)) (kt : x ≠ 0 → AW d μ Q tgt ls st h) (kf : ¬ (x ≠ 0) → AW d μ Q (pc + 3) ls st h) : AW d μ Q pc ls (vI x :: st) h := by
  intro p l e s m args below meth c H locs lsC ad dC dI cA A C hs
  have hx : inI x := okS_hd hs
  have h0 : inI 0 := ⟨by decide, by decide⟩
  refine lv_if_ne C.1.1 C.1.2.1 hd ht (fun z => kt ?_ p l e s m args below meth c H locs lsC ad dC dI cA A C (okS_tl hs)) (fun z => kf ?_ p l e s m args below meth c H locs lsC ad dC dI cA A C (okS_tl hs))
  · exact cmp_ne hx h0 z
  · exact fun w => cmp_ne' hx h0 w z
theorem a_if_lt {x off : Int} {tgt : Nat} (hd : decode μ.2.1 pc = .ok (.ifCond .lt off, 3)) (ht : (pc : Int) + off = (tgt : Int)) (kt : x < 0 → AW d μ Q tgt ls st h) (kf : ¬ (x < 0) → AW d μ Q (pc + 3) ls st h) : AW d μ Q pc ls (vI x :: st) h := by
  intro p l e s m args below meth c H locs lsC ad dC dI cA A C hs
  have hx : inI x := okS_hd hs
  have h0 : inI 0 := ⟨by decide, by decide⟩
  refine lv_if_lt C.1.1 C.1.2.1 hd ht (fun z => kt ?_ p l e s m args below meth c H locs lsC ad dC dI cA A C (okS_tl hs)) (fun z => kf ?_ p l e s m args below meth c H locs lsC ad dC dI cA A C (okS_tl hs))
  · exact cmp_lt hx h0 z
  · exact fun w => z (cmp_lt' hx h0 w)
theorem a_if_ge {x off : Int} {tgt : Nat} (hd : decode μ.2.1 pc = .ok (.ifCond .ge off, 3)) (ht : (pc : Int) + off = (tgt : Int)) (kt : 0 ≤ x → AW d μ Q tgt ls st h) (kf : ¬ (0 ≤ x) → AW d μ Q (pc + 3) ls st h) : AW d μ Q pc ls (vI x :: st) h := by
  intro p l e s m args below meth c H locs lsC ad dC dI cA A C hs
  have hx : inI x := okS_hd hs
  have h0 : inI 0 := ⟨by decide, by decide⟩
  refine lv_if_ge C.1.1 C.1.2.1 hd ht (fun z => kt ?_ p l e s m args below meth c H locs lsC ad dC dI cA A C (okS_tl hs)) (fun z => kf ?_ p l e s m args below meth c H locs lsC ad dC dI cA A C (okS_tl hs))
  · exact cmp_ge hx h0 z
  · exact fun w => z (cmp_ge' hx h0 w)
theorem a_if_gt {x off : Int} {tgt : Nat} (hd : decode μ.2.1 pc = .ok (.ifCond .gt off, 3)) (ht : (pc : Int) + off = (tgt : Int)) (kt : 0 < x → AW d μ Q tgt ls st h) (kf : ¬ (0 < x) → AW d μ Q (pc + 3) ls st h) : AW d μ Q pc ls (vI x :: st) h := by
  intro p l e s m args below meth c H locs lsC ad dC dI cA A C hs
  have hx : inI x := okS_hd hs
  have h0 : inI 0 := ⟨by decide, by decide⟩
  refine lv_if_gt C.1.1 C.1.2.1 hd ht (fun z => kt ?_ p l e s m args below meth c H locs lsC ad dC dI cA A C (okS_tl hs)) (fun z => kf ?_ p l e s m args below meth c H locs lsC ad dC dI cA A C (okS_tl hs))
  · exact cmp_gt hx h0 z
  · exact fun w => z (cmp_gt' hx h0 w)
theorem a_if_le {x off : Int} {tgt : Nat} (hd : decode μ.2.1 pc = .ok (.ifCond .le off, 3)) (ht : (pc : Int) + off = (tgt : Int)) (kt : x ≤ 0 → AW d μ Q tgt ls st h) (kf : ¬ (x ≤ 0) → AW d μ Q (pc + 3) ls st h) : AW d μ Q pc ls (vI x :: st) h := by
  intro p l e s m args below meth c H locs lsC ad dC dI cA A C hs
  have hx : inI x := okS_hd hs
  have h0 : inI 0 := ⟨by decide, by decide⟩
  refine lv_if_le C.1.1 C.1.2.1 hd ht (fun z => kt ?_ p l e s m args below meth c H locs lsC ad dC dI cA A C (okS_tl hs)) (fun z => kf ?_ p l e s m args below meth c H locs lsC ad dC dI cA A C (okS_tl hs))
  · exact cmp_le hx h0 z
  · exact fun w => z (cmp_le' hx h0 w)
theorem a_icmp_eq {x y off : Int} {tgt : Nat} (hd : decode μ.2.1 pc = .ok (.if_icmp .eq off, 3)) (ht : (pc : Int) + off = (tgt : Int)) (kt : x = y → AW d μ Q tgt ls st h) (kf : ¬ (x = y) → AW d μ Q (pc + 3) ls st h) : AW d μ Q pc ls (vI y :: vI x :: st) h := by
  intro p l e s m args below meth c H locs lsC ad dC dI cA A C hs
  have hy : inI y := okS_hd hs
  have hx : inI x := okS_hd (okS_tl hs)
  refine lv_icmp_eq C.1.1 C.1.2.1 hd ht (fun z => kt ?_ p l e s m args below meth c H locs lsC ad dC dI cA A C (okS_tl (okS_tl hs))) (fun z => kf ?_ p l e s m args below meth c H locs lsC ad dC dI cA A C (okS_tl (okS_tl hs)))
  · exact cmp_eq hx hy z
  · exact fun w => z (cmp_eq' hx hy w)
theorem a_icmp_ne {x y off : Int} {tgt : Nat} (hd : decode μ.2.1 pc = .ok (.if_icmp .ne off, 3)) (ht : (pc : Int) + off = (tgt : Int)) (kt : x ≠ y → AW d μ Q tgt ls st h) (kf : ¬ (x ≠ y) → AW d μ Q (pc + 3) ls st h) : AW d μ Q pc ls (vI y :: vI x :: st) h := by
  intro p l e s m args below meth c H locs lsC ad dC dI cA A C hs
  have hy : inI y := okS_hd hs
  have hx : inI x := okS_hd (okS_tl hs)
  refine lv_icmp_ne C.1.1 C.1.2.1 hd ht (fun z => kt ?_ p l e s m args below meth c H locs lsC ad dC dI cA A C (okS_tl (okS_tl hs))) (fun z => kf ?_ p l e s m args below meth c H locs lsC ad dC dI cA A C (okS_tl (okS_tl hs)))
  · exact cmp_ne hx hy z
  · exact fun w => cmp_ne' hx hy w z
theorem a_icmp_lt {x y off : Int} {tgt : Nat} (hd : decode μ.2.1 pc = .ok (.if_icmp .lt off, 3)) (ht : (pc : Int) + off = (tgt : Int)) (kt : x < y → AW d μ Q tgt ls st h) (kf : ¬ (x < y) → AW d μ Q (pc + 3) ls st h) : AW d μ Q pc ls (vI y :: vI x :: st) h := by
  intro p l e s m args below meth c H locs lsC ad dC dI cA A C hs
  have hy : inI y := okS_hd hs
  have hx : inI x := okS_hd (okS_tl hs)
  refine lv_icmp_lt C.1.1 C.1.2.1 hd ht (fun z => kt ?_ p l e s m args below meth c H locs lsC ad dC dI cA A C (okS_tl (okS_tl hs))) (fun z => kf ?_ p l e s m args below meth c H locs lsC ad dC dI cA A C (okS_tl (okS_tl hs)))
  · exact cmp_lt hx hy z
  · exact fun w => z (cmp_lt' hx hy w)
theorem a_icmp_ge {x y off : Int} {tgt : Nat} (hd : decode μ.2.1 pc = .ok (.if_icmp .ge off, 3)) (ht : (pc : Int) + off = (tgt : Int)) (kt : y ≤ x → AW d μ Q tgt ls st h) (kf : ¬ (y ≤ x) → AW d μ Q (pc + 3) ls st h) : AW d μ Q pc ls (vI y :: vI x :: st) h := by
  intro p l e s m args below meth c H locs lsC ad dC dI cA A C hs
  have hy : inI y := okS_hd hs
  have hx : inI x := okS_hd (okS_tl hs)
  refine lv_icmp_ge C.1.1 C.1.2.1 hd ht (fun z => kt ?_ p l e s m args below meth c H locs lsC ad dC dI cA A C (okS_tl (okS_tl hs))) (fun z => kf ?_ p l e s m args below meth c H locs lsC ad dC dI cA A C (okS_tl (okS_tl hs)))
  · exact cmp_ge hx hy z
  · exact fun w => z (cmp_ge' hx hy w)
theorem a_icmp_gt {x y off : Int} {tgt : Nat} (hd : decode μ.2.1 pc = .ok (.if_icmp .gt off, 3)) (ht : (pc : Int) + off = (tgt : Int)) (kt : y < x → AW d μ Q tgt ls st h) (kf : ¬ (y < x) → AW d μ Q (pc + 3) ls st h) : AW d μ Q pc ls (vI y :: vI x :: st) h := by
  intro p l e s m args below meth c H locs lsC ad dC dI cA A C hs
  have hy : inI y := okS_hd hs
  have hx : inI x := okS_hd (okS_tl hs)
  refine lv_icmp_gt C.1.1 C.1.2.1 hd ht (fun z => kt ?_ p l e s m args below meth c H locs lsC ad dC dI cA A C (okS_tl (okS_tl hs))) (fun z => kf ?_ p l e s m args below meth c H locs lsC ad dC dI cA A C (okS_tl (okS_tl hs)))
  · exact cmp_gt hx hy z
  · exact fun w => z (cmp_gt' hx hy w)
theorem a_icmp_le {x y off : Int} {tgt : Nat} (hd : decode μ.2.1 pc = .ok (.if_icmp .le off, 3)) (ht : (pc : Int) + off = (tgt : Int)) (kt : x ≤ y → AW d μ Q tgt ls st h) (kf : ¬ (x ≤ y) → AW d μ Q (pc + 3) ls st h) : AW d μ Q pc ls (vI y :: vI x :: st) h := by
  intro p l e s m args below meth c H locs lsC ad dC dI cA A C hs
  have hy : inI y := okS_hd hs
  have hx : inI x := okS_hd (okS_tl hs)
  refine lv_icmp_le C.1.1 C.1.2.1 hd ht (fun z => kt ?_ p l e s m args below meth c H locs lsC ad dC dI cA A C (okS_tl (okS_tl hs))) (fun z => kf ?_ p l e s m args below meth c H locs lsC ad dC dI cA A C (okS_tl (okS_tl hs)))
  · exact cmp_le hx hy z
  · exact fun w => z (cmp_le' hx hy w)
/-! the heap -/
theorem fld_get {ad : Nat → Int → Nat} {cA : Nat → ClassId} {o ci k f : Nat} {l : List Nat} (sk : skl[o]? = some (5, ci, l)) (hk : l[k]? = some f) : ∃ fs : List Value, encE ad cA h o (-1) = .inr (ci, fs) ∧ fs[k]? = some (fldV ad h o k f) ∧ k < fs.length ∧ fs = l.mapIdx (fun k f => fldV ad h o k f) := by
  refine ⟨l.mapIdx (fun k f => fldV ad h o k f), ?_, ?_, ?_, rfl⟩
  · rw [enc_at sk]; rfl
  · rw [List.getElem?_mapIdx, hk]; rfl
  · rw [List.length_mapIdx]; exact (List.getElem?_eq_some_iff.mp hk).1
theorem a_getf {idx o ci k f : Nat} {l : List Nat} {v : AV} (hd : decode μ.2.1 pc = .ok (.getfield idx, 3)) (fl : FL μ.1.cls idx ci k) (sk : skl[o]? = some (5, ci, l)) (hk : l[k]? = some f) (hv : ∀ ad, fldV ad h o k f = cv ad v) (hok : OkH h → Okv v) (kk : AW d μ Q (pc + 3) ls (v :: st) h) : AW d μ Q pc ls (vR o (-1) :: st) h := by
  intro p l e s m args below meth c H locs lsC ad dC dI cA A C hs
  obtain ⟨⟨C0, T, N, hc, hin, -, -⟩, q, hq, hkN, hlink⟩ := fl
  have e := hc.symm.trans hq
  cases e
  obtain ⟨fs, h1, h2, h3, -⟩ := fld_get (ad := ad) (cA := cA) (h := h) sk hk
  have hvid : vid o (-1) := okS_hd hs
  have he := ws_at (ad := ad) (cA := cA) (h := h) hvid
  rw [h1] at he
  rw [hv] at h2
  exact va_get C.1.1 C.1.2.1 C.1.2.2.2.2.2.2.1 hin C.1.2.2.2.2.2.1 C.1.2.2.2.2.2.2.2.1 C.2.2.1 _ he hc k hkN (C.1.2.2.2.2.2.2.1 _ hlink) (fun _ z => z) h2 hd (kk p l e s m args below meth c H locs lsC ad dC dI cA A C (okS_cons (hok C.2.2.2.2.2) (okS_tl hs)))
theorem a_getI {idx o ci k : Nat} {l : List Nat} {kz : Int} (hd : decode μ.2.1 pc = .ok (.getfield idx, 3)) (fl : FL μ.1.cls idx ci k) (sk : skl[o]? = some (5, ci, l)) (hk : l[k]? = some 0) (hz : (k : Int) = kz) (kk : AW d μ Q (pc + 3) ls (vI (h.1 o kz) :: st) h) : AW d μ Q pc ls (vR o (-1) :: st) h := by
  subst hz
  exact a_getf (v := vI (h.1 o k)) hd fl sk hk (fun _ => rfl) (fun hh => hh.1 _ _) kk
theorem a_getL {idx o ci k : Nat} {l : List Nat} {kz : Int} (hd : decode μ.2.1 pc = .ok (.getfield idx, 3)) (fl : FL μ.1.cls idx ci k) (sk : skl[o]? = some (5, ci, l)) (hk : l[k]? = some 1) (hz : (k : Int) = kz) (kk : AW d μ Q (pc + 3) ls (vL (h.2.1 o kz) :: st) h) : AW d μ Q pc ls (vR o (-1) :: st) h := by
  subst hz
  exact a_getf (v := vL (h.2.1 o k)) hd fl sk hk (fun _ => rfl) (fun hh => hh.2.1 _ _) kk
theorem a_getR {idx o ci k j : Nat} {l : List Nat} (hd : decode μ.2.1 pc = .ok (.getfield idx, 3)) (fl : FL μ.1.cls idx ci k) (sk : skl[o]? = some (5, ci, l)) (hk : l[k]? = some (j + 2)) (kk : AW d μ Q (pc + 3) ls (vR j (-1) :: st) h) : AW d μ Q pc ls (vR o (-1) :: st) h :=
  a_getf (v := vR j (-1)) hd fl sk hk (fun _ => rfl) (fun _ => vid_ref sk hk) kk
theorem mapIdx_set {ad : Nat → Int → Nat} {h h' : AH} {o k : Nat} {l : List Nat} {v : Value} (hk : k < l.length) (he : ∀ f, l[k]? = some f → fldV ad h' o k f = v) (hne : ∀ k' f, k' ≠ k → fldV ad h' o k' f = fldV ad h o k' f) : (l.mapIdx (fun k f => fldV ad h o k f)).set k v = l.mapIdx (fun k f => fldV ad h' o k f) := by
  apply List.ext_getElem?
  intro j
  by_cases hj : k = j
  · subst hj
    rw [List.getElem?_set_self (by rw [List.length_mapIdx]; exact hk), List.getElem?_mapIdx, List.getElem?_eq_getElem hk]
    exact congrArg some (he _ (List.getElem?_eq_getElem hk)).symm
  · rw [List.getElem?_set_ne hj, List.getElem?_mapIdx, List.getElem?_mapIdx]
    cases l[j]? with
    | none => rfl
    | some f =>
      exact congrArg some (hne j f (fun z => hj z.symm)).symm
theorem a_putf {idx o ci k f : Nat} {l : List Nat} {v : AV} {ty : FieldType} {h' : AH} (hd : decode μ.2.1 pc = .ok (.putfield idx, 3)) (fl : FP μ.1.cls idx ci k ty) (sk : skl[o]? = some (5, ci, l)) (hk : l[k]? = some f) (hn : ∀ ad, narrow ty (cv ad v) = cv ad v) (hf : ∀ ad, fits ty (cv ad v) = true) (he : ∀ ad, fldV ad h' o k f = cv ad v) (hne : ∀ ad k' f, k' ≠ k → fldV ad h' o k' f = fldV ad h o k' f) (hen : ∀ ad cA o' r', (o', r') ≠ (o, (-1 : Int)) → encE ad cA h' o' r' = encE ad cA h o' r') (hok : OkH h → Okv v → OkH h') (kk : AW d μ Q (pc + 3) ls st h') : AW d μ Q pc ls (v :: vR o (-1) :: st) h := by
  intro p l e s m args below meth c H locs lsC ad dC dI cA A C hs
  obtain ⟨⟨⟨C0, T, N, hc, hin, ⟨ty0, hty⟩, hnm⟩, q, hq, hkN, hlink⟩, q2, hq2, hfin, hpar⟩ := fl
  have e := hc.symm.trans hq
  cases e
  have e2 := hc.symm.trans hq2
  cases e2
  obtain ⟨fs, h1, h2, h3, h4⟩ := fld_get (ad := ad) (cA := cA) (h := h) sk hk
  have hvid : vid o (-1) := okS_hd (okS_tl hs)
  have hat := ws_at (ad := ad) (cA := cA) (h := h) hvid
  rw [h1] at hat
  have hset : (wsOf ad cA h).set (posOf o (-1)) (ad o (-1), .inr (ci, fs.set k (cv ad v))) = wsOf ad cA h' := by
    refine ws_set hvid ?_ (hen ad cA)
    rw [enc_at sk, h4, mapIdx_set (List.getElem?_eq_some_iff.mp hk).1 (fun g hg => by rw [hk] at hg; cases hg; exact he ad) (fun k' f' z => hne ad k' f' z)]
    rfl
  refine va_put C.1.1 C.1.2.1 C.1.2.2.2.2.2.2.1 hin ty0 hty hnm C.1.2.2.2.2.2.1 C.1.2.2.2.2.2.2.2.1 C.2.2.1 C.2.2.2.1 C.2.2.2.2.1 _ hat hc k hkN (C.1.2.2.2.2.2.2.1 _ hlink) (fun _ z => z) hfin hpar (hn ad) (hf ad) h3 hd (fun H1 locs1 gP gD gS => ?_)
  rw [hset] at gP gD
  exact kk p l e s m args below meth c H1 locs1 lsC ad dC dI cA A ⟨C.1, C.2.1, gP, gD, gS, hok C.2.2.2.2.2 (okS_hd hs)⟩ (okS_tl (okS_tl hs))
theorem a_putI {idx o ci k : Nat} {l : List Nat} {kz x : Int} (hd : decode μ.2.1 pc = .ok (.putfield idx, 3)) (fl : FP μ.1.cls idx ci k .int) (sk : skl[o]? = some (5, ci, l)) (hk : l[k]? = some 0) (hz : (k : Int) = kz) (kk : AW d μ Q (pc + 3) ls st (wI h o kz x)) : AW d μ Q pc ls (vI x :: vR o (-1) :: st) h := by
  subst hz
  refine a_putf hd fl sk hk (fun _ => rfl) (fun _ => rfl) (fun ad => ?_) (fun ad k' f hne => ?_) (fun ad cA => enc_wI) (fun hh hv => ok_wI hh hv) kk
  · show Value.int (Int32.ofInt (if _ then _ else _)) = _
    rw [if_pos ⟨rfl, rfl⟩]; rfl
  · match f with
    | 0 =>
      show Value.int (Int32.ofInt (if _ then _ else _)) = _
      rw [if_neg (fun z => hne (by have := z.2; omega))]; rfl
    | 1 => rfl
    | j + 2 => rfl
theorem a_putZ {idx o ci k : Nat} {l : List Nat} {kz x : Int} (hd : decode μ.2.1 pc = .ok (.putfield idx, 3)) (fl : FP μ.1.cls idx ci k .boolean) (sk : skl[o]? = some (5, ci, l)) (hk : l[k]? = some 0) (hz : (k : Int) = kz) (hx : x = 0 ∨ x = 1) (kk : AW d μ Q (pc + 3) ls st (wI h o kz x)) : AW d μ Q pc ls (vI x :: vR o (-1) :: st) h := by
  subst hz
  refine a_putf hd fl sk hk (fun _ => by rcases hx with rfl | rfl <;> rfl) (fun _ => by rcases hx with rfl | rfl <;> rfl) (fun ad => ?_) (fun ad k' f hne => ?_) (fun ad cA => enc_wI) (fun hh hv => ok_wI hh hv) kk
  · show Value.int (Int32.ofInt (if _ then _ else _)) = _
    rw [if_pos ⟨rfl, rfl⟩]; rfl
  · match f with
    | 0 =>
      show Value.int (Int32.ofInt (if _ then _ else _)) = _
      rw [if_neg (fun z => hne (by have := z.2; omega))]; rfl
    | 1 => rfl
    | j + 2 => rfl
theorem a_putL {idx o ci k : Nat} {l : List Nat} {kz x : Int} (hd : decode μ.2.1 pc = .ok (.putfield idx, 3)) (fl : FP μ.1.cls idx ci k .long) (sk : skl[o]? = some (5, ci, l)) (hk : l[k]? = some 1) (hz : (k : Int) = kz) (kk : AW d μ Q (pc + 3) ls st (wL h o kz x)) : AW d μ Q pc ls (vL x :: vR o (-1) :: st) h := by
  subst hz
  refine a_putf hd fl sk hk (fun _ => rfl) (fun _ => rfl) (fun ad => ?_) (fun ad k' f hne => ?_) (fun ad cA => enc_wL) (fun hh hv => ok_wL hh hv) kk
  · show Value.long (Int64.ofInt (if _ then _ else _)) = _
    rw [if_pos ⟨rfl, rfl⟩]; rfl
  · match f with
    | 0 => rfl
    | 1 =>
      show Value.long (Int64.ofInt (if _ then _ else _)) = _
      rw [if_neg (fun z => hne (by have := z.2; omega))]; rfl
    | j + 2 => rfl
/-- (o, r) is an array of the kind t (0 int, 1 byte, 2 boolean) with n places -/
def isA (t : Nat) (o : Nat) (r : Int) (n : Nat) : Prop := (r = -1 ∧ ∃ l, skl[o]? = some (t, n, l)) ∨ (t = 0 ∧ r ≠ -1 ∧ ∃ n', skl[o]? = some (4, n', [n]))
theorem isA_enc {t o n : Nat} {r : Int} (ht : t < 3) (ha : isA t o r n) {ad : Nat → Int → Nat} {cA : Nat → ClassId} : encE ad cA h o r = .inl (cA t, n, .inl (fun k => Int32.ofInt (rdA h o r k))) := by
  rcases ha with ⟨rfl, l, hs⟩ | ⟨rfl, hr, n', hs⟩
  · rw [enc_at hs]
    match t, ht with
    | 0, _ => rfl
    | 1, _ => rfl
    | 2, _ => rfl
  · rw [enc_row hs hr]
    unfold rdA
    simp only [if_neg hr]
def tyA : Nat → FieldType
  | 0 => .int
  | 1 => .byte
  | _ => .boolean
theorem a_iald {o n : Nat} {r i : Int} (hd : decode μ.2.1 pc = .ok (.iaload, 1)) (ha : isA 0 o r n) (hb : inb i n) (kk : AW d μ Q (pc + 1) ls (vI (rdA h o r i) :: st) h) : AW d μ Q pc ls (vI i :: vR o r :: st) h := by
  intro p l e s m args below meth c H locs lsC ad dC dI cA A C hs
  have hi : inI i := okS_hd hs
  have he := ws_at (ad := ad) (cA := cA) (h := h) (okS_hd (okS_tl hs))
  rw [isA_enc (by decide) ha] at he
  refine va_iald C.1.1 C.1.2.1 C.1.2.2.2.2.2.2.2.1 C.2.2.1 _ 0 he rfl (inb_vp hb hi) hd ?_
  rw [clampI hb.1 hi, Int.toNat_of_nonneg hb.1]
  refine kk p l e s m args below meth c H locs lsC ad dC dI cA A C (okS_cons ?_ (okS_tl (okS_tl hs)))
  show inI (rdA h o r i)
  unfold rdA
  split
  · exact C.2.2.2.2.2.1 _ _
  · exact C.2.2.2.2.2.2.2 _ _ _
theorem a_bald {o n : Nat} {i : Int} (hd : decode μ.2.1 pc = .ok (.baload, 1)) (ha : isA 1 o (-1) n) (hb : inb i n) (kk : AW d μ Q (pc + 1) ls (vI (h.1 o i) :: st) h) : AW d μ Q pc ls (vI i :: vR o (-1) :: st) h := by
  intro p l e s m args below meth c H locs lsC ad dC dI cA A C hs
  have hi : inI i := okS_hd hs
  have he := ws_at (ad := ad) (cA := cA) (h := h) (okS_hd (okS_tl hs))
  rw [isA_enc (by decide) ha] at he
  refine va_bald C.1.1 C.1.2.1 C.1.2.2.2.2.2.2.2.1 C.2.2.1 _ 1 he rfl (inb_vp hb hi) hd ?_
  rw [clampI hb.1 hi, Int.toNat_of_nonneg hb.1]
  exact kk p l e s m args below meth c H locs lsC ad dC dI cA A C (okS_cons (C.2.2.2.2.2.1 _ _) (okS_tl (okS_tl hs)))
theorem a_zald {o n : Nat} {i : Int} (hd : decode μ.2.1 pc = .ok (.baload, 1)) (ha : isA 2 o (-1) n) (hb : inb i n) (kk : AW d μ Q (pc + 1) ls (vI (h.1 o i) :: st) h) : AW d μ Q pc ls (vI i :: vR o (-1) :: st) h := by
  intro p l e s m args below meth c H locs lsC ad dC dI cA A C hs
  have hi : inI i := okS_hd hs
  have he := ws_at (ad := ad) (cA := cA) (h := h) (okS_hd (okS_tl hs))
  rw [isA_enc (by decide) ha] at he
  refine va_zald C.1.1 C.1.2.1 C.1.2.2.2.2.2.2.2.1 C.2.2.1 _ 2 he rfl (inb_vp hb hi) hd ?_
  rw [clampI hb.1 hi, Int.toNat_of_nonneg hb.1]
  exact kk p l e s m args below meth c H locs lsC ad dC dI cA A C (okS_cons (C.2.2.2.2.2.1 _ _) (okS_tl (okS_tl hs)))
theorem a_lald {o n : Nat} {l : List Nat} {i : Int} (hd : decode μ.2.1 pc = .ok (.laload, 1)) (sk : skl[o]? = some (3, n, l)) (hb : inb i n) (kk : AW d μ Q (pc + 1) ls (vL (h.2.1 o i) :: st) h) : AW d μ Q pc ls (vI i :: vR o (-1) :: st) h := by
  intro p l e s m args below meth c H locs lsC ad dC dI cA A C hs
  have hi : inI i := okS_hd hs
  have he := ws_at (ad := ad) (cA := cA) (h := h) (okS_hd (okS_tl hs))
  rw [enc_at sk] at he
  refine va_lald C.1.1 C.1.2.1 C.1.2.2.2.2.2.2.2.1 C.2.2.1 _ 3 he rfl (inb_vp hb hi) hd ?_
  rw [clampI hb.1 hi, Int.toNat_of_nonneg hb.1]
  exact kk p l e s m args below meth c H locs lsC ad dC dI cA A C (okS_cons (v := vL (h.2.1 o i)) (C.2.2.2.2.2.2.1 _ _) (okS_tl (okS_tl hs)))
theorem a_aald {o n m0 : Nat} {i : Int} (hd : decode μ.2.1 pc = .ok (.aaload, 1)) (sk : skl[o]? = some (4, n, [m0])) (hb : inb i n) (kk : AW d μ Q (pc + 1) ls (vR o i :: st) h) : AW d μ Q pc ls (vI i :: vR o (-1) :: st) h := by
  intro p l e s m args below meth c H locs lsC ad dC dI cA A C hs
  have hi : inI i := okS_hd hs
  have he := ws_at (ad := ad) (cA := cA) (h := h) (okS_hd (okS_tl hs))
  rw [enc_at sk] at he
  have hin := inb_vp hb hi
  have hlt : (Int32.ofInt i).toNatClampNeg < n := Nat.not_le.mp fun q => hin (Or.inr q)
  have k2 := kk p l e s m args below meth c H locs lsC ad dC dI cA A C (okS_cons (v := vR o i) (vid_row sk hb.1 hb.2) (okS_tl (okS_tl hs)))
  refine W.aald (v := .ref (ad o i)) (ty := .array .int) C.1.1 C.1.2.1 (C.2.2.1 _ _ he) ((C.1.2.2.2.2.2.2.2.1.2 4 _ rfl).1 n (fun j => va_rf (some (ad o (j : Int))))) rfl (fun q => by cases q) (by show ¬ (_ < 0 ∨ (arrV _ _ _).slots.size ≤ _); rw [arrV_size]; exact hin) (by show (arrV _ _ _).slots[_]? = _; rw [arrV_read _ _ hlt, clampI hb.1 hi]; show some (Value.ref (ad o ((i.toNat : Nat) : Int))) = _; rw [Int.toNat_of_nonneg hb.1]) rfl rfl hd k2
theorem a_alen {t o n : Nat} {r : Int} (hd : decode μ.2.1 pc = .ok (.arraylength, 1)) (ht : t < 3) (ha : isA t o r n) (hn : n < 2147483648) (kk : AW d μ Q (pc + 1) ls (vI (n : Int) :: st) h) : AW d μ Q pc ls (vR o r :: st) h := by
  intro p l e s m args below meth c H locs lsC ad dC dI cA A C hs
  have he := ws_at (ad := ad) (cA := cA) (h := h) (okS_hd hs)
  rw [isA_enc ht ha] at he
  have k2 := kk p l e s m args below meth c H locs lsC ad dC dI cA A C (okS_cons (v := vI (n : Int)) (show inI (n : Int) from ⟨by omega, by omega⟩) (okS_tl hs))
  have hv : Int32.ofNat n = Int32.ofInt (n : Int) := by rw [Int32.ofInt_eq_ofNat]
  have h3 : t = 0 ∨ t = 1 ∨ t = 2 := by omega
  rcases h3 with rfl | rfl | rfl
  · exact va_alen C.1.1 C.1.2.1 C.1.2.2.2.2.2.2.2.1 C.2.2.1 _ 0 he rfl hv hd k2
  · exact va_alen C.1.1 C.1.2.1 C.1.2.2.2.2.2.2.2.1 C.2.2.1 _ 1 he rfl hv hd k2
  · exact va_alen C.1.1 C.1.2.1 C.1.2.2.2.2.2.2.2.1 C.2.2.1 _ 2 he rfl hv hd k2
theorem upd_ofInt {f : Int → Int} {i x : Int} (h0 : 0 ≤ i) : upd (fun k : Nat => Int32.ofInt (f (k : Int))) i.toNat (Int32.ofInt x) = fun k : Nat => Int32.ofInt (if (k : Int) = i then x else f (k : Int)) := by
  funext k
  unfold upd
  by_cases hk : k = i.toNat
  · rw [if_pos hk, if_pos (by omega)]
  · rw [if_neg hk, if_neg (by omega)]
theorem a_iast {o n : Nat} {l : List Nat} {i x : Int} (hd : decode μ.2.1 pc = .ok (.iastore, 1)) (sk : skl[o]? = some (0, n, l)) (hb : inb i n) (kk : AW d μ Q (pc + 1) ls st (wI h o i x)) : AW d μ Q pc ls (vI x :: vI i :: vR o (-1) :: st) h := by
  intro p l e s m args below meth c H locs lsC ad dC dI cA A C hs
  have hi : inI i := okS_hd (okS_tl hs)
  have hvid : vid o (-1) := okS_hd (okS_tl (okS_tl hs))
  have he := ws_at (ad := ad) (cA := cA) (h := h) hvid
  rw [enc_at sk] at he
  refine va_iast C.1.1 C.1.2.1 C.1.2.2.2.2.2.2.2.1 C.2.2.1 C.2.2.2.1 C.2.2.2.2.1 _ 0 he rfl (inb_vp hb hi) hd (fun H1 locs1 gP gD gS => ?_)
  rw [clampI hb.1 hi, upd_ofInt (f := fun k => h.1 o k) hb.1] at gP gD
  have hset := ws_set (ad := ad) (cA := cA) (h := h) (h' := wI h o i x) hvid (e := .inl (cA 0, n, .inl (fun k : Nat => Int32.ofInt (if (k : Int) = i then x else h.1 o (k : Int))))) (by rw [enc_at sk]; simp [encP, wI]) enc_wI
  rw [hset] at gP gD
  exact kk p l e s m args below meth c H1 locs1 lsC ad dC dI cA A ⟨C.1, C.2.1, gP, gD, gS, ok_wI C.2.2.2.2.2 (okS_hd hs)⟩ (okS_tl (okS_tl (okS_tl hs)))
theorem a_iastR {o n m0 : Nat} {r i x : Int} (hd : decode μ.2.1 pc = .ok (.iastore, 1)) (sk : skl[o]? = some (4, n, [m0])) (hr : r ≠ -1) (hb : inb i m0) (kk : AW d μ Q (pc + 1) ls st (wR h o r i x)) : AW d μ Q pc ls (vI x :: vI i :: vR o r :: st) h := by
  intro p l e s m args below meth c H locs lsC ad dC dI cA A C hs
  have hi : inI i := okS_hd (okS_tl hs)
  have hvid : vid o r := okS_hd (okS_tl (okS_tl hs))
  have he := ws_at (ad := ad) (cA := cA) (h := h) hvid
  rw [enc_row sk hr] at he
  refine va_iast C.1.1 C.1.2.1 C.1.2.2.2.2.2.2.2.1 C.2.2.1 C.2.2.2.1 C.2.2.2.2.1 _ 0 he rfl (inb_vp hb hi) hd (fun H1 locs1 gP gD gS => ?_)
  rw [clampI hb.1 hi, upd_ofInt (f := fun k => h.2.2 o r k) hb.1] at gP gD
  have hset := ws_set (ad := ad) (cA := cA) (h := h) (h' := wR h o r i x) hvid (e := .inl (cA 0, m0, .inl (fun k : Nat => Int32.ofInt (if (k : Int) = i then x else h.2.2 o r (k : Int))))) (by rw [enc_row sk hr]; simp [wR]) (enc_wR hr)
  rw [hset] at gP gD
  exact kk p l e s m args below meth c H1 locs1 lsC ad dC dI cA A ⟨C.1, C.2.1, gP, gD, gS, ok_wR C.2.2.2.2.2 (okS_hd hs)⟩ (okS_tl (okS_tl (okS_tl hs)))
theorem a_zast {o n : Nat} {l : List Nat} {i x : Int} (hd : decode μ.2.1 pc = .ok (.bastore, 1)) (sk : skl[o]? = some (2, n, l)) (hb : inb i n) (hx : x = 0 ∨ x = 1) (kk : AW d μ Q (pc + 1) ls st (wI h o i x)) : AW d μ Q pc ls (vI x :: vI i :: vR o (-1) :: st) h := by
  intro p l e s m args below meth c H locs lsC ad dC dI cA A C hs
  have hi : inI i := okS_hd (okS_tl hs)
  have hvid : vid o (-1) := okS_hd (okS_tl (okS_tl hs))
  have he := ws_at (ad := ad) (cA := cA) (h := h) hvid
  rw [enc_at sk] at he
  refine va_zast C.1.1 C.1.2.1 C.1.2.2.2.2.2.2.2.1 C.2.2.1 C.2.2.2.1 C.2.2.2.2.1 _ 2 he rfl (inb_vp hb hi) hd (fun H1 locs1 gP gD gS => ?_)
  have hnar : vp_nar .boolean (Int32.ofInt x) = Int32.ofInt x := by rcases hx with rfl | rfl <;> rfl
  rw [hnar, clampI hb.1 hi, upd_ofInt (f := fun k => h.1 o k) hb.1] at gP gD
  have hset := ws_set (ad := ad) (cA := cA) (h := h) (h' := wI h o i x) hvid (e := .inl (cA 2, n, .inl (fun k : Nat => Int32.ofInt (if (k : Int) = i then x else h.1 o (k : Int))))) (by rw [enc_at sk]; simp [encP, wI]) enc_wI
  rw [hset] at gP gD
  exact kk p l e s m args below meth c H1 locs1 lsC ad dC dI cA A ⟨C.1, C.2.1, gP, gD, gS, ok_wI C.2.2.2.2.2 (okS_hd hs)⟩ (okS_tl (okS_tl (okS_tl hs)))
theorem a_bast {o n : Nat} {l : List Nat} {i x : Int} (hd : decode μ.2.1 pc = .ok (.bastore, 1)) (sk : skl[o]? = some (1, n, l)) (hb : inb i n) (hx : -128 ≤ x ∧ x < 128) (kk : AW d μ Q (pc + 1) ls st (wI h o i x)) : AW d μ Q pc ls (vI x :: vI i :: vR o (-1) :: st) h := by
  intro p l e s m args below meth c H locs lsC ad dC dI cA A C hs
  have hi : inI i := okS_hd (okS_tl hs)
  have hvid : vid o (-1) := okS_hd (okS_tl (okS_tl hs))
  have he := ws_at (ad := ad) (cA := cA) (h := h) hvid
  rw [enc_at sk] at he
  refine va_bast C.1.1 C.1.2.1 C.1.2.2.2.2.2.2.2.1 C.2.2.1 C.2.2.2.1 C.2.2.2.2.1 _ 1 he rfl (inb_vp hb hi) hd (fun H1 locs1 gP gD gS => ?_)
  have hnar : vp_nar .byte (Int32.ofInt x) = Int32.ofInt x := by
    show (Int32.ofInt x).toInt8.toInt32 = Int32.ofInt x
    rw [Int32.toInt8_ofInt, Int8.toInt32_ofInt (by have := hx.1; exact this) (by have := hx.2; show x ≤ 127; omega)]
  rw [hnar, clampI hb.1 hi, upd_ofInt (f := fun k => h.1 o k) hb.1] at gP gD
  have hset := ws_set (ad := ad) (cA := cA) (h := h) (h' := wI h o i x) hvid (e := .inl (cA 1, n, .inl (fun k : Nat => Int32.ofInt (if (k : Int) = i then x else h.1 o (k : Int))))) (by rw [enc_at sk]; simp [encP, wI]) enc_wI
  rw [hset] at gP gD
  exact kk p l e s m args below meth c H1 locs1 lsC ad dC dI cA A ⟨C.1, C.2.1, gP, gD, gS, ok_wI C.2.2.2.2.2 (okS_hd hs)⟩ (okS_tl (okS_tl (okS_tl hs)))
theorem a_last {o n : Nat} {l : List Nat} {i x : Int} (hd : decode μ.2.1 pc = .ok (.lastore, 1)) (sk : skl[o]? = some (3, n, l)) (hb : inb i n) (kk : AW d μ Q (pc + 1) ls st (wL h o i x)) : AW d μ Q pc ls (vL x :: vI i :: vR o (-1) :: st) h := by
  intro p l e s m args below meth c H locs lsC ad dC dI cA A C hs
  have hi : inI i := okS_hd (okS_tl hs)
  have hvid : vid o (-1) := okS_hd (okS_tl (okS_tl hs))
  have he := ws_at (ad := ad) (cA := cA) (h := h) hvid
  rw [enc_at sk] at he
  refine va_last C.1.1 C.1.2.1 C.1.2.2.2.2.2.2.2.1 C.2.2.1 C.2.2.2.1 C.2.2.2.2.1 _ 3 he rfl (inb_vp hb hi) hd (fun H1 locs1 gP gD gS => ?_)
  have hu : vp_updL (fun k : Nat => Int64.ofInt (h.2.1 o (k : Int))) i.toNat (Int64.ofInt x) = fun k : Nat => Int64.ofInt (if (k : Int) = i then x else h.2.1 o (k : Int)) := by
    funext k
    unfold vp_updL
    have h0 := hb.1
    by_cases hk : k = i.toNat
    · rw [if_pos hk, if_pos (by omega)]
    · rw [if_neg hk, if_neg (by omega)]
  rw [clampI hb.1 hi, hu] at gP gD
  have hset := ws_set (ad := ad) (cA := cA) (h := h) (h' := wL h o i x) hvid (e := .inl (cA 3, n, .inr (.inl (fun k : Nat => Int64.ofInt (if (k : Int) = i then x else h.2.1 o (k : Int)))))) (by rw [enc_at sk]; simp [encP, wL]) enc_wL
  rw [hset] at gP gD
  exact kk p l e s m args below meth c H1 locs1 lsC ad dC dI cA A ⟨C.1, C.2.1, gP, gD, gS, ok_wL C.2.2.2.2.2 (okS_hd hs)⟩ (okS_tl (okS_tl (okS_tl hs)))
end AWR

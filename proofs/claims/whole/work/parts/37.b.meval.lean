/-! the reference reckons its law -/
theorem codeAt_app {h : AH} {o : Nat} {off : Int} {l l' : List Int} (q : codeAt h o off (l ++ l')) : codeAt h o off l ∧ codeAt h o (off + l.length) l' := by
  constructor
  · intro i v hv
    exact q i v (by rw [List.getElem?_append_left (List.getElem?_eq_some_iff.mp hv).1]; exact hv)
  · intro i v hv
    have := q (l.length + i) v (by rw [List.getElem?_append_right (by omega), Nat.add_sub_cancel_left]; exact hv)
    rw [show off + ((l.length + i : Nat) : Int) = off + (l.length : Int) + i by omega] at this
    exact this
theorem codeAt_cons {h : AH} {o : Nat} {off v : Int} {l : List Int} (q : codeAt h o off (v :: l)) : h.1 o off = v ∧ codeAt h o (off + 1) l := by
  constructor
  · have := q 0 v rfl
    rw [show off + ((0 : Nat) : Int) = off by omega] at this
    exact this
  · intro i w hw
    have := q (i + 1) w hw
    rw [show off + ((i + 1 : Nat) : Int) = off + 1 + i by omega] at this
    exact this
theorem codeAt_fr {h h' : AH} {L : List Nat} {F : List (Nat × Int)} {o : Nat} {off : Int} {l : List Int} (q : codeAt h o off l) (e : ∀ k, h'.1 o k = h.1 o k) : codeAt h' o off l := fun i v hv => by rw [e]; exact q i v hv
theorem code_parts {op v : Int} (h0 : 0 ≤ op) (v0 : 0 ≤ v) (v1 : v < 1048576) : Int.tdiv (1048576 * op + v) 1048576 = op ∧ Int.tmod (1048576 * op + v) 1048576 = v := by
  rw [Int.tdiv_eq_ediv_of_nonneg (by omega), Int.tmod_eq_emod_of_nonneg (by omega)]
  omega
/-- what the operation op makes of two numbers -/
def opV (op x y : Int) : Option Int := if op = 2 then some (w32 (x + y)) else if op = 3 then some (w32 (x - y)) else if op = 4 then some (w32 (x * y)) else if op = 5 then (if y = 0 then none else some (w32 (x.tdiv y))) else if op = 6 then (if y = 0 then none else some (x.tmod y)) else if op = 7 then some (if x < y then 1 else 0) else if op = 8 then some (if y < x then 1 else 0) else some (if x = y then 1 else 0)
def two (op : Int) (a b : Option Int) : Option Int := a.bind fun x => b.bind fun y => opV op x y
section ME
variable {d : Nat} {h : AH} {K : Int → AH → Prop}
theorem mReckon (hd : 0 < d) {op x y : Int} (h2 : 2 ≤ op) (h9 : op ≤ 9) (hz : op = 5 ∨ op = 6 → y ≠ 0) (k : ∀ v, opV op x y = some v → K v h) : Call d M_M_reckon [vI op, vI x, vI y] h K := by
  unfold opV at k
  refine c_M_reckon 0 hd ⟨fun e => ?_, fun e => ?_, fun e => ?_, fun e => ⟨hz (Or.inl e), ?_⟩, fun e => ⟨hz (Or.inr e), ?_⟩, fun e => ⟨fun c => ?_, fun c => ?_⟩, fun e => ⟨fun c => ?_, fun c => ?_⟩, fun e => ⟨fun c => ?_, fun c => ?_⟩⟩
  · exact k _ (by rw [if_pos e])
  · exact k _ (by rw [if_neg (by omega), if_pos e])
  · exact k _ (by rw [if_neg (by omega), if_neg (by omega), if_pos e])
  · exact k _ (by rw [if_neg (by omega), if_neg (by omega), if_neg (by omega), if_pos e, if_neg (hz (Or.inl e))])
  · exact k _ (by rw [if_neg (by omega), if_neg (by omega), if_neg (by omega), if_neg (by omega), if_pos e, if_neg (hz (Or.inr e))])
  · exact k _ (by rw [if_neg (by omega), if_neg (by omega), if_neg (by omega), if_neg (by omega), if_neg (by omega), if_pos e, if_neg (by omega)])
  · exact k _ (by rw [if_neg (by omega), if_neg (by omega), if_neg (by omega), if_neg (by omega), if_neg (by omega), if_pos e, if_pos (by omega)])
  · exact k _ (by rw [if_neg (by omega), if_neg (by omega), if_neg (by omega), if_neg (by omega), if_neg (by omega), if_neg (by omega), if_pos e, if_neg (by omega)])
  · exact k _ (by rw [if_neg (by omega), if_neg (by omega), if_neg (by omega), if_neg (by omega), if_neg (by omega), if_neg (by omega), if_pos e, if_pos (by omega)])
  · exact k _ (by rw [if_neg (by omega), if_neg (by omega), if_neg (by omega), if_neg (by omega), if_neg (by omega), if_neg (by omega), if_neg (by omega), if_neg c])
  · exact k _ (by rw [if_neg (by omega), if_neg (by omega), if_neg (by omega), if_neg (by omega), if_neg (by omega), if_neg (by omega), if_neg (by omega), if_pos c])
/-- an operation on the two on top -/
theorem mOp {to n pc op x y : Int} (h2 : 2 ≤ op) (h9 : op ≤ 9) (hc : h.1 71 pc = 1048576 * op) (p0 : 0 ≤ pc) (p1 : pc < to) (p2 : to ≤ 180) (n0 : 0 ≤ n) (n1 : n + 2 ≤ pc) (ex : h.1 76 n = x) (ey : h.1 76 (n + 1) = y) (kF : opV op x y = none → K 0 h) (kT : ∀ v, opV op x y = some v → A_M_comesTo_16 1 K to (n + 1) 0 (pc + 1) (wI h 76 n v)) : A_M_comesTo_16 1 K to (n + 2) 0 pc h := by
  have cp := code_parts (op := op) (v := 0) (by omega) (by decide) (by decide)
  rw [Int.add_zero, ← hc] at cp
  have go : (op = 5 ∨ op = 6 → y ≠ 0) → A_M_comesTo_203 1 K to (n + 2 - 1) 0 (pc + 1) op h := fun hz => by
    refine s_M_comesTo_203 ?_
    rw [show n + 2 - 1 - 1 = n by omega, show n + 2 - 1 = n + 1 by omega, ex, ey]
    exact ⟨ii (by omega), ib (by omega), ib (by omega), mReckon (by decide) h2 h9 hz (fun v hv => kT v hv)⟩
  have chk : (op = 5 ∨ op = 6) → A_M_comesTo_192 1 K to (n + 2 - 1) 0 (pc + 1) op h := fun ho => s_M_comesTo_192 (by
    rw [show n + 2 - 1 = n + 1 by omega, ey]
    refine ⟨ib (by omega), fun z => ?_, fun z => kF ?_⟩
    · have := go (fun _ => z)
      rw [show n + 2 - 1 = n + 1 by omega] at this
      exact this
    · unfold opV
      rcases ho with ho | ho
      · rw [if_neg (by omega), if_neg (by omega), if_neg (by omega), if_pos ho, if_pos z]
      · rw [if_neg (by omega), if_neg (by omega), if_neg (by omega), if_neg (by omega), if_pos ho, if_pos z])
  refine s_M_comesTo_16 ⟨fun z => by omega, fun _ => ⟨ib (by omega), ?_⟩⟩
  rw [cp.1, cp.2]
  refine ⟨ii (by omega), ii (by omega), fun z => by omega, fun _ => ⟨fun _ => ⟨fun _ => ⟨fun z => by omega, fun _ => ⟨fun _ => ⟨ii (by omega), fun z => chk (Or.inl z), fun z5 => ⟨fun z6 => go (fun z => by omega), fun z => chk (Or.inr z)⟩⟩, fun z => by omega⟩⟩, fun z => by omega⟩, fun z => by omega⟩⟩
/-- what an expression does -/
def RunE (f : Nat → Int) (K : Int → AH → Prop) (to : Int) (l : List Int) (r : Option Int) : Prop := ∀ (n off : Int) (hh : AH), codeAt hh 71 off l → FacM f hh → 0 ≤ n → n ≤ off → off + l.length ≤ to → (r = none → ∀ h', Fr [76] [] hh h' → K 0 h') → (∀ v, r = some v → ∀ h', Fr [76] [] hh h' → h'.1 76 n = v → (∀ i, i < n → h'.1 76 i = hh.1 76 i) → A_M_comesTo_16 1 K to (n + 1) 0 (off + l.length) h') → A_M_comesTo_16 1 K to n 0 off hh
theorem RunE.two {f : Nat → Int} {to op : Int} {la lb : List Int} {a b : Option Int} (h2 : 2 ≤ op) (h9 : op ≤ 9) (ht : to ≤ 180) (na : 1 ≤ la.length) (nb : 1 ≤ lb.length) (ra : RunE f K to la a) (rb : RunE f K to lb b) : RunE f K to (la ++ (lb ++ [1048576 * op])) (two op a b) := by
  intro n off hh cc fm n0 n1 l1 kF kT
  obtain ⟨c1, c2⟩ := codeAt_app cc
  obtain ⟨c2, c3⟩ := codeAt_app c2
  have c3 := (codeAt_cons c3).1
  simp only [List.length_append, List.length_cons, List.length_nil] at l1 kT
  refine ra n off hh c1 fm n0 n1 (by omega) (fun z h' f' => kF (by rw [z]; rfl) h' f') (fun x hx h1 f1 e1 s1 => ?_)
  have g1 : ∀ k, h1.1 71 k = hh.1 71 k := fun k => by rw [f1.i 71]
  refine rb (n + 1) _ h1 (codeAt_fr (L := [76]) (F := []) c2 g1) (fun j hj => by rw [f1.i 77]; exact fm j hj) (by omega) (by omega) (by omega) (fun z h' f' => kF (by rw [hx, z]; rfl) h' (f1.trans f')) (fun y hy h2' f2 e2 s2 => ?_)
  have g2 : ∀ k, h2'.1 71 k = h1.1 71 k := fun k => by rw [f2.i 71]
  rw [show n + 1 + 1 = n + 2 by omega]
  refine mOp (x := x) (y := y) h2 h9 (by rw [g2, g1]; exact c3) (by omega) (by omega) ht n0 (by omega) (by rw [s2 n (by omega)]; exact e1) e2 (fun z => kF (by rw [hx, hy]; exact z) h2' (f1.trans f2)) (fun v hv => ?_)
  have := kT v (by rw [hx, hy]; exact hv) (wI h2' 76 n v) ((f1.trans f2).trans (Fr.wI (Or.inl (by decide)))) rI_eq (fun i hi => by rw [rI_nk (by omega), s2 i (by omega), s1 i hi])
  rw [show off + ((la.length + (lb.length + (0 + 1)) : Nat) : Int) = off + (la.length : Int) + lb.length + 1 by omega] at this
  exact this
theorem mE_len : ∀ E, WfE E → 1 ≤ (mE E).length := by
  intro E hE
  cases E <;> first | exact hE.elim | (simp only [mE, List.length_append, List.length_cons, List.length_nil]; omega)
theorem RunE.push {f : Nat → Int} {to w x : Int} (ht : to ≤ 180) (hw : (0 ≤ w ∧ w ≤ 99999 ∧ x = w) ∨ (∃ j : Nat, j < 9 ∧ w = 1048576 + (j : Int) ∧ x = f j)) : RunE f K to [w] (some x) := by
  intro n off hh cc fm n0 n1 l1 kF kT
  have c := (codeAt_cons cc).1
  simp only [List.length_cons, List.length_nil] at l1 kT
  have put : ∀ s1, s1 = n → A_M_comesTo_85 1 K to n 0 (off + 1) s1 x hh := fun s1 hs => s_M_comesTo_85 (by
    rw [hs]
    refine ⟨ib (by omega), ii (by omega), ?_⟩
    have := kT x rfl (wI hh 76 n x) (Fr.wI (Or.inl (by decide))) rI_eq (fun i hi => rI_nk (by omega))
    exact this)
  refine s_M_comesTo_16 ⟨fun z => by omega, fun _ => ⟨ib (by omega), ?_⟩⟩
  rw [c]
  rcases hw with ⟨w0, w1, w2⟩ | ⟨j, j1, j2, j3⟩
  · have cp := code_parts (op := 0) (v := w) (by decide) w0 (by omega)
    rw [Int.mul_zero, Int.zero_add] at cp
    rw [cp.1, cp.2]
    exact ⟨ii (by omega), ii (by omega), fun _ => s_M_comesTo_63 ⟨fun z => absurd rfl z, fun _ => by rw [← w2]; exact put n rfl⟩, fun z => absurd rfl z⟩
  · have cp := code_parts (op := 1) (v := (j : Int)) (by decide) (by omega) (by omega)
    rw [show (1048576 : Int) * 1 + (j : Int) = w by omega] at cp
    rw [cp.1, cp.2]
    refine ⟨ii (by omega), ii (by omega), fun z => by omega, fun _ => ⟨fun z => absurd rfl z, fun _ => s_M_comesTo_63 ⟨fun _ => ⟨ib (by omega), ?_⟩, fun z => by omega⟩⟩⟩
    rw [fm j j1, ← j3]
    exact put n rfl
theorem mRunE {f : Nat → Int} {to : Int} (ht : to ≤ 180) : ∀ E, WfE E → RunE f K to (mE E) (evE f E) := by
  intro E
  induction E with
  | int v => intro w; exact RunE.push ht (Or.inl ⟨w.1, w.2, rfl⟩)
  | arg j => intro w; exact RunE.push ht (Or.inr ⟨j, w, rfl, rfl⟩)
  | add a b iha ihb => intro w; exact RunE.two (op := 2) (by decide) (by decide) ht (mE_len a w.1) (mE_len b w.2) (iha w.1) (ihb w.2)
  | sub a b iha ihb => intro w; exact RunE.two (op := 3) (by decide) (by decide) ht (mE_len a w.1) (mE_len b w.2) (iha w.1) (ihb w.2)
  | mul a b iha ihb => intro w; exact RunE.two (op := 4) (by decide) (by decide) ht (mE_len a w.1) (mE_len b w.2) (iha w.1) (ihb w.2)
  | div a b iha ihb => intro w; exact RunE.two (op := 5) (by decide) (by decide) ht (mE_len a w.1) (mE_len b w.2) (iha w.1) (ihb w.2)
  | rem a b iha ihb => intro w; exact RunE.two (op := 6) (by decide) (by decide) ht (mE_len a w.1) (mE_len b w.2) (iha w.1) (ihb w.2)
  | _ => intro w; exact w.elim
end ME

section MC
variable {d : Nat} {h : AH} {K : Int → AH → Prop}
def bI (b : Bool) : Int := if b = true then 1 else 0
/-- what a condition does -/
def RunC (f : Nat → Int) (K : Int → AH → Prop) (to off : Int) (l : List Int) (r : Option Bool) : Prop := ∀ (n : Int) (hh : AH), codeAt hh 71 off l → FacM f hh → 0 ≤ n → n ≤ off → off + l.length ≤ to → (r = none → ∀ h', Fr [76] [] hh h' → K 0 h') → (∀ v, r = some v → ∀ h', Fr [76] [] hh h' → h'.1 76 n = bI v → (∀ i, i < n → h'.1 76 i = hh.1 76 i) → A_M_comesTo_16 1 K to (n + 1) 0 (off + l.length) h') → A_M_comesTo_16 1 K to n 0 off hh
theorem RunC.cmp {f : Nat → Int} {to off op : Int} {E1 E2 : Jvm.Term} {r : Option Bool} (h7 : 7 ≤ op) (h9 : op ≤ 9) (ht : to ≤ 180) (w1 : WfE E1) (w2 : WfE E2) (hr : r = (evE f E1).bind fun x => (evE f E2).bind fun y => (opV op x y).map (fun v => decide (v = 1))) : RunC f K to off (mE E1 ++ (mE E2 ++ [1048576 * op])) r := by
  intro n hh cc fm n0 n1 l1 kF kT
  have go := RunE.two (K := K) (to := to) (op := op) (by omega) h9 ht (mE_len E1 w1) (mE_len E2 w2) (mRunE (f := f) ht E1 w1) (mRunE (f := f) ht E2 w2)
  refine go n off hh cc fm n0 n1 l1 (fun z h' f' => kF ?_ h' f') (fun v hv h' f' e' s' => kT (decide (v = 1)) ?_ h' f' ?_ s')
  · rw [hr]
    unfold two at z
    cases hx : evE f E1 with
    | none => rfl
    | some x =>
      rw [hx] at z
      cases hy : evE f E2 with
      | none => rfl
      | some y =>
        rw [hy] at z
        have z : opV op x y = none := z
        show (opV op x y).map _ = none
        rw [z]; rfl
  · rw [hr]
    unfold two at hv
    cases hx : evE f E1 with
    | none => rw [hx] at hv; cases hv
    | some x =>
      rw [hx] at hv
      cases hy : evE f E2 with
      | none => rw [hy] at hv; cases hv
      | some y =>
        rw [hy] at hv
        have hv : opV op x y = some v := hv
        show (opV op x y).map _ = _
        rw [hv]; rfl
  · rw [e']
    have h01 : v = 1 ∨ v = 0 := by
      unfold two at hv
      cases hx : evE f E1 with
      | none => rw [hx] at hv; cases hv
      | some x =>
        rw [hx] at hv
        cases hy : evE f E2 with
        | none => rw [hy] at hv; cases hv
        | some y =>
          rw [hy] at hv
          have hv : opV op x y = some v := hv
          unfold opV at hv
          rw [if_neg (by omega), if_neg (by omega), if_neg (by omega), if_neg (by omega), if_neg (by omega)] at hv
          split at hv
          · cases hv; split <;> simp
          · split at hv
            · cases hv; split <;> simp
            · cases hv; split <;> simp
    rcases h01 with z | z
    · rw [z]; rfl
    · rw [z]; rfl
theorem mC_len : ∀ C off, WfC C → 1 ≤ (mC off C).length := by
  intro C
  induction C with
  | lt a b => intro off w; simp only [mC, List.length_append, List.length_cons, List.length_nil]; omega
  | le a b => intro off w; simp only [mC, List.length_append, List.length_cons, List.length_nil]; omega
  | eq a b => intro off w; simp only [mC, List.length_append, List.length_cons, List.length_nil]; omega
  | not c ih => intro off w; simp only [mC, List.length_append, List.length_cons, List.length_nil]; omega
  | and c e ihc ihe => intro off w; simp only [mC, List.length_append, List.length_cons]; omega
  | or c e ihc ihe => intro off w; simp only [mC, List.length_append, List.length_cons]; omega
  | all t c ih => intro off w; exact ih off w
  | _ => intro off w; exact w.elim
theorem mRunC {f : Nat → Int} {to : Int} (ht : to ≤ 180) : ∀ C off, WfC C → RunC f K to off (mC off C) (evC f C) := by
  intro C
  induction C with
  | lt a b =>
    intro off w
    refine RunC.cmp (op := 7) (by decide) (by decide) ht w.1 w.2 ?_
    show (evE f a).bind _ = _
    congr 1; funext x; congr 1; funext y
    show some (decide (x < y)) = (some (if x < y then (1 : Int) else 0)).map (fun v => decide (v = 1))
    by_cases z : x < y <;> simp [z]
  | le a b =>
    intro off w
    refine RunC.cmp (op := 8) (by decide) (by decide) ht w.1 w.2 ?_
    show (evE f a).bind _ = _
    congr 1; funext x; congr 1; funext y
    show some (decide (y < x)) = (some (if y < x then (1 : Int) else 0)).map (fun v => decide (v = 1))
    by_cases z : y < x <;> simp [z]
  | eq a b =>
    intro off w
    refine RunC.cmp (op := 9) (by decide) (by decide) ht w.1 w.2 ?_
    show (evE f a).bind _ = _
    congr 1; funext x; congr 1; funext y
    show some (decide (x = y)) = (some (if x = y then (1 : Int) else 0)).map (fun v => decide (v = 1))
    by_cases z : x = y <;> simp [z]
  | all t c ih => intro off w; exact ih off w
  | not c ih =>
    intro off w n hh cc fm n0 n1 l1 kF kT
    have cc : codeAt hh 71 off (mC off c ++ [10485760]) := cc
    have l1 : off + ((mC off c ++ [10485760]).length : Int) ≤ to := l1
    have kT : ∀ v, (evC f c).bind (fun x => some (!x)) = some v → ∀ h', Fr [76] [] hh h' → h'.1 76 n = bI v → (∀ i, i < n → h'.1 76 i = hh.1 76 i) → A_M_comesTo_16 1 K to (n + 1) 0 (off + ((mC off c ++ [10485760]).length : Int)) h' := kT
    obtain ⟨c1, c2⟩ := codeAt_app cc
    have c2 := (codeAt_cons c2).1
    simp only [List.length_append, List.length_cons, List.length_nil] at l1 kT
    refine ih off w n hh c1 fm n0 n1 (by omega) (fun z h' f' => kF (by show (evC f c).bind _ = none; rw [z]; rfl) h' f') (fun v hv h1 f1 e1 s1 => ?_)
    have lc := mC_len c off w
    refine s_M_comesTo_16 ⟨fun z => by omega, fun _ => ⟨ib (by omega), ?_⟩⟩
    rw [f1.i 71, c2]
    have cp := code_parts (op := 10) (v := 0) (by decide) (by decide) (by decide)
    rw [show (1048576 : Int) * 10 + 0 = 10485760 by decide] at cp
    rw [cp.1, cp.2, show n + 1 - 1 = n by omega, e1]
    have bb : bI v = 0 ∨ bI v = 1 := by cases v <;> simp [bI]
    refine ⟨ii (by omega), ii (by omega), fun z => by omega, fun _ => ⟨fun _ => ⟨fun z => absurd rfl z, fun _ => ⟨ii (by omega), ib (by omega), ii (by omega), ?_⟩⟩, fun z => by omega⟩⟩
    have := kT (!v) (by rw [hv]; rfl) (wI h1 76 n (1 - bI v)) (f1.trans (Fr.wI (Or.inl (by decide)))) (by rw [rI_eq]; cases v <;> rfl) (fun i hi => by rw [rI_nk (by omega)]; exact s1 i hi)
    rw [show off + (((mC off c).length + (0 + 1) : Nat) : Int) = off + ((mC off c).length : Int) + 1 by omega] at this
    exact this
  | and c e ihc ihe =>
    intro off w n hh cc fm n0 n1 l1 kF kT
    have lc := mC_len c off w.1
    generalize hq : off + ((mC off c).length : Int) + 1 = q at *
    have cc : codeAt hh 71 off (mC off c ++ ((11534336 + (off + (mC off c).length + 1 + (mC (off + (mC off c).length + 1) e).length)) :: mC (off + (mC off c).length + 1) e)) := cc
    have l1 : off + ((mC off c ++ ((11534336 + (off + (mC off c).length + 1 + (mC (off + (mC off c).length + 1) e).length)) :: mC (off + (mC off c).length + 1) e)).length : Int) ≤ to := l1
    have kT : ∀ v, (evC f c).bind (fun x => if x then evC f e else some false) = some v → ∀ h', Fr [76] [] hh h' → h'.1 76 n = bI v → (∀ i, i < n → h'.1 76 i = hh.1 76 i) → A_M_comesTo_16 1 K to (n + 1) 0 (off + ((mC off c ++ ((11534336 + (off + (mC off c).length + 1 + (mC (off + (mC off c).length + 1) e).length)) :: mC (off + (mC off c).length + 1) e)).length : Int)) h' := kT
    have kF : (evC f c).bind (fun x => if x then evC f e else some false) = none → ∀ h', Fr [76] [] hh h' → K 0 h' := kF
    rw [hq] at cc l1 kT
    obtain ⟨c1, c2⟩ := codeAt_app cc
    obtain ⟨c2, c3⟩ := codeAt_cons c2
    rw [hq] at c3
    simp only [List.length_append, List.length_cons] at l1 kT
    refine ihc off w.1 n hh c1 fm n0 n1 (by omega) (fun z h' f' => kF (by rw [z]; rfl) h' f') (fun v hv h1 f1 e1 s1 => ?_)
    refine s_M_comesTo_16 ⟨fun z => by omega, fun _ => ⟨ib (by omega), ?_⟩⟩
    rw [f1.i 71, c2]
    have cp := code_parts (op := 11) (v := q + (mC q e).length) (by decide) (by omega) (by omega)
    rw [show (1048576 : Int) * 11 = 11534336 by decide] at cp
    rw [cp.1, cp.2]
    refine ⟨ii (by omega), ii (by omega), fun z => by omega, fun _ => ⟨fun _ => ⟨fun _ => ⟨fun _ => s_M_comesTo_135 ?_, fun z => by omega⟩, fun z => by omega⟩, fun z => by omega⟩⟩
    rw [show n + 1 - 1 = n by omega, e1, if_neg (show ¬ (11 : Int) = 12 by decide), hq]
    refine ⟨ii (by omega), ib (by omega), fun z => ?_, fun z => ?_⟩
    · have hv1 : v = true := by cases v with | true => rfl | false => exact absurd rfl z
      refine ihe q w.2 n h1 (codeAt_fr (L := [76]) (F := []) c3 (fun k => by rw [f1.i 71])) (fun j hj => by rw [f1.i 77]; exact fm j hj) n0 (by omega) (by omega) (fun y h' f' => kF (by rw [hv, hv1]; exact y) h' (f1.trans f')) (fun u hu h2 f2 e2 s2 => ?_)
      have := kT u (by rw [hv, hv1]; exact hu) h2 (f1.trans f2) e2 (fun i hi => by rw [s2 i hi, s1 i hi])
      rw [show off + (((mC off c).length + ((mC q e).length + 1) : Nat) : Int) = q + ((mC q e).length : Int) by omega] at this
      exact this
    · have hv1 : v = false := by cases v with | false => rfl | true => exact absurd z (by decide)
      have := kT false (by rw [hv, hv1]; rfl) h1 f1 (by rw [e1, hv1]) s1
      rw [show off + (((mC off c).length + ((mC q e).length + 1) : Nat) : Int) = 0 + (q + ((mC q e).length : Int)) by omega] at this
      exact ⟨ii (by omega), this⟩
  | or c e ihc ihe =>
    intro off w n hh cc fm n0 n1 l1 kF kT
    have lc := mC_len c off w.1
    generalize hq : off + ((mC off c).length : Int) + 1 = q at *
    have cc : codeAt hh 71 off (mC off c ++ ((12582912 + (off + (mC off c).length + 1 + (mC (off + (mC off c).length + 1) e).length)) :: mC (off + (mC off c).length + 1) e)) := cc
    have l1 : off + ((mC off c ++ ((12582912 + (off + (mC off c).length + 1 + (mC (off + (mC off c).length + 1) e).length)) :: mC (off + (mC off c).length + 1) e)).length : Int) ≤ to := l1
    have kT : ∀ v, (evC f c).bind (fun x => if x then some true else evC f e) = some v → ∀ h', Fr [76] [] hh h' → h'.1 76 n = bI v → (∀ i, i < n → h'.1 76 i = hh.1 76 i) → A_M_comesTo_16 1 K to (n + 1) 0 (off + ((mC off c ++ ((12582912 + (off + (mC off c).length + 1 + (mC (off + (mC off c).length + 1) e).length)) :: mC (off + (mC off c).length + 1) e)).length : Int)) h' := kT
    have kF : (evC f c).bind (fun x => if x then some true else evC f e) = none → ∀ h', Fr [76] [] hh h' → K 0 h' := kF
    rw [hq] at cc l1 kT
    obtain ⟨c1, c2⟩ := codeAt_app cc
    obtain ⟨c2, c3⟩ := codeAt_cons c2
    rw [hq] at c3
    simp only [List.length_append, List.length_cons] at l1 kT
    refine ihc off w.1 n hh c1 fm n0 n1 (by omega) (fun z h' f' => kF (by rw [z]; rfl) h' f') (fun v hv h1 f1 e1 s1 => ?_)
    refine s_M_comesTo_16 ⟨fun z => by omega, fun _ => ⟨ib (by omega), ?_⟩⟩
    rw [f1.i 71, c2]
    have cp := code_parts (op := 12) (v := q + (mC q e).length) (by decide) (by omega) (by omega)
    rw [show (1048576 : Int) * 12 = 12582912 by decide] at cp
    rw [cp.1, cp.2]
    refine ⟨ii (by omega), ii (by omega), fun z => by omega, fun _ => ⟨fun _ => ⟨fun _ => ⟨fun z => by omega, fun _ => ⟨fun z => absurd rfl z, fun _ => s_M_comesTo_135 ?_⟩⟩, fun z => by omega⟩, fun z => by omega⟩⟩
    rw [show n + 1 - 1 = n by omega, e1, if_pos (show (12 : Int) = 12 from rfl), hq]
    refine ⟨ii (by omega), ib (by omega), fun z => ?_, fun z => ?_⟩
    · have hv1 : v = false := by cases v with | false => rfl | true => exact absurd rfl z
      refine ihe q w.2 n h1 (codeAt_fr (L := [76]) (F := []) c3 (fun k => by rw [f1.i 71])) (fun j hj => by rw [f1.i 77]; exact fm j hj) n0 (by omega) (by omega) (fun y h' f' => kF (by rw [hv, hv1]; exact y) h' (f1.trans f')) (fun u hu h2 f2 e2 s2 => ?_)
      have := kT u (by rw [hv, hv1]; exact hu) h2 (f1.trans f2) e2 (fun i hi => by rw [s2 i hi, s1 i hi])
      rw [show off + (((mC off c).length + ((mC q e).length + 1) : Nat) : Int) = q + ((mC q e).length : Int) by omega] at this
      exact this
    · have hv1 : v = true := by cases v with | true => rfl | false => exact absurd z (by decide)
      have := kT true (by rw [hv, hv1]; rfl) h1 f1 (by rw [e1, hv1]) s1
      rw [show off + (((mC off c).length + ((mC q e).length + 1) : Nat) : Int) = 0 + (q + ((mC q e).length : Int)) by omega] at this
      exact ⟨ii (by omega), this⟩
  | _ => intro off w; exact w.elim
theorem mComesE (hd : 1 < d) {f : Nat → Int} {E : Jvm.Term} {fr to : Int} (w : WfE E) (f0 : 0 ≤ fr) (e : to = fr + (mE E).length) (ht : to ≤ 180) (cc : codeAt h 71 fr (mE E)) (fm : FacM f h) (k : ∀ h', Fr [76] [] h h' → K ((evE f E).getD 0) h') : Call d M_M_comesTo [vR 12 (-1), vI fr, vI to] h K := by
  have l1 := mE_len E w
  have td : Int.tdiv fr 180 = 0 := by rw [Int.tdiv_eq_ediv_of_nonneg f0]; omega
  refine c_M_comesTo 1 hd ?_
  rw [td]
  refine ⟨ii (by omega), ii (by omega), mRunE (K := K) (f := f) ht E w 0 fr h cc fm (Int.le_refl 0) f0 (by omega) (fun z h' f' => by have := k h' f'; rw [z] at this; exact this) (fun v hv h' f' e' _ => ?_)⟩
  refine s_M_comesTo_16 ⟨fun _ => ?_, fun z => by omega⟩
  rw [e']
  have := k h' f'
  rw [hv] at this
  exact this
theorem mComesC (hd : 1 < d) {f : Nat → Int} {C : Jvm.Cond} {fr to : Int} (w : WfC C) (f0 : 0 ≤ fr) (e : to = fr + (mC fr C).length) (ht : to ≤ 180) (cc : codeAt h 71 fr (mC fr C)) (fm : FacM f h) (kT : evC f C = some true → ∀ h', Fr [76] [] h h' → K 1 h') (kF : evC f C ≠ some true → ∀ h', Fr [76] [] h h' → K 0 h') : Call d M_M_comesTo [vR 12 (-1), vI fr, vI to] h K := by
  have l1 := mC_len C fr w
  have td : Int.tdiv fr 180 = 0 := by rw [Int.tdiv_eq_ediv_of_nonneg f0]; omega
  refine c_M_comesTo 1 hd ?_
  rw [td]
  refine ⟨ii (by omega), ii (by omega), mRunC (K := K) (f := f) ht C fr w 0 h cc fm (Int.le_refl 0) f0 (by omega) (fun z h' f' => kF (by rw [z]; exact fun y => by cases y) h' f') (fun v hv h' f' e' _ => ?_)⟩
  refine s_M_comesTo_16 ⟨fun _ => ?_, fun z => by omega⟩
  rw [e']
  cases v with
  | true => exact kT hv h' f'
  | false => exact kF (by rw [hv]; exact fun y => by cases y) h' f'
theorem mCostOf2 (hd : 2 < d) {f : Nat → Int} {lw : LW} (r : RepML lw h) (q : FacM f h) (k : ∀ h', Fr [76] [] h h' → K (if costL f lw none = 0 then 1000000000 else costL f lw none) h') : Call d M_M_costOf [vR 12 (-1)] h K := by
  refine c_M_costOf 2 hd ?_
  have key : ∀ (l : LW) (j : Nat) (c : Option Int) (v1 : Int) (hh : AH), lw.drop j = l → Fr [76] [] h hh → ((c = none ∧ v1 = -1) ∨ (c = some v1 ∧ 1 ≤ v1 ∧ v1 ≤ 99)) → costL f lw none = costL f l c → A_M_costOf_4 2 K v1 j hh := by
    intro l
    induction l with
    | nil =>
      intro j c v1 hh hl ff hc hk
      have hj : lw.length ≤ j := List.drop_eq_nil_iff.mp hl
      have kk := k hh ff
      rw [hk] at kk
      refine s_M_costOf_4 ?_
      rw [ff.i 12, r.1.1]
      refine ⟨fun _ => ⟨fun z => ?_, fun z => ?_⟩, fun z => by omega⟩
      · rcases hc with ⟨_, c2⟩ | ⟨c1, c2⟩
        · exact absurd c2 z
        · rw [c1] at kk
          have kk : K (if v1 = 0 then 1000000000 else v1) hh := kk
          rw [if_neg (by omega)] at kk; exact kk
      · rcases hc with ⟨c1, _⟩ | ⟨c1, c2⟩
        · rw [c1] at kk; exact kk
        · omega
    | cons cl l ih =>
      intro j c v1 hh hl ff hc hk
      have hj : j < lw.length := by
        rcases Nat.lt_or_ge j lw.length with z | z
        · exact z
        · rw [List.drop_eq_nil_iff.mpr z] at hl; cases hl
      have hcl : lw[j]? = some cl := by
        have := congrArg List.head? hl
        rw [List.head?_drop] at this
        exact this
      have hl' : lw.drop (j + 1) = l := by
        have := congrArg List.tail hl
        rw [List.tail_drop] at this
        exact this
      obtain ⟨E, C⟩ := cl
      have rr := (r.fr ff).2 j E C hcl
      have fm : FacM f hh := fun i hi => by rw [ff.i 77]; exact q i hi
      obtain ⟨wC, e72, b73, b75, e75, cC, hE⟩ := rr
      have nl := r.1.2
      refine s_M_costOf_4 ?_
      rw [ff.i 12, r.1.1]
      refine ⟨fun z => by omega, fun _ => ⟨ib (by omega), ?_⟩⟩
      have next : ∀ c' v1' h', Fr [76] [] hh h' → ((c' = none ∧ v1' = -1) ∨ (c' = some v1' ∧ 1 ≤ v1' ∧ v1' ≤ 99)) → costL f lw none = costL f l c' → inI ((j : Int) + 1) ∧ A_M_costOf_4 2 K v1' ((j : Int) + 1) h' := fun c' v1' h' f' hc' hk' => ⟨ii (by omega), ih (j + 1) c' v1' h' hl' (ff.trans f') hc' hk'⟩
      have b74 : 0 ≤ hh.1 74 j := by
        cases E with
        | none => have hE : hh.1 74 j = hh.1 73 j := hE; omega
        | some e => have hE := hE.2.1; omega
      cases E with
      | none =>
        have e72 : hh.1 72 j = 110 := e72
        rw [e72]
        refine ⟨fun _ => s_M_costOf_28 ⟨ib (by omega), mComesC (by decide) wC b74 e75 b75 cC fm (fun hT h' f' => ⟨fun _ => ⟨fun z => absurd (by rw [f'.i 72]; exact e72) z, fun _ => ?_⟩, fun z => absurd rfl z⟩) (fun hF h' f' => ⟨fun z => absurd z (by decide), fun _ => next c v1 h' f' hc ?_⟩)⟩, fun z => absurd z (by decide)⟩
        · have kk := k h' (ff.trans f')
          have e0 : costL f ((none, C) :: l) c = 0 := by
            show (if evC f C = some true then 0 else costL f l c) = 0
            rw [if_pos hT]
          rw [hk, e0, if_pos rfl] at kk
          exact kk
        · rw [hk]
          show (if evC f C = some true then 0 else costL f l c) = costL f l c
          rw [if_neg hF]
      | some e =>
        obtain ⟨wE, e74, cE⟩ := hE
        have e72 : hh.1 72 j = 99 := e72
        rw [e72]
        refine ⟨fun z => absurd rfl z, fun _ => ⟨fun z => ?_, fun z => ?_⟩⟩
        · rcases hc with ⟨_, c2⟩ | ⟨c1, c2⟩
          · exact absurd c2 z
          · refine next c v1 hh Fr.refl (Or.inr ⟨c1, c2⟩) ?_
            rw [hk, c1]
            show costL f l (some v1) = _
            rfl
        · rcases hc with ⟨c1, c2⟩ | ⟨c1, c2⟩
          · refine s_M_costOf_28 ⟨ib (by omega), mComesC (by decide) wC b74 e75 b75 cC fm (fun hT h' f' => ⟨fun _ => ⟨fun _ => ?_, fun z => absurd (by rw [f'.i 72] at z; exact e72.symm.trans z) (by decide)⟩, fun z => absurd rfl z⟩) (fun hF h' f' => ⟨fun z => absurd z (by decide), fun _ => next c v1 h' f' (Or.inl ⟨c1, c2⟩) ?_⟩)⟩
            · rw [f'.i 73, f'.i 74]
              refine mComesE (f := f) (by decide) wE b73 e74 (by have := mC_len C (hh.1 74 j) wC; omega) (codeAt_fr (L := [76]) (F := []) cE (fun k => by rw [f'.i 71])) (fun i hi => by rw [f'.i 77]; exact fm i hi) (fun h2 f2 => ?_)
              generalize hv : (evE f e).getD 0 = v
              have ev : (if 1 ≤ v then (if v ≤ 99 then v else 99) else 1) = clamp v := by
                unfold clamp
                split
                · split <;> omega
                · omega
              rw [ev]
              refine next (some (clamp v)) (clamp v) h2 (f'.trans f2) (Or.inr ⟨rfl, by unfold clamp; omega⟩) ?_
              rw [hk, c1]
              show (if evC f C = some true then costL f l (some (clamp ((evE f e).getD 0))) else costL f l none) = _
              rw [if_pos hT, hv]
            · rw [hk, c1]
              show (if evC f C = some true then costL f l (some (clamp ((evE f e).getD 0))) else costL f l none) = _
              rw [if_neg hF]
          · omega
  exact key lw 0 none (-1) h rfl Fr.refl (Or.inl ⟨rfl, rfl⟩) rfl
end MC

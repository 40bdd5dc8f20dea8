/-! returns -/
section AWC
variable {d : Nat} {μ : Mi} {Q : Int → AH → Prop} {pc : Nat} {ls : List (Option AV)} {st : List AV} {h : AH}
theorem bp_end {s t : State} {H : Heap} {m : MethodId} {args : Array Value} {meth : Method} {c : Code} {p : Program} {locs : List Loc} {lsC : Array Slot} {ad : Nat → Int → Nat} {dC : Nat → ClassId} {dI : Nat → Nat → Nat} {cA : Nat → ClassId} {A : Nat → Prop} (C : Cx p s m args meth c H locs lsC ad dC dI cA A μ ls h) (ht : t.heap = H) (hW : s.WarmedH t.vm) : BP ad dC dI cA A h t := ⟨by rw [ht]; exact C.2.2.1, va_K.moved hW.alike C.1.2.2.2.2.2.2.2.1, C.2.2.2.1, C.2.2.2.2.2⟩
theorem a_iret {x : Int} (hd : decode μ.2.1 pc = .ok (.ireturn, 1)) (hr : μ.2.2.2 = some .int) (hq : Q x h) : AW d μ Q pc ls [vI x] h := by
  intro p l e s m args below meth c H locs lsC ad dC dI cA A C hs
  have hx : inI x := okS_hd hs
  refine W.iret (v := Int32.ofInt x) C.1.1 C.1.2.1 (C.1.2.2.2.1.trans hr) (fun t ht hW => ?_) C.2.2.2.2.1.2.2 hd C.1.2.2.2.2.1
  rw [hr]
  exact ⟨⟨Int32.ofInt x, h, rfl, (show Q (Int32.ofInt x).toInt h by rw [okI hx]; exact hq), bp_end C ht hW⟩, C.2.2.2.2.1.F ht⟩
theorem a_zret {x : Int} (hd : decode μ.2.1 pc = .ok (.ireturn, 1)) (hr : μ.2.2.2 = some .boolean) (h01 : x = 0 ∨ x = 1) (hq : Q x h) : AW d μ Q pc ls [vI x] h := by
  intro p l e s m args below meth c H locs lsC ad dC dI cA A C hs
  have hx : inI x := okS_hd hs
  refine W.zret (v := Int32.ofInt x) C.1.1 C.1.2.1 (C.1.2.2.2.1.trans hr) (by rcases h01 with rfl | rfl <;> rfl) (fun t ht hW => ?_) C.2.2.2.2.1.2.2 hd C.1.2.2.2.2.1
  rw [hr]
  exact ⟨⟨Int32.ofInt x, h, rfl, (show Q (Int32.ofInt x).toInt h by rw [okI hx]; exact hq), bp_end C ht hW⟩, C.2.2.2.2.1.F ht⟩
theorem a_lret {x : Int} (hd : decode μ.2.1 pc = .ok (.lreturn, 1)) (hr : μ.2.2.2 = some .long) (hq : Q x h) : AW d μ Q pc ls [vL x] h := by
  intro p l e s m args below meth c H locs lsC ad dC dI cA A C hs
  have hx : inL x := okS_hd hs
  refine W.lret (v := Int64.ofInt x) C.1.1 C.1.2.1 (C.1.2.2.2.1.trans hr) (fun t ht hW => ?_) C.2.2.2.2.1.2.2 hd C.1.2.2.2.2.1
  rw [hr]
  exact ⟨⟨Int64.ofInt x, h, rfl, (show Q (Int64.ofInt x).toInt h by rw [okL hx]; exact hq), bp_end C ht hW⟩, C.2.2.2.2.1.F ht⟩
theorem a_vret (hd : decode μ.2.1 pc = .ok (.return_, 1)) (hr : μ.2.2.2 = none) (hq : Q 0 h) : AW d μ Q pc ls [] h := by
  intro p l e s m args below meth c H locs lsC ad dC dI cA A C hs
  refine W.vret C.1.1 C.1.2.1 (C.1.2.2.2.1.trans hr) (fun t ht hW => ?_) C.2.2.2.2.1.2.2 hd C.1.2.2.2.2.1
  rw [hr]
  exact ⟨⟨h, rfl, hq, bp_end C ht hW⟩, C.2.2.2.2.1.F ht⟩
end AWC
/-! a method's contract: called with these, its calls at most d deep, it comes back with Q -/
def wsY (μ : Mi) : List Cond := .code μ.1 μ.2.1 μ.2.2.1 μ.2.2.2 :: TB
def Big (d : Nat) (μ : Mi) (as : List AV) (h : AH) (Q : Int → AH → Prop) : Prop := (∀ v ∈ as, Okv v) → OkH h →
  ∀ (l : Launch) (ad : Nat → Int → Nat) (dC : Nat → ClassId) (dI : Nat → Nat → Nat) (cA : Nat → ClassId) (sz : Nat),
    Met l μ.1 (wsY μ) (rmA d) (va_Pc (as.map (cv ad)) (fun U => U.heap.size = sz ∧ va_P (dC, dI) vwCl (wsOf ad cA h) U.heap ∧ va_K (dC, dI) vwCl (tysOf cA) U ∧ va_D (fun _ => True) (wsOf ad cA h) ∧ SC (va_A (wsOf ad cA h) sz) U)) (QA ad dC dI cA (va_A (wsOf ad cA h) sz) μ.2.2.2 Q) 0 0 (va_A (wsOf ad cA h) sz)
/-- the same, at some depth below d -/
def Call (d : Nat) (μ : Mi) (as : List AV) (h : AH) (Q : Int → AH → Prop) : Prop := ∃ d', d' < d ∧ Big d' μ as h Q
theorem QA.mono {ad : Nat → Int → Nat} {dC : Nat → ClassId} {dI : Nat → Nat → Nat} {cA : Nat → ClassId} {A : Nat → Prop} {ret : Option FieldType} {Q Q' : Int → AH → Prop} (hq : ∀ r h, OkH h → Q r h → Q' r h) {a : Array Value} {s : State} {o : Outcome} {t : State} (h : QA ad dC dI cA A ret Q a s o t) : QA ad dC dI cA A ret Q' a s o t := by
  unfold QA at h ⊢
  split at h
  · obtain ⟨⟨u, h1, h2, h3⟩, h4⟩ := h
    exact ⟨⟨u, h1, hq _ _ h3.2.2.2 h2, h3⟩, h4⟩
  · obtain ⟨⟨r, u, h1, h2, h3⟩, h4⟩ := h
    exact ⟨⟨r, u, h1, hq _ _ h3.2.2.2 h2, h3⟩, h4⟩
  · obtain ⟨⟨r, u, h1, h2, h3⟩, h4⟩ := h
    exact ⟨⟨r, u, h1, hq _ _ h3.2.2.2 h2, h3⟩, h4⟩
theorem Big.mono {d : Nat} {μ : Mi} {as : List AV} {h : AH} {Q Q' : Int → AH → Prop} (k : Big d μ as h Q) (hq : ∀ r h, OkH h → Q r h → Q' r h) : Big d μ as h Q' := by
  intro h1 h2 l ad dC dI cA sz p e a1 a2 a3 s m args below hf happ hP hK
  obtain ⟨n, o, b1, b2, b3, b4, b5⟩ := k h1 h2 l ad dC dI cA sz p e a1 a2 a3 s m args below hf happ hP hK
  exact ⟨n, o, b1, b2, b3, QA.mono hq b4, b5⟩
theorem Call.mono {d : Nat} {μ : Mi} {as : List AV} {h : AH} {Q Q' : Int → AH → Prop} (k : Call d μ as h Q) (hq : ∀ r h, OkH h → Q r h → Q' r h) : Call d μ as h Q' := by
  obtain ⟨d', h1, h2⟩ := k
  exact ⟨d', h1, h2.mono hq⟩
theorem Call.up {d d2 : Nat} {μ : Mi} {as : List AV} {h : AH} {Q : Int → AH → Prop} (k : Call d μ as h Q) (hd : d ≤ d2) : Call d2 μ as h Q := by
  obtain ⟨d', h1, h2⟩ := k
  exact ⟨d', Nat.lt_of_lt_of_le h1 hd, h2⟩
/-- the locals at a method's entry -/
def argL : List AV → List (Option AV)
  | [] => []
  | v :: vs => if isLong (some (some v)) then some v :: none :: argL vs else some v :: argL vs
def locs0 (as : List AV) (n : Nat) : List (Option AV) := argL as ++ List.replicate (n - (argL as).length) none
theorem argL_get {ad : Nat → Int → Nat} : ∀ (as : List AV) (b i : Nat) (v : AV), (argL as)[i]? = some (some v) → (b + i, cv ad v) ∈ lv_args b (as.map (cv ad))
  | [], b, i, v, h => by simp [argL] at h
  | a :: as, b, i, v, h => by
    unfold argL at h
    by_cases hl : isLong (some (some a)) = true
    · rw [if_pos hl] at h
      have hc : (cv ad a).category = 2 := by
        match a, hl with
        | .inr (.inl _), _ => rfl
      show _ ∈ (b, cv ad a) :: lv_args (if (cv ad a).category = 2 then b + 2 else b + 1) (as.map (cv ad))
      rw [if_pos hc]
      match i, h with
      | 0, h =>
        cases Option.some.inj (Option.some.inj h)
        exact List.mem_cons_self
      | 1, h => cases h
      | i + 2, h =>
        have := argL_get (ad := ad) as (b + 2) i v h
        rw [show b + (i + 2) = b + 2 + i by omega]
        exact List.mem_cons_of_mem _ this
    · rw [if_neg hl] at h
      have hc : ¬ (cv ad a).category = 2 := by
        rw [long_cat hl]; decide
      show _ ∈ (b, cv ad a) :: lv_args (if (cv ad a).category = 2 then b + 2 else b + 1) (as.map (cv ad))
      rw [if_neg hc]
      match i, h with
      | 0, h =>
        cases Option.some.inj (Option.some.inj h)
        exact List.mem_cons_self
      | i + 1, h =>
        have := argL_get (ad := ad) as (b + 1) i v h
        rw [show b + (i + 1) = b + 1 + i by omega]
        exact List.mem_cons_of_mem _ this
theorem argL_len {ad : Nat → Int → Nat} : ∀ (as : List AV), (argL as).length = (lg_sl (as.map (cv ad))).length
  | [] => rfl
  | a :: as => by
    have ih := argL_len (ad := ad) as
    unfold argL
    by_cases hl : isLong (some (some a)) = true
    · rw [if_pos hl]
      have hc : (cv ad a).category = 2 := by
        match a, hl with
        | .inr (.inl _), _ => rfl
      simp [lg_sl, hc] at ih ⊢
      omega
    · rw [if_neg hl]
      have hc : ¬ (cv ad a).category = 2 := by
        rw [long_cat hl]; decide
      simp [lg_sl, hc] at ih ⊢
      omega
theorem argL_ok : ∀ (as : List AV), (∀ v ∈ as, Okv v) → ∀ v, some v ∈ argL as → Okv v
  | [], _, v, h => by cases h
  | a :: as, ha, v, h => by
    unfold argL at h
    have ih := argL_ok as (fun w hw => ha w (List.mem_cons_of_mem _ hw)) v
    split at h
    · rcases List.mem_cons.mp h with z | z
      · cases z; exact ha _ List.mem_cons_self
      · rcases List.mem_cons.mp z with y | y
        · cases y
        · exact ih y
    · rcases List.mem_cons.mp h with z | z
      · cases z; exact ha _ List.mem_cons_self
      · exact ih z
theorem Big.of {d : Nat} {μ : Mi} {as : List AV} {h : AH} {Q : Int → AH → Prop} (hy : plainName μ.1.cls = true) (hn : (argL as).length ≤ μ.2.2.1) (k : AW d μ Q 0 (locs0 as μ.2.2.1) [] h) : Big d μ as h Q := by
  intro h1 h2 l ad dC dI cA sz
  refine Met.ofW (cc := μ.2.1) (maxL := μ.2.2.1) (ret := μ.2.2.2) hy rfl ?_
  intro p e s m args below meth c s₁ B hml hv
  obtain ⟨rfl, hsz, hP, hK, hD0, hSC⟩ := hv
  have hts := atoms_spec (ws := wsY μ) B.pre
  subst hsz
  have hle : (lg_sl (as.map (cv ad))).length ≤ μ.2.2.1 := by rw [← argL_len (ad := ad)]; exact hn
  have hl := lv_entry (as.map (cv ad)) (n := μ.2.2.1) hle
  rw [lg_entry_eq]
  refine k p l e s m _ below meth c s.heap [] _ ad dC dI cA (va_A (wsOf ad cA h) s.heap.size) ⟨⟨B.exec, B.bytes, hml, B.returns, B.notSynchronized, findClass_of_methodNamed B.named, fun w hw => hts w (List.mem_cons_of_mem _ hw), hK, fun q hq => Or.inr hq, hSC⟩, ⟨⟨hl.1, hl.2.1, ?_, fun i v hi => ?_⟩, fun v hv => ?_⟩, hP, hD0.self, va_S.rf, h2⟩ (fun v hv => by cases hv)
  · unfold locs0
    rw [List.length_append, List.length_replicate]
    omega
  · refine hl.2.2 (i, cv ad v) ?_
    have hi2 : (argL as)[i]? = some (some v) := by
      unfold locs0 at hi
      by_cases hlt : i < (argL as).length
      · rw [List.getElem?_append_left hlt] at hi
        exact hi
      · rw [List.getElem?_append_right (by omega)] at hi
        have := List.eq_of_mem_replicate (List.mem_of_getElem? hi)
        cases this
    have := argL_get (ad := ad) as 0 i v hi2
    rw [Nat.zero_add] at this
    exact this
  · unfold locs0 at hv
    rcases List.mem_append.mp hv with z | z
    · exact argL_ok as h1 v z
    · have := List.eq_of_mem_replicate z
      cases this
/-! calls -/
theorem cells_pd {A : Nat → Prop} {ws : va_W} {H0 H : Heap} {locs : List Loc} (hD : va_D A ws) (hS : va_S A H0 H locs) (hA : ∀ q, H0.size ≤ q → A q) : ∀ q, va_A ws H.size q → A q := by
  intro q h
  rcases h with ⟨k, e, h⟩ | h
  · exact hD.2 k (q, e) h
  · exact hA q (Nat.le_trans hS.1 h)
section AWD
variable {d : Nat} {μ μ' : Mi} {Q : Int → AH → Prop} {pc n : Nat} {ls : List (Option AV)} {st : List AV} {h : AH}
theorem FB_Pc {as : List Value} {dC : Nat → ClassId} {dI : Nat → Nat → Nat} {sz : Nat} {tys : List (ClassId × FieldType)} {ws : va_W} {A : Nat → Prop} : FrameBlind (va_Pc as (fun U => U.heap.size = sz ∧ va_P (dC, dI) vwCl ws U.heap ∧ va_K (dC, dI) vwCl tys U ∧ va_D (fun _ => True) ws ∧ SC A U)) := by
  intro a U g mk q
  obtain ⟨q0, q1, qP, qK, qD, qS⟩ := q
  exact ⟨q0, q1, qP, va_K.moved (u := U) (U := U.calling g mk a) (Vm.Alike.refl U.vm) qK, qD, qS.calling⟩
theorem lv_good {own : String} {idx ci : Nat} (lk : LV own idx μ' n ci) : GoodIn TB (wsV own idx μ'.1.cls μ'.1 (wsY μ')) := by
  obtain ⟨⟨h1, h2, h3, h4, h5⟩, -⟩ := lk
  intro w hw
  unfold wsV wsY at hw
  simp only [List.mem_append, List.mem_cons, List.not_mem_nil, or_false] at hw
  rcases hw with (rfl | rfl | rfl | rfl) | rfl | hw
  · exact tb_good h1
  · exact tb_good h2
  · exact tb_good h3
  · exact tb_good h4
  · exact tb_good h5
  · exact tb_good hw
theorem lst_good {own : String} {idx : Nat} (lk : LSt own idx μ' n) : GoodIn TB (va_wsS own idx μ'.1 (wsY μ')) := by
  obtain ⟨⟨h1, h2, h3, h4⟩, -⟩ := lk
  intro w hw
  unfold va_wsS wsY at hw
  simp only [List.mem_append, List.mem_cons, List.not_mem_nil, or_false] at hw
  rcases hw with (rfl | rfl | rfl) | rfl | hw
  · exact tb_good h1
  · exact tb_good h2
  · exact tb_good h3
  · exact tb_good h4
  · exact tb_good hw
theorem rm_ok {d d' mL : Nat} (h : d' < d) (hm : mL ≤ 40) : (rmA d').frames + 1 ≤ (rmA d).frames ∧ 8 + (mL + 11) + (rmA d').locals ≤ (rmA d).locals := by
  show d' + 1 ≤ d ∧ 8 + (mL + 11) + 60 * d' ≤ 60 * d
  omega
/-- behind a call's run -/
theorem run_v {p : Program} {l : Launch} {e : Env} {s : State} {m : MethodId} {args : Array Value} {below : List Frame} {meth : Method} {c : Code} {H : Heap} {locs : List Loc} {lsC : Array Slot} {ad : Nat → Int → Nat} {dC : Nat → ClassId} {dI : Nat → Nat → Nat} {cA : Nat → ClassId} {A : Nat → Prop} {sv : List Value} {a : Array Value} {K : Int → AH → Prop} (C : Cx p s m args meth c H locs lsC ad dC dI cA A μ ls h) (hst : OkS st) (hret : μ'.2.2.2 = none)
    (hrun : va_Run p l e (rmA d) s m args below meth c H locs 0 0 0 0 (F0 m pc lsC sv) (st.map (cv ad)) (QA ad dC dI cA (va_A (wsOf ad cA h) H.size) μ'.2.2.2 K a) (va_A (wsOf ad cA h) H.size)) (hk : ∀ h', K 0 h' → AW d μ Q (pc + 3) ls st h') : W p l e (rmA d) s m args below meth c H locs 0 0 (MQ below (QA ad dC dI cA A μ.2.2.2 Q) args s 0 0 A) (F0 m pc lsC sv) := by
  have hF := cells_pd C.2.2.2.1 C.2.2.2.2.1 C.1.2.2.2.2.2.2.2.2.1
  have hrun2 : va_Run p l e (rmA d) s m args below meth c H locs 0 0 0 0 (F0 m pc lsC sv) (st.map (cv ad)) (va_Qv (S := AH) (fun h => K 0 h) (BP ad dC dI cA (va_A (wsOf ad cA h) H.size)) (va_A (wsOf ad cA h) H.size) a) (va_A (wsOf ad cA h) H.size) := by
    rw [hret] at hrun; exact hrun
  exact va_callv (S := AH) hrun2 C.2.2.2.2.1 (fun q _ z => hF q z) hF (fun h' t H1 locs1 ht hvm hw hb hz1 hk1 hS1 => hk h' hw p l e s m args below meth c H1 locs1 lsC ad dC dI cA A ⟨C.1, C.2.1, by rw [← ht]; exact hb.1, hb.2.2.1.weaken (fun _ _ _ z => hF _ z), hS1, hb.2.2.2⟩ hst)
theorem run_l {p : Program} {l : Launch} {e : Env} {s : State} {m : MethodId} {args : Array Value} {below : List Frame} {meth : Method} {c : Code} {H : Heap} {locs : List Loc} {lsC : Array Slot} {ad : Nat → Int → Nat} {dC : Nat → ClassId} {dI : Nat → Nat → Nat} {cA : Nat → ClassId} {A : Nat → Prop} {sv : List Value} {a : Array Value} {K : Int → AH → Prop} (C : Cx p s m args meth c H locs lsC ad dC dI cA A μ ls h) (hst : OkS st) (hret : μ'.2.2.2 = some .long)
    (hrun : va_Run p l e (rmA d) s m args below meth c H locs 0 0 0 0 (F0 m pc lsC sv) (st.map (cv ad)) (QA ad dC dI cA (va_A (wsOf ad cA h) H.size) μ'.2.2.2 K a) (va_A (wsOf ad cA h) H.size)) (hk : ∀ r h', K r h' → AW d μ Q (pc + 3) ls (vL r :: st) h') : W p l e (rmA d) s m args below meth c H locs 0 0 (MQ below (QA ad dC dI cA A μ.2.2.2 Q) args s 0 0 A) (F0 m pc lsC sv) := by
  have hF := cells_pd C.2.2.2.1 C.2.2.2.2.1 C.1.2.2.2.2.2.2.2.2.1
  have hrun2 : va_Run p l e (rmA d) s m args below meth c H locs 0 0 0 0 (F0 m pc lsC sv) (st.map (cv ad)) (va_Ql (S := AH) (fun r h => K r.toInt h) (BP ad dC dI cA (va_A (wsOf ad cA h) H.size)) (va_A (wsOf ad cA h) H.size) a) (va_A (wsOf ad cA h) H.size) := by
    rw [hret] at hrun; exact hrun
  refine va_calll (S := AH) hrun2 C.2.2.2.2.1 (fun q _ z => hF q z) hF (fun r h' t H1 locs1 ht hvm hw hb hz1 hk1 hS1 => ?_)
  have this := hk r.toInt h' hw p l e s m args below meth c H1 locs1 lsC ad dC dI cA A ⟨C.1, C.2.1, by rw [← ht]; exact hb.1, hb.2.2.1.weaken (fun _ _ _ z => hF _ z), hS1, hb.2.2.2⟩ (okS_cons (v := vL r.toInt) (inL_64 _) hst)
  rw [List.map_cons, show cv ad (vL r.toInt) = .long r by show Value.long (Int64.ofInt _) = _; rw [Int64.ofInt_toInt]] at this
  exact this
theorem run_i {p : Program} {l : Launch} {e : Env} {s : State} {m : MethodId} {args : Array Value} {below : List Frame} {meth : Method} {c : Code} {H : Heap} {locs : List Loc} {lsC : Array Slot} {ad : Nat → Int → Nat} {dC : Nat → ClassId} {dI : Nat → Nat → Nat} {cA : Nat → ClassId} {A : Nat → Prop} {sv : List Value} {a : Array Value} {K : Int → AH → Prop} (C : Cx p s m args meth c H locs lsC ad dC dI cA A μ ls h) (hst : OkS st) (hret : μ'.2.2.2 = some .int ∨ μ'.2.2.2 = some .boolean)
    (hrun : va_Run p l e (rmA d) s m args below meth c H locs 0 0 0 0 (F0 m pc lsC sv) (st.map (cv ad)) (QA ad dC dI cA (va_A (wsOf ad cA h) H.size) μ'.2.2.2 K a) (va_A (wsOf ad cA h) H.size)) (hk : ∀ r h', K r h' → AW d μ Q (pc + 3) ls (vI r :: st) h') : W p l e (rmA d) s m args below meth c H locs 0 0 (MQ below (QA ad dC dI cA A μ.2.2.2 Q) args s 0 0 A) (F0 m pc lsC sv) := by
  have hF := cells_pd C.2.2.2.1 C.2.2.2.2.1 C.1.2.2.2.2.2.2.2.2.1
  have hrun2 : va_Run p l e (rmA d) s m args below meth c H locs 0 0 0 0 (F0 m pc lsC sv) (st.map (cv ad)) (va_Qi (S := AH) (fun r h => K r.toInt h) (BP ad dC dI cA (va_A (wsOf ad cA h) H.size)) (va_A (wsOf ad cA h) H.size) a) (va_A (wsOf ad cA h) H.size) := by
    rcases hret with z | z <;> rw [z] at hrun <;> exact hrun
  refine va_calli (S := AH) hrun2 C.2.2.2.2.1 (fun q _ z => hF q z) hF (fun r h' t H1 locs1 ht hvm hw hb hz1 hk1 hS1 => ?_)
  have this := hk r.toInt h' hw p l e s m args below meth c H1 locs1 lsC ad dC dI cA A ⟨C.1, C.2.1, by rw [← ht]; exact hb.1, hb.2.2.1.weaken (fun _ _ _ z => hF _ z), hS1, hb.2.2.2⟩ (okS_cons (v := vI r.toInt) (inI_32 _) hst)
  rw [List.map_cons, show cv ad (vI r.toInt) = .int r by show Value.int (Int32.ofInt _) = _; rw [Int32.ofInt_toInt]] at this
  exact this
theorem cat_st {ad : Nat → Int → Nat} (hroom : (st.map (fun v => if isLong (some (some v)) then 2 else 1)).sum ≤ 8) : ((st.map (cv ad)).map (fun v => v.category)).sum ≤ 8 := by
  have : (st.map (cv ad)).map (fun v => v.category) = st.map (fun v => if isLong (some (some v)) then 2 else 1) := by
    rw [List.map_map]
    apply List.map_congr_left
    intro v _
    match v with
    | .inl _ => rfl
    | .inr (.inl _) => rfl
    | .inr (.inr _) => rfl
  rw [this]
  exact hroom
theorem run_V {p : Program} {l : Launch} {e : Env} {s : State} {m : MethodId} {args : Array Value} {below : List Frame} {meth : Method} {c : Code} {H : Heap} {locs : List Loc} {lsC : Array Slot} {ad : Nat → Int → Nat} {dC : Nat → ClassId} {dI : Nat → Nat → Nat} {cA : Nat → ClassId} {A : Nat → Prop} {K : Int → AH → Prop} {idx ci o : Nat} {l0 : List Nat} {as : List AV} (C : Cx p s m args meth c H locs lsC ad dC dI cA A μ ls h) (hs : OkS (as.reverse ++ vR o (-1) :: st)) (hd : decode μ.2.1 pc = .ok (.invokevirtual idx, 3)) (lk : LV μ.1.cls idx μ' n ci) (sk : skl[o]? = some (5, ci, l0)) (hn : as.length = n) (hroom : (st.map (fun v => if isLong (some (some v)) then 2 else 1)).sum ≤ 8) (k : Call d μ' (vR o (-1) :: as) h K) :
    va_Run p l e (rmA d) s m args below meth c H locs 0 0 0 0 (F0 m pc lsC ((as.reverse ++ vR o (-1) :: st).map (cv ad))) (st.map (cv ad)) (QA ad dC dI cA (va_A (wsOf ad cA h) H.size) μ'.2.2.2 K (Value.ref (ad o (-1)) :: as.map (cv ad)).toArray) (va_A (wsOf ad cA h) H.size) := by
  obtain ⟨d', hdd, hB⟩ := k
  have hr0 : ∀ v ∈ (vR o (-1) :: as), Okv v := fun v hv => by
    rcases List.mem_cons.mp hv with rfl | hv
    · exact hs _ (List.mem_append_right _ List.mem_cons_self)
    · exact hs _ (List.mem_append_left _ (List.mem_reverse.mpr hv))
  have hM := hB hr0 C.2.2.2.2.2 l ad dC dI cA H.size
  have lk2 := lk
  obtain ⟨-, ⟨hm1, hm2, hm3⟩, hmL, q, hq, hqc⟩ := lk2
  have he := ws_at (ad := ad) (cA := cA) (h := h) (o := o) (r := -1) (hr0 _ List.mem_cons_self)
  rw [enc_at sk] at he
  have hrecv := va_recv C.1.2.2.2.2.2.2.2.1 C.2.2.1 hq he
  rw [hqc] at hrecv
  exact va_runV (p := p) (e := e) (below := below) (meth := meth) (locs := locs) (cells := 0) (slots := 0) (g := F0 m pc lsC ((as.reverse ++ vR o (-1) :: st).map (cv ad))) (R := rmA d) (As := as.map (cv ad)) (rest := st.map (cv ad)) (b := ad o (-1)) (C := μ'.1.cls) (n := n) ⟨C.1.1, C.1.2.1, C.1.2.2.1, C.1.2.2.2.2.2.1, C.1.2.2.2.2.2.2.1⟩ hM (cwV n C.1.2.2.2.2.2.2.1 (lv_good lk) rfl rfl rfl ⟨rfl, hm1, hm2, hm3⟩ (rm_ok hdd hmL))
    ⟨FB_Pc, hrecv, fun U hU hW => ⟨rfl, by rw [hU], by rw [hU]; exact C.2.2.1, va_K.moved hW.alike C.1.2.2.2.2.2.2.2.1, C.2.2.2.1.weaken (fun _ _ _ _ => trivial), C.1.2.2.2.2.2.2.2.2.2.to C.2.2.2.2.1 (cells_pd C.2.2.2.1 C.2.2.2.2.1 C.1.2.2.2.2.2.2.2.2.1) hU hW⟩⟩ rfl (by rw [List.length_map]; exact hn) C.2.1.1.1 (by simp [cv]) (lv_room (cat_st hroom)) hd ⟨Nat.zero_le _, Nat.zero_le _⟩
theorem run_S {p : Program} {l : Launch} {e : Env} {s : State} {m : MethodId} {args : Array Value} {below : List Frame} {meth : Method} {c : Code} {H : Heap} {locs : List Loc} {lsC : Array Slot} {ad : Nat → Int → Nat} {dC : Nat → ClassId} {dI : Nat → Nat → Nat} {cA : Nat → ClassId} {A : Nat → Prop} {K : Int → AH → Prop} {idx : Nat} {as : List AV} (C : Cx p s m args meth c H locs lsC ad dC dI cA A μ ls h) (hs : OkS (as.reverse ++ st)) (hd : decode μ.2.1 pc = .ok (.invokestatic idx, 3)) (lk : LSt μ.1.cls idx μ' n) (hn : as.length = n) (hroom : (st.map (fun v => if isLong (some (some v)) then 2 else 1)).sum ≤ 8) (k : Call d μ' as h K) :
    va_Run p l e (rmA d) s m args below meth c H locs 0 0 0 0 (F0 m pc lsC ((as.reverse ++ st).map (cv ad))) (st.map (cv ad)) (QA ad dC dI cA (va_A (wsOf ad cA h) H.size) μ'.2.2.2 K (as.map (cv ad)).toArray) (va_A (wsOf ad cA h) H.size) := by
  obtain ⟨d', hdd, hB⟩ := k
  have hr0 : ∀ v ∈ as, Okv v := fun v hv => hs _ (List.mem_append_left _ (List.mem_reverse.mpr hv))
  have hM := hB hr0 C.2.2.2.2.2 l ad dC dI cA H.size
  have lk2 := lk
  obtain ⟨-, ⟨hm1, hm2, hm3⟩, hmL⟩ := lk2
  exact va_runS (p := p) (e := e) (below := below) (meth := meth) (locs := locs) (cells := 0) (slots := 0) (g := F0 m pc lsC ((as.reverse ++ st).map (cv ad))) (R := rmA d) (As := as.map (cv ad)) (rest := st.map (cv ad)) (n := n) ⟨C.1.1, C.1.2.1, C.1.2.2.1, C.1.2.2.2.2.2.1, C.1.2.2.2.2.2.2.1⟩ hM (va_cwS n C.1.2.2.2.2.2.2.1 (lst_good lk) rfl rfl rfl ⟨hm1, hm2, hm3⟩ (rm_ok hdd hmL))
    ⟨FB_Pc, fun U hU hW => ⟨rfl, by rw [hU], by rw [hU]; exact C.2.2.1, va_K.moved hW.alike C.1.2.2.2.2.2.2.2.1, C.2.2.2.1.weaken (fun _ _ _ _ => trivial), C.1.2.2.2.2.2.2.2.2.2.to C.2.2.2.2.1 (cells_pd C.2.2.2.1 C.2.2.2.2.1 C.1.2.2.2.2.2.2.2.2.1) hU hW⟩⟩ rfl (by rw [List.length_map]; exact hn) C.2.1.1.1 (by simp) (lv_room (cat_st hroom)) hd ⟨Nat.zero_le _, Nat.zero_le _⟩
theorem a_callVv {idx ci o : Nat} {l : List Nat} {as : List AV} {stk : List AV} (hd : decode μ.2.1 pc = .ok (.invokevirtual idx, 3)) (lk : LV μ.1.cls idx μ' n ci) (sk : skl[o]? = some (5, ci, l)) (hstk : stk = as.reverse ++ vR o (-1) :: st) (hn : as.length = n) (hroom : (st.map (fun v => if isLong (some (some v)) then 2 else 1)).sum ≤ 8) (hret : μ'.2.2.2 = none) (k : Call d μ' (vR o (-1) :: as) h (fun _ h' => AW d μ Q (pc + 3) ls st h')) : AW d μ Q pc ls stk h := by
  intro p l e s m args below meth c H locs lsC ad dC dI cA A C hs
  subst hstk
  exact run_v C (fun v hv => hs v (List.mem_append_right _ (List.mem_cons_of_mem _ hv))) hret (run_V C hs hd lk sk hn hroom k) (fun h' z => z)
theorem a_callVl {idx ci o : Nat} {l : List Nat} {as : List AV} {stk : List AV} (hd : decode μ.2.1 pc = .ok (.invokevirtual idx, 3)) (lk : LV μ.1.cls idx μ' n ci) (sk : skl[o]? = some (5, ci, l)) (hstk : stk = as.reverse ++ vR o (-1) :: st) (hn : as.length = n) (hroom : (st.map (fun v => if isLong (some (some v)) then 2 else 1)).sum ≤ 8) (hret : μ'.2.2.2 = some .long) (k : Call d μ' (vR o (-1) :: as) h (fun r h' => AW d μ Q (pc + 3) ls (vL r :: st) h')) : AW d μ Q pc ls stk h := by
  intro p l e s m args below meth c H locs lsC ad dC dI cA A C hs
  subst hstk
  exact run_l C (fun v hv => hs v (List.mem_append_right _ (List.mem_cons_of_mem _ hv))) hret (run_V C hs hd lk sk hn hroom k) (fun r h' z => z)
theorem a_callVi {idx ci o : Nat} {l : List Nat} {as : List AV} {stk : List AV} (hd : decode μ.2.1 pc = .ok (.invokevirtual idx, 3)) (lk : LV μ.1.cls idx μ' n ci) (sk : skl[o]? = some (5, ci, l)) (hstk : stk = as.reverse ++ vR o (-1) :: st) (hn : as.length = n) (hroom : (st.map (fun v => if isLong (some (some v)) then 2 else 1)).sum ≤ 8) (hret : μ'.2.2.2 = some .int ∨ μ'.2.2.2 = some .boolean) (k : Call d μ' (vR o (-1) :: as) h (fun r h' => AW d μ Q (pc + 3) ls (vI r :: st) h')) : AW d μ Q pc ls stk h := by
  intro p l e s m args below meth c H locs lsC ad dC dI cA A C hs
  subst hstk
  exact run_i C (fun v hv => hs v (List.mem_append_right _ (List.mem_cons_of_mem _ hv))) hret (run_V C hs hd lk sk hn hroom k) (fun r h' z => z)
theorem a_callSv {idx : Nat} {as : List AV} {stk : List AV} (hd : decode μ.2.1 pc = .ok (.invokestatic idx, 3)) (lk : LSt μ.1.cls idx μ' n) (hstk : stk = as.reverse ++ st) (hn : as.length = n) (hroom : (st.map (fun v => if isLong (some (some v)) then 2 else 1)).sum ≤ 8) (hret : μ'.2.2.2 = none) (k : Call d μ' (as) h (fun _ h' => AW d μ Q (pc + 3) ls st h')) : AW d μ Q pc ls stk h := by
  intro p l e s m args below meth c H locs lsC ad dC dI cA A C hs
  subst hstk
  exact run_v C (fun v hv => hs v (List.mem_append_right _ hv)) hret (run_S C hs hd lk hn hroom k) (fun h' z => z)
theorem a_callSl {idx : Nat} {as : List AV} {stk : List AV} (hd : decode μ.2.1 pc = .ok (.invokestatic idx, 3)) (lk : LSt μ.1.cls idx μ' n) (hstk : stk = as.reverse ++ st) (hn : as.length = n) (hroom : (st.map (fun v => if isLong (some (some v)) then 2 else 1)).sum ≤ 8) (hret : μ'.2.2.2 = some .long) (k : Call d μ' (as) h (fun r h' => AW d μ Q (pc + 3) ls (vL r :: st) h')) : AW d μ Q pc ls stk h := by
  intro p l e s m args below meth c H locs lsC ad dC dI cA A C hs
  subst hstk
  exact run_l C (fun v hv => hs v (List.mem_append_right _ hv)) hret (run_S C hs hd lk hn hroom k) (fun r h' z => z)
theorem a_callSi {idx : Nat} {as : List AV} {stk : List AV} (hd : decode μ.2.1 pc = .ok (.invokestatic idx, 3)) (lk : LSt μ.1.cls idx μ' n) (hstk : stk = as.reverse ++ st) (hn : as.length = n) (hroom : (st.map (fun v => if isLong (some (some v)) then 2 else 1)).sum ≤ 8) (hret : μ'.2.2.2 = some .int ∨ μ'.2.2.2 = some .boolean) (k : Call d μ' (as) h (fun r h' => AW d μ Q (pc + 3) ls (vI r :: st) h')) : AW d μ Q pc ls stk h := by
  intro p l e s m args below meth c H locs lsC ad dC dI cA A C hs
  subst hstk
  exact run_i C (fun v hv => hs v (List.mem_append_right _ hv)) hret (run_S C hs hd lk hn hroom k) (fun r h' z => z)
theorem a_mmax {idx : Nat} {x y : Int} (hd : decode μ.2.1 pc = .ok (.invokestatic idx, 3)) (hlink : Cond.methodLink μ.1.cls idx Lib.Math.max.name ∈ TB) (hst : Cond.static Lib.Math.max.name ∈ TB) (hin : Cond.initialized "java/lang/Math" ∈ TB) (hco : Cond.code Lib.Math.max.name Lib.Math.max.code 2 (some .int) ∈ TB) (h1 : 1 ≤ d) (hroom : (st.map (fun v => if isLong (some (some v)) then 2 else 1)).sum ≤ 8) (k : AW d μ Q (pc + 3) ls (vI (if x < y then y else x) :: st) h) : AW d μ Q pc ls (vI y :: vI x :: st) h := by
  intro p l e s m args below meth c H locs lsC ad dC dI cA A C hs
  have hy : inI y := okS_hd hs
  have hx : inI x := okS_hd (okS_tl hs)
  have hi : inI (if x < y then y else x) := by split <;> assumption
  have k2 := k p l e s m args below meth c H locs lsC ad dC dI cA A C (okS_cons (v := vI (if x < y then y else x)) hi (okS_tl (okS_tl hs)))
  have hts := C.1.2.2.2.2.2.2.1
  refine va_mmax C.1.1 C.1.2.1 (C.1.2.2.1.trans C.2.1.1.1.symm) C.1.2.2.2.2.2.1 (hts _ hlink) (hts _ hst) (hts _ hin) (hts _ hco) h1 (by have := cat_st (ad := ad) hroom; show _ + 13 ≤ 60 * d; omega) (Nat.zero_le _) (Nat.zero_le _) hd ?_
  rw [List.map_cons, show cv ad (vI (if x < y then y else x)) = .int (if Int32.ofInt x < Int32.ofInt y then Int32.ofInt y else Int32.ofInt x) by
    show Value.int (Int32.ofInt _) = _
    simp only [inI_lt hx hy, inI_lt hy hx]
    split <;> rfl] at k2
  exact k2
theorem a_mmin {idx : Nat} {x y : Int} (hd : decode μ.2.1 pc = .ok (.invokestatic idx, 3)) (hlink : Cond.methodLink μ.1.cls idx Lib.Math.min.name ∈ TB) (hst : Cond.static Lib.Math.min.name ∈ TB) (hin : Cond.initialized "java/lang/Math" ∈ TB) (hco : Cond.code Lib.Math.min.name Lib.Math.min.code 2 (some .int) ∈ TB) (h1 : 1 ≤ d) (hroom : (st.map (fun v => if isLong (some (some v)) then 2 else 1)).sum ≤ 8) (k : AW d μ Q (pc + 3) ls (vI (if y < x then y else x) :: st) h) : AW d μ Q pc ls (vI y :: vI x :: st) h := by
  intro p l e s m args below meth c H locs lsC ad dC dI cA A C hs
  have hy : inI y := okS_hd hs
  have hx : inI x := okS_hd (okS_tl hs)
  have hi : inI (if y < x then y else x) := by split <;> assumption
  have k2 := k p l e s m args below meth c H locs lsC ad dC dI cA A C (okS_cons (v := vI (if y < x then y else x)) hi (okS_tl (okS_tl hs)))
  have hts := C.1.2.2.2.2.2.2.1
  refine va_mmin C.1.1 C.1.2.1 (C.1.2.2.1.trans C.2.1.1.1.symm) C.1.2.2.2.2.2.1 (hts _ hlink) (hts _ hst) (hts _ hin) (hts _ hco) h1 (by have := cat_st (ad := ad) hroom; show _ + 13 ≤ 60 * d; omega) (Nat.zero_le _) (Nat.zero_le _) hd ?_
  rw [List.map_cons, show cv ad (vI (if y < x then y else x)) = .int (if Int32.ofInt y < Int32.ofInt x then Int32.ofInt y else Int32.ofInt x) by
    show Value.int (Int32.ofInt _) = _
    simp only [inI_lt hx hy, inI_lt hy hx]
    split <;> rfl] at k2
  exact k2
end AWD

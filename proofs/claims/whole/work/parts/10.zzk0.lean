/-! the constructors: worlds that are being made -/
/-- what stands in the fields and arrays when all constructors are through -/
def hI (o : Nat) (k : Int) : Int := if o = 0 then (if k = 10 then 1 else 0) else if o = 2 then (if k = 7 then -1 else 0) else if o = 6 then (if k = 8 then -1 else if k = 9 then -1 else 0) else if o = 7 then (if k = 14 then -1 else if k = 15 then -1 else if k = 16 then -1 else 0) else if o = 8 then (if k = 11 then -1 else 0) else if o = 11 then (if k = 8 then -1 else 0) else if o = 12 then (if k = 1 then 1 else if k = 2 then -1 else 0) else 0
def h00 : AH := (hI, fun _ _ => 0, fun _ _ _ => 0)
def wsG (L : List (Nat × Int)) (ad : Nat → Int → Nat) (cA : Nat → ClassId) : va_W := L.map (fun q => (ad q.1 q.2, encE ad cA h00 q.1 q.2))
/-- the rows of an int[][] -/
def rowsL (o n : Nat) : List (Nat × Int) := (List.range n).map (fun i : Nat => (o, (i : Int)))
def rmK (f mc ms : Nat) : Room := { frames := f, cells := mc, slots := ms, locals := 60 * f }
/-- int[][] is a class that is there -/
def AO (U : State) : Prop := (Cond.arrayOver (.array .int)).before #[] U = true
theorem AO.moved {u U : State} (hal : u.vm.Alike U.vm) (h : AO u) : AO U := Jvm.Stand.arrayOver_alikeB hal h
def CtorM (l : Launch) (f mc ms : Nat) (μ : Mi) (o : Nat) (e0 : va_E) (js : List Nat) (L : List (Nat × Int)) : Prop := ∀ (as : List Nat) (dC : Nat → ClassId) (dI : Nat → Nat → Nat) (cA : Nat → ClassId) (h0 sz : Nat), as.length = js.length →
  Met l μ.1 (wsY μ) (rmK f mc ms) (va_Pc (.ref h0 :: as.map Value.ref) (fun U => U.heap.size = sz ∧ va_P (dC, dI) vwCl [(h0, e0)] U.heap ∧ va_K (dC, dI) vwCl (tysOf cA) U ∧ va_D (fun _ => True) [(h0, e0)] ∧ AO U))
    (va_Qv (S := Nat → Int → Nat) (fun ad => ad o (-1) = h0 ∧ js.map (fun j => ad j (-1)) = as) (fun ad t => va_P (dC, dI) vwCl (wsG L ad cA) t.heap ∧ va_K (dC, dI) vwCl (tysOf cA) t ∧ va_D (va_A [(h0, e0)] sz) (wsG L ad cA)) (va_A [(h0, e0)] sz)) mc ms (va_A [(h0, e0)] sz)
/-- the machine in a constructor -/
def KC (p : Program) (s : State) (m : MethodId) (args : Array Value) (meth : Method) (c : Code) (μ : Mi) (dC : Nat → ClassId) (dI : Nat → Nat → Nat) (cA : Nat → ClassId) (A : Nat → Prop) : Prop := p.tables.exec = Jvm.exec ∧ c.code = μ.2.1 ∧ c.maxLocals = μ.2.2.1 ∧ meth.locks = false ∧ s.vm.findClass μ.1.cls = some m.cls ∧ (∀ w ∈ TB, w.before args s = true) ∧ va_K (dC, dI) vwCl (tysOf cA) s ∧ (∀ q, s.heap.size ≤ q → A q) ∧ AO s
def KJ (p : Program) (l : Launch) (e : Env) (R : Room) (s : State) (m : MethodId) (args : Array Value) (below : List Frame) (meth : Method) (c : Code) (dC : Nat → ClassId) (dI : Nat → Nat → Nat) (A : Nat → Prop) (Q : State → Prop) (cells slots : Nat) (pc : Nat) (ls : Array Slot) (st : List Value) (ws : va_W) : Prop := ∀ (H : Heap) (locs : List Loc), va_P (dC, dI) vwCl ws H → va_D A ws → va_S A s.heap H locs → W p l e R s m args below meth c H locs cells slots Q (F0 m pc ls st)
theorem CtorM.of {l : Launch} {f mc ms : Nat} {μ : Mi} {o : Nat} {e0 : va_E} {js : List Nat} {L : List (Nat × Int)} (hy : plainName μ.1.cls = true) (hname : μ.1.name = "<init>") (hret : μ.2.2.2 = none) (hle : 1 + js.length ≤ μ.2.2.1)
    (k : ∀ (as : List Nat) (dC : Nat → ClassId) (dI : Nat → Nat → Nat) (cA : Nat → ClassId) (h0 : Nat) (p : Program) (e : Env) (s : State) (m : MethodId) (below : List Frame) (meth : Method) (c : Code) (ls : Array Slot) (A : Nat → Prop), as.length = js.length → KC p s m (Value.ref h0 :: as.map Value.ref).toArray meth c μ dC dI cA A → meth.sig.returnType = none → meth.name = "<init>" → lv_has ls μ.2.2.1 (lv_args 0 (.ref h0 :: as.map Value.ref)) →
      KJ p l e (rmK f mc ms) s m (Value.ref h0 :: as.map Value.ref).toArray below meth c dC dI A (MQ below (va_Qv (S := Nat → Int → Nat) (fun ad => ad o (-1) = h0 ∧ js.map (fun j => ad j (-1)) = as) (fun ad t => va_P (dC, dI) vwCl (wsG L ad cA) t.heap ∧ va_K (dC, dI) vwCl (tysOf cA) t ∧ va_D A (wsG L ad cA)) A) (Value.ref h0 :: as.map Value.ref).toArray s mc ms A) 0 0 0 ls [] [(h0, e0)]) : CtorM l f mc ms μ o e0 js L := by
  intro as dC dI cA h0 sz hlen
  have hsl : (lg_sl (.ref h0 :: as.map Value.ref)).length = 1 + js.length := by
    have : ∀ bs : List Nat, (lg_sl (bs.map Value.ref)).length = bs.length := by
      intro bs
      induction bs with
      | nil => rfl
      | cons b bs ih =>
        simp [lg_sl, Value.category] at ih ⊢
        exact ih
    have := this (h0 :: as)
    rw [List.map_cons] at this
    rw [this, List.length_cons, hlen]
    omega
  refine Met.ofW (cc := μ.2.1) (maxL := μ.2.2.1) (ret := μ.2.2.2) hy rfl ?_
  intro p e s m args below meth c s₁ B hml hv
  obtain ⟨rfl, hsz, hP, hK, hD0, hAO⟩ := hv
  have hts := atoms_spec (ws := wsY μ) B.pre
  subst hsz
  have hl := lv_entry (.ref h0 :: as.map Value.ref) (n := μ.2.2.1) (by omega)
  rw [lg_entry_eq]
  exact k as dC dI cA h0 p e s m below meth c _ (va_A [(h0, e0)] s.heap.size) hlen ⟨B.exec, B.bytes, hml, B.notSynchronized, findClass_of_methodNamed B.named, fun w hw => hts w (List.mem_cons_of_mem _ hw), hK, fun q hq => Or.inr hq, hAO⟩ (B.returns.trans hret) ((name_of_methodNamed B.named B.method).1.trans hname) hl s.heap [] hP hD0.self va_S.rf
section KRW
variable {p : Program} {l : Launch} {e : Env} {R : Room} {s : State} {m : MethodId} {args : Array Value} {below : List Frame} {meth : Method} {c : Code} {dC : Nat → ClassId} {dI : Nat → Nat → Nat} {cA : Nat → ClassId} {A : Nat → Prop} {Q : State → Prop} {cells slots pc : Nat} {ls : Array Slot} {st : List Value} {ws : va_W} {μ : Mi}
theorem k_f0 (hK : va_K (dC, dI) vwCl (tysOf cA) s) : s.vm.findClass ("[" ++ (FieldType.int).toString) = some (cA 0) := (hK.2 0 _ rfl).2
theorem k_f1 (hK : va_K (dC, dI) vwCl (tysOf cA) s) : s.vm.findClass ("[" ++ (FieldType.byte).toString) = some (cA 1) := (hK.2 1 _ rfl).2
theorem k_f2 (hK : va_K (dC, dI) vwCl (tysOf cA) s) : s.vm.findClass ("[" ++ (FieldType.boolean).toString) = some (cA 2) := (hK.2 2 _ rfl).2
theorem k_f3 (hK : va_K (dC, dI) vwCl (tysOf cA) s) : s.vm.findClass ("[" ++ (FieldType.long).toString) = some (cA 3) := (hK.2 3 _ rfl).2
theorem k_f4 (hK : va_K (dC, dI) vwCl (tysOf cA) s) : s.vm.findClass ("[" ++ (FieldType.array .int).toString) = some (cA 4) := (hK.2 4 _ rfl).2
theorem kj_aload {k : Fin 4} {i x : Nat} (K : KC p s m args meth c μ dC dI cA A) (hd : decode μ.2.1 pc = .ok (.aload_n k, 1)) (hi : (k : Nat) = i) (hl : ls[i]? = some (.val (.ref x))) (kk : KJ p l e R s m args below meth c dC dI A Q cells slots (pc + 1) ls (.ref x :: st) ws) : KJ p l e R s m args below meth c dC dI A Q cells slots pc ls st ws := fun H locs hP hD hS => lv_aload_n K.1 K.2.1 hd hi hl (kk H locs hP hD hS)
theorem kj_aload2 {i x : Nat} (K : KC p s m args meth c μ dC dI cA A) (hd : decode μ.2.1 pc = .ok (.aload i, 2)) (hl : ls[i]? = some (.val (.ref x))) (kk : KJ p l e R s m args below meth c dC dI A Q cells slots (pc + 2) ls (.ref x :: st) ws) : KJ p l e R s m args below meth c dC dI A Q cells slots pc ls st ws := fun H locs hP hD hS => lv_aload K.1 K.2.1 hd hl (kk H locs hP hD hS)
theorem kj_bipush {n : Int} {v : Int32} (K : KC p s m args meth c μ dC dI cA A) (hd : decode μ.2.1 pc = .ok (.bipush n, 2)) (hv : (Int8.ofInt n).toInt32 = v) (kk : KJ p l e R s m args below meth c dC dI A Q cells slots (pc + 2) ls (.int v :: st) ws) : KJ p l e R s m args below meth c dC dI A Q cells slots pc ls st ws := fun H locs hP hD hS => lv_bipush K.1 K.2.1 hd hv (kk H locs hP hD hS)
theorem kj_sipush {n : Int} {v : Int32} (K : KC p s m args meth c μ dC dI cA A) (hd : decode μ.2.1 pc = .ok (.sipush n, 3)) (hv : (Int16.ofInt n).toInt32 = v) (kk : KJ p l e R s m args below meth c dC dI A Q cells slots (pc + 3) ls (.int v :: st) ws) : KJ p l e R s m args below meth c dC dI A Q cells slots pc ls st ws := fun H locs hP hD hS => lv_sipush K.1 K.2.1 hd hv (kk H locs hP hD hS)
theorem kj_iconst {n : Int} {v : Int32} (K : KC p s m args meth c μ dC dI cA A) (hd : decode μ.2.1 pc = .ok (.iconst n, 1)) (hv : Int32.ofInt n = v) (kk : KJ p l e R s m args below meth c dC dI A Q cells slots (pc + 1) ls (.int v :: st) ws) : KJ p l e R s m args below meth c dC dI A Q cells slots pc ls st ws := fun H locs hP hD hS => lv_iconst K.1 K.2.1 hd hv (kk H locs hP hD hS)
theorem kj_ldc {index : Nat} {v : Int32} (K : KC p s m args meth c μ dC dI cA A) (hd : decode μ.2.1 pc = .ok (.ldc index, 2)) (hc : Cond.constant μ.1.cls index v ∈ TB) (kk : KJ p l e R s m args below meth c dC dI A Q cells slots (pc + 2) ls (.int v :: st) ws) : KJ p l e R s m args below meth c dC dI A Q cells slots pc ls st ws := fun H locs hP hD hS => lv_ldc K.1 K.2.1 K.2.2.2.2.1 (K.2.2.2.2.2.1 _ hc) hd (kk H locs hP hD hS)
theorem kj_dup {x : Nat} (K : KC p s m args meth c μ dC dI cA A) (hd : decode μ.2.1 pc = .ok (.dup, 1)) (kk : KJ p l e R s m args below meth c dC dI A Q cells slots (pc + 1) ls (.ref x :: .ref x :: st) ws) : KJ p l e R s m args below meth c dC dI A Q cells slots pc ls (.ref x :: st) ws := fun H locs hP hD hS => lv_dup K.1 K.2.1 hd rfl (kk H locs hP hD hS)
theorem kj_objInit {idx x : Nat} (K : KC p s m args meth c μ dC dI cA A) (h1 : Cond.methodLink μ.1.cls idx Lib.objectInit ∈ TB) (h2 : Cond.instanceMethod Lib.objectInit ∈ TB) (h3 : Cond.code Lib.objectInit ⟨#[0xb1]⟩ 1 none ∈ TB) (hls : ls.size = μ.2.2.1) (hd : decode μ.2.1 pc = .ok (.invokespecial idx, 3)) (hf : 1 ≤ R.frames) (hlo : 12 ≤ R.locals) (kk : KJ p l e R s m args below meth c dC dI A Q cells slots (pc + 3) ls [] ws) : KJ p l e R s m args below meth c dC dI A Q cells slots pc ls [.ref x] ws := fun H locs hP hD hS => W.objInit K.1 K.2.1 K.2.2.2.2.1 (K.2.2.2.2.2.1 _ h1) (K.2.2.2.2.2.1 _ h2) (K.2.2.2.2.2.1 _ h3) rfl (hls.trans K.2.2.1.symm) rfl hd hf hlo (W.eq (g2 := F0 m (pc + 3) ls []) rfl (kk H locs hP hD hS))
theorem kj_newa {atype : ArrayType} {c0 : ClassId} {n : Int32} {N : Nat} {a0 : vp_A} (K : KC p s m args meth c μ dC dI cA A) (hd : decode μ.2.1 pc = .ok (.newarray atype, 2)) (harr : Cond.arrayClass (newarray.typeOf atype) ∈ TB) (h0 : s.vm.findClass ("[" ++ (newarray.typeOf atype).toString) = some c0) (ha : ∀ c : ClassId, vp_cell c a0 = arrV c N (fun _ => defaultValue (newarray.typeOf atype))) (hn : ¬ n < 0) (hN : n.toNatClampNeg = N) (hb : N * componentBytes (newarray.typeOf atype) ≤ 536870912) (hc : cells + 1 ≤ R.cells) (hs : slots + N ≤ R.slots)
    (kk : ∀ q : Nat, KJ p l e R s m args below meth c dC dI A Q (cells + 1) (slots + N) (pc + 2) ls (.ref q :: st) (ws ++ [(q, .inl (c0, a0))])) : KJ p l e R s m args below meth c dC dI A Q cells slots pc ls (.int n :: st) ws := by
  intro H locs hP hD hS
  refine va_newaK K.1 K.2.1 (K.2.2.2.2.2.1 _ harr) (g := F0 m pc ls (.int n :: st)) rfl hd rfl hn hN hb hc hs rfl fun H1 c1 e1 z1 o1 _ hNm => ?_
  have ec : some c0 = some c1 := h0.symm.trans hNm
  cases ec
  obtain ⟨g1, g2, g3⟩ := k_app (wn := [(H.size, .inl (c0, a0))]) hP hD hS K.2.2.2.2.2.2.2.1 (by omega) o1 (fun k x hx => by
    have hz : k < 1 := (List.getElem?_eq_some_iff.mp hx).1
    have hk : k = 0 := by omega
    subst hk
    cases hx
    refine ⟨rfl, ?_⟩
    show H1[H.size]? = some (vp_cell _ _)
    rw [ha]
    exact e1)
  exact kk H.size H1 locs g1 g2 g3
theorem kj_mna {index : Nat} {n k : Int32} {N' K' : Nat} (K : KC p s m args meth c μ dC dI cA A) (hd : decode μ.2.1 pc = .ok (.multianewarray index 2, 4)) (h1 : Cond.classLink μ.1.cls index ("[" ++ (FieldType.array .int).toString) ∈ TB) (h3 : Cond.arrayClass .int ∈ TB) (hn : ¬ n < 0) (hk : ¬ k < 0) (hN : n.toNatClampNeg = N') (hM : k.toNatClampNeg = K') (hb1 : N' * 4 ≤ 536870912) (hb2 : K' * componentBytes .int ≤ 536870912) (hb3 : K' ≤ 536870912) (hc : cells + (1 + N') ≤ R.cells) (hs : slots + (N' + N' * K') ≤ R.slots)
    (kk : ∀ q : Nat, KJ p l e R s m args below meth c dC dI A Q (cells + 1 + N') (slots + N' + N' * K') (pc + 4) ls (.ref q :: st) (ws ++ ((q, .inl (cA 4, N', .inr (.inr (.inr (.inr (fun i => some (q + 1 + i))))))) :: (List.range N').map (fun i => (q + 1 + i, .inl (cA 0, K', .inl (fun _ => 0))))))) : KJ p l e R s m args below meth c dC dI A Q cells slots pc ls (.int k :: .int n :: st) ws := fun H locs hP hD hS =>
  k_mna K.1 K.2.1 K.2.2.2.2.1 (K.2.2.2.2.2.1 _ h1) K.2.2.2.2.2.2.2.2 (K.2.2.2.2.2.1 _ h3) (k_f4 K.2.2.2.2.2.2.1) (k_f0 K.2.2.2.2.2.2.1) hP hD hS K.2.2.2.2.2.2.2.1 hn hk hN hM hb1 hb2 hb3 hc hs hd (fun q H1 g1 g2 g3 => kk q H1 locs g1 g2 g3)
theorem kj_new {index ci : Nat} {q0 : vw_C} {fs : List Value} (K : KC p s m args meth c μ dC dI cA A) (hd : decode μ.2.1 pc = .ok (.new index, 3)) (cl : ClOk ci) (hq : vwCl[ci]? = some q0) (h1 : Cond.classLink μ.1.cls index q0.1 ∈ TB) (h2 : Cond.instantiable q0.1 q0.2.2 ∈ TB) (h3 : Cond.initialized q0.1 ∈ TB) (hfs : ∀ ty : Nat → FieldType, (∀ k, k < q0.2.2 → parseFieldDescriptor (q0.2.1 k).2.2.1 = some (ty k)) → ∀ j, j < q0.2.2 → defaultValue (ty j) = vp_V fs j) (hc : cells + 1 ≤ R.cells) (hs : slots + q0.2.2 ≤ R.slots)
    (kk : ∀ q : Nat, KJ p l e R s m args below meth c dC dI A Q (cells + 1) (slots + q0.2.2) (pc + 3) ls (.ref q :: st) (ws ++ [(q, .inr (ci, fs))])) : KJ p l e R s m args below meth c dC dI A Q cells slots pc ls st ws := by
  intro H locs hP hD hS
  obtain ⟨C0, T, N, hcl, hin, ⟨ty0, hty⟩, hnm⟩ := cl
  have e := hcl.symm.trans hq
  cases e
  exact va_new K.1 K.2.1 K.2.2.2.2.2.1 hin ty0 hty K.2.2.2.2.1 (K.2.2.2.2.2.1 _ h1) (K.2.2.2.2.2.1 _ h2) (K.2.2.2.2.2.1 _ h3) K.2.2.2.2.2.2.1 hP hD hS K.2.2.2.2.2.2.2.1 hcl (hfs ty0 hty) hc hs hd (fun q H1 g1 g2 g3 => kk q H1 locs g1 g2 g3)
/-- a final field of the object under construction, which is the first cell -/
theorem kj_putF {idx ci k h0 : Nat} {fs fs' : List Value} {T : va_W} {v : Value} {ty : FieldType} {q0 : vw_C} (K : KC p s m args meth c μ dC dI cA A) (hin2 : meth.name = "<init>") (hd : decode μ.2.1 pc = .ok (.putfield idx, 3)) (fl : FL μ.1.cls idx ci k) (hq : vwCl[ci]? = some q0) (hfin : (q0.2.1 k).2.2.2 = true) (hdecl : (q0.2.1 k).1 = μ.1.cls) (hty : parseFieldDescriptor (q0.2.1 k).2.2.1 = some ty) (hn : narrow ty v = v) (hf : fits ty v = true) (hl : k < fs.length) (he : fs.set k v = fs')
    (kk : KJ p l e R s m args below meth c dC dI A Q cells slots (pc + 3) ls st ((h0, .inr (ci, fs')) :: T)) : KJ p l e R s m args below meth c dC dI A Q cells slots pc ls (v :: .ref h0 :: st) ((h0, .inr (ci, fs)) :: T) := by
  subst he
  intro H locs hP hD hS
  obtain ⟨⟨C0, T0, N, hcl, hin, ⟨ty0, hty0⟩, hnm⟩, q, hq1, hkN, hlink⟩ := fl
  have e := hcl.symm.trans hq
  cases e
  have e := hcl.symm.trans hq1
  cases e
  exact va_putF K.1 K.2.1 K.2.2.2.2.2.1 hin ty0 hty0 hnm K.2.2.2.2.1 K.2.2.2.2.2.2.1 hP hD hS 0 rfl hcl k hkN (K.2.2.2.2.2.1 _ hlink) (fun _ z => z) hfin hin2 hdecl hty hn hf hl hd (fun H1 locs1 g1 g2 g3 => kk H1 locs1 g1 g2 g3)
/-- another field of it -/
theorem kj_put {idx ci k h0 : Nat} {fs fs' : List Value} {T : va_W} {v : Value} {ty : FieldType} (K : KC p s m args meth c μ dC dI cA A) (hd : decode μ.2.1 pc = .ok (.putfield idx, 3)) (fl : FP μ.1.cls idx ci k ty) (hn : narrow ty v = v) (hf : fits ty v = true) (hl : k < fs.length) (he : fs.set k v = fs')
    (kk : KJ p l e R s m args below meth c dC dI A Q cells slots (pc + 3) ls st ((h0, .inr (ci, fs')) :: T)) : KJ p l e R s m args below meth c dC dI A Q cells slots pc ls (v :: .ref h0 :: st) ((h0, .inr (ci, fs)) :: T) := by
  subst he
  intro H locs hP hD hS
  obtain ⟨⟨⟨C0, T0, N, hcl, hin, ⟨ty0, hty0⟩, hnm⟩, q, hq1, hkN, hlink⟩, q2, hq2, hfin, hpar⟩ := fl
  have e := hcl.symm.trans hq1
  cases e
  have e := hcl.symm.trans hq2
  cases e
  exact va_put K.1 K.2.1 K.2.2.2.2.2.1 hin ty0 hty0 hnm K.2.2.2.2.1 K.2.2.2.2.2.2.1 hP hD hS 0 rfl hcl k hkN (K.2.2.2.2.2.1 _ hlink) (fun _ z => z) hfin hpar hn hf hl hd (fun H1 locs1 g1 g2 g3 => kk H1 locs1 g1 g2 g3)
/-- a field of it is read -/
theorem kj_get {idx ci k h0 : Nat} {fs : List Value} {T : va_W} {v : Value} (K : KC p s m args meth c μ dC dI cA A) (hd : decode μ.2.1 pc = .ok (.getfield idx, 3)) (fl : FL μ.1.cls idx ci k) (hv : fs[k]? = some v)
    (kk : KJ p l e R s m args below meth c dC dI A Q cells slots (pc + 3) ls (v :: st) ((h0, .inr (ci, fs)) :: T)) : KJ p l e R s m args below meth c dC dI A Q cells slots pc ls (.ref h0 :: st) ((h0, .inr (ci, fs)) :: T) := by
  intro H locs hP hD hS
  obtain ⟨⟨C0, T0, N, hcl, hin, -, -⟩, q, hq1, hkN, hlink⟩ := fl
  have e := hcl.symm.trans hq1
  cases e
  exact va_get K.1 K.2.1 K.2.2.2.2.2.1 hin K.2.2.2.2.1 K.2.2.2.2.2.2.1 hP 0 rfl hcl k hkN (K.2.2.2.2.2.1 _ hlink) (fun _ z => z) hv hd (kk H locs hP hD hS)
theorem k_nd : ∀ n : Nat, va_nd (List.range n) = true := by
  intro n
  have key : ∀ l : List Nat, l.Nodup → va_nd l = true := by
    intro l hl
    induction hl with
    | nil => rfl
    | cons h1 _ ih =>
      simp only [va_nd, Bool.and_eq_true, decide_eq_true_eq]
      exact ⟨fun z => h1 _ z rfl, ih⟩
  exact key _ List.nodup_range
/-- another object's constructor is called -/
theorem kj_call {idx o f mc ms n q : Nat} {μ' : Mi} {e0 : va_E} {js as : List Nat} {L : List (Nat × Int)} {stk : List Value} (K : KC p s m args meth c μ dC dI cA A) (hd : decode μ.2.1 pc = .ok (.invokespecial idx, 3)) (hM : CtorM l f mc ms μ' o e0 js L) (hlen : as.length = js.length) (hn : js.length = n) (h1 : Cond.methodLink μ.1.cls idx μ'.1 ∈ TB) (h2 : Cond.instanceMethod μ'.1 ∈ TB) (h3 : Cond.initialized μ'.1.cls ∈ TB) (h4 : Cond.code μ'.1 μ'.2.1 μ'.2.2.1 μ'.2.2.2 ∈ TB) (hret : μ'.2.2.2 = none) (hname : μ'.1.name = "<init>") (hmh : μ'.1.cls ≠ "java/lang/invoke/MethodHandle" ∧ μ'.1.cls ≠ "java/lang/invoke/VarHandle" ∧ (parseMethodDescriptor μ'.1.desc).map (fun d => d.parameters.length) = some n) (hls : ls.size = μ.2.2.1) (hR : f + 1 ≤ R.frames ∧ 8 + (μ'.2.2.1 + 11) + 60 * f ≤ R.locals) (hc : cells + mc ≤ R.cells ∧ slots + ms ≤ R.slots) (hroom : (st.map fun v => v.category).sum ≤ 8) (hstk : stk = (as.map Value.ref).reverse ++ .ref q :: st)
    (kk : ∀ ad : Nat → Int → Nat, ad o (-1) = q → js.map (fun j => ad j (-1)) = as → KJ p l e R s m args below meth c dC dI A Q (cells + mc) (slots + ms) (pc + 3) ls st (ws ++ wsG L ad cA)) : KJ p l e R s m args below meth c dC dI A Q cells slots pc ls stk (ws ++ [(q, e0)]) := by
  subst hstk
  intro H locs hP hD hS
  have hc1 : [ws.length].map (fun i => (ws ++ [(q, e0)])[i]?) = ([(q, e0)] : va_W).map some := by simp
  have hr1 : (List.range ws.length).map (fun i => (ws ++ [(q, e0)])[i]?) = ws.map some := by
    apply List.ext_getElem?
    intro i
    rw [List.getElem?_map, List.getElem?_map]
    by_cases hi : i < ws.length
    · rw [List.getElem?_range hi, Option.map_some, List.getElem?_append_left hi, List.getElem?_eq_getElem hi]
      rfl
    · rw [List.getElem?_eq_none (by rw [List.length_range]; omega), List.getElem?_eq_none (by omega)]
      rfl
  have hPc : va_P (dC, dI) vwCl [(q, e0)] H := fun k x hx => by
    have hk : k = 0 := by
      have : k < 1 := (List.getElem?_eq_some_iff.mp hx).1
      omega
    subst hk
    cases hx
    exact hP ws.length (q, e0) (by simp)
  have hDc : va_D A [(q, e0)] := hD.sub [ws.length] rfl hc1
  have hFc := va_free (wc := [(q, e0)]) hD hS K.2.2.2.2.2.2.2.1 [ws.length] hc1
  have good : GoodIn TB (wsY μ') := by
    intro w hw
    unfold wsY at hw
    rcases List.mem_cons.mp hw with rfl | hw
    · exact tb_good h4
    · exact tb_good hw
  have hw0 : wsY μ' = Cond.code μ'.1 μ'.2.1 μ'.2.2.1 none :: TB := by unfold wsY; rw [hret]
  refine va_callv (va_runI (p := p) (e := e) (below := below) (meth := meth) (locs := locs) (cells := cells) (slots := slots) (g := F0 m pc ls ((as.map Value.ref).reverse ++ .ref q :: st)) (As := as.map Value.ref) (rest := st) (n := n) ⟨K.1, K.2.1, K.2.2.1, K.2.2.2.2.1, K.2.2.2.2.2.1⟩ (hM as dC dI cA q H.size hlen) (cwI n K.2.2.2.2.2.1 good hw0 rfl rfl (K.2.2.2.2.2.1 _ h3) (K.2.2.2.2.2.1 _ h1) (K.2.2.2.2.2.1 _ h2) hname hmh hR) ⟨fun a U g mk q => by obtain ⟨q0, q1, qP, qK, qD, qO⟩ := q; exact ⟨q0, q1, qP, va_K.moved (u := U) (U := U.calling g mk a) (Vm.Alike.refl U.vm) qK, qD, AO.moved (u := U) (U := U.calling g mk a) (Vm.Alike.refl U.vm) qO⟩, fun U hU hW => ⟨rfl, by rw [hU], by rw [hU]; exact hPc, va_K.moved hW.alike K.2.2.2.2.2.2.1, hDc.weaken (fun _ _ _ _ => trivial), AO.moved hW.alike K.2.2.2.2.2.2.2.2⟩⟩ rfl (by rw [List.length_map]; omega) hls rfl (lv_room hroom) hd hc) hS (fun x _ h => hFc x h) hFc (fun ad t H1 locs1 ht hvm hw hB hz1 hk1 hS1 => ?_)
  obtain ⟨hP1, hK1, hD1⟩ := hB
  rw [ht] at hP1
  obtain ⟨g1, g2⟩ := va_join (wc := [(q, e0)]) (wr := ws) (w1 := wsG L ad cA) hP hD [ws.length] (List.range ws.length) hc1 hr1 (k_nd _) (fun i hi hz => by
    have := List.mem_range.mp hi
    have := List.mem_singleton.mp hz
    omega) hk1 hFc hP1 hD1
  exact kk ad hw.1 hw.2 H1 locs1 g1 g2 hS1
theorem kj_ret {mc ms : Nat} {L : List (Nat × Int)} {o h0 : Nat} {js as : List Nat} {ad : Nat → Int → Nat} (K : KC p s m args meth c μ dC dI cA A) (hr : meth.sig.returnType = none) (hd : decode μ.2.1 pc = .ok (.return_, 1)) (h1 : ad o (-1) = h0) (h2 : js.map (fun j => ad j (-1)) = as) (hw : wsG L ad cA = ws) (hc : cells = mc) (hs : slots = ms) : KJ p l e R s m args below meth c dC dI A (MQ below (va_Qv (S := Nat → Int → Nat) (fun ad => ad o (-1) = h0 ∧ js.map (fun j => ad j (-1)) = as) (fun ad t => va_P (dC, dI) vwCl (wsG L ad cA) t.heap ∧ va_K (dC, dI) vwCl (tysOf cA) t ∧ va_D A (wsG L ad cA)) A) args s mc ms A) cells slots pc ls [] ws := by
  intro H locs hP hD hS
  subst hc
  subst hs
  subst hw
  exact W.vret K.1 K.2.1 hr (fun t ht hW => ⟨⟨ad, rfl, ⟨h1, h2⟩, by rw [ht]; exact hP, va_K.moved hW.alike K.2.2.2.2.2.2.1, hD⟩, hS.F ht⟩) hS.2.2 hd K.2.2.2.1
theorem kc_newa {atype : ArrayType} {c0 : ClassId} {n : Int32} {N : Nat} {a0 : vp_A} {x0 : Nat × va_E} {T : va_W} (K : KC p s m args meth c μ dC dI cA A) (hd : decode μ.2.1 pc = .ok (.newarray atype, 2)) (harr : Cond.arrayClass (newarray.typeOf atype) ∈ TB) (h0 : s.vm.findClass ("[" ++ (newarray.typeOf atype).toString) = some c0) (ha : ∀ c : ClassId, vp_cell c a0 = arrV c N (fun _ => defaultValue (newarray.typeOf atype))) (hn : ¬ n < 0) (hN : n.toNatClampNeg = N) (hb : N * componentBytes (newarray.typeOf atype) ≤ 536870912) (hc : cells + 1 ≤ R.cells) (hs : slots + N ≤ R.slots)
    (kk : ∀ q : Nat, KJ p l e R s m args below meth c dC dI A Q (cells + 1) (slots + N) (pc + 2) ls (.ref q :: st) (x0 :: (T ++ [(q, .inl (c0, a0))]))) : KJ p l e R s m args below meth c dC dI A Q cells slots pc ls (.int n :: st) (x0 :: T) := kj_newa K hd harr h0 ha hn hN hb hc hs kk
theorem kc_mna {index : Nat} {n k : Int32} {N' K' : Nat} {x0 : Nat × va_E} {T : va_W} (K : KC p s m args meth c μ dC dI cA A) (hd : decode μ.2.1 pc = .ok (.multianewarray index 2, 4)) (h1 : Cond.classLink μ.1.cls index ("[" ++ (FieldType.array .int).toString) ∈ TB) (h3 : Cond.arrayClass .int ∈ TB) (hn : ¬ n < 0) (hk : ¬ k < 0) (hN : n.toNatClampNeg = N') (hM : k.toNatClampNeg = K') (hb1 : N' * 4 ≤ 536870912) (hb2 : K' * componentBytes .int ≤ 536870912) (hb3 : K' ≤ 536870912) (hc : cells + (1 + N') ≤ R.cells) (hs : slots + (N' + N' * K') ≤ R.slots)
    (kk : ∀ q : Nat, KJ p l e R s m args below meth c dC dI A Q (cells + 1 + N') (slots + N' + N' * K') (pc + 4) ls (.ref q :: st) (x0 :: (T ++ ((q, .inl (cA 4, N', .inr (.inr (.inr (.inr (fun i => some (q + 1 + i))))))) :: (List.range N').map (fun i => (q + 1 + i, .inl (cA 0, K', .inl (fun _ => 0)))))))) : KJ p l e R s m args below meth c dC dI A Q cells slots pc ls (.int k :: .int n :: st) (x0 :: T) := kj_mna K hd h1 h3 hn hk hN hM hb1 hb2 hb3 hc hs kk
theorem kc_new {index ci : Nat} {q0 : vw_C} {fs : List Value} {x0 : Nat × va_E} {T : va_W} (K : KC p s m args meth c μ dC dI cA A) (hd : decode μ.2.1 pc = .ok (.new index, 3)) (cl : ClOk ci) (hq : vwCl[ci]? = some q0) (h1 : Cond.classLink μ.1.cls index q0.1 ∈ TB) (h2 : Cond.instantiable q0.1 q0.2.2 ∈ TB) (h3 : Cond.initialized q0.1 ∈ TB) (hfs : ∀ ty : Nat → FieldType, (∀ k, k < q0.2.2 → parseFieldDescriptor (q0.2.1 k).2.2.1 = some (ty k)) → ∀ j, j < q0.2.2 → defaultValue (ty j) = vp_V fs j) (hc : cells + 1 ≤ R.cells) (hs : slots + q0.2.2 ≤ R.slots)
    (kk : ∀ q : Nat, KJ p l e R s m args below meth c dC dI A Q (cells + 1) (slots + q0.2.2) (pc + 3) ls (.ref q :: st) (x0 :: (T ++ [(q, .inr (ci, fs))]))) : KJ p l e R s m args below meth c dC dI A Q cells slots pc ls st (x0 :: T) := kj_new K hd cl hq h1 h2 h3 hfs hc hs kk
theorem kc_call {idx o f mc ms n q : Nat} {μ' : Mi} {e0 : va_E} {js as : List Nat} {L : List (Nat × Int)} {stk : List Value} {x0 : Nat × va_E} {T : va_W} (K : KC p s m args meth c μ dC dI cA A) (hd : decode μ.2.1 pc = .ok (.invokespecial idx, 3)) (hM : CtorM l f mc ms μ' o e0 js L) (hlen : as.length = js.length) (hn : js.length = n) (h1 : Cond.methodLink μ.1.cls idx μ'.1 ∈ TB) (h2 : Cond.instanceMethod μ'.1 ∈ TB) (h3 : Cond.initialized μ'.1.cls ∈ TB) (h4 : Cond.code μ'.1 μ'.2.1 μ'.2.2.1 μ'.2.2.2 ∈ TB) (hret : μ'.2.2.2 = none) (hname : μ'.1.name = "<init>") (hmh : μ'.1.cls ≠ "java/lang/invoke/MethodHandle" ∧ μ'.1.cls ≠ "java/lang/invoke/VarHandle" ∧ (parseMethodDescriptor μ'.1.desc).map (fun d => d.parameters.length) = some n) (hls : ls.size = μ.2.2.1) (hR : f + 1 ≤ R.frames ∧ 8 + (μ'.2.2.1 + 11) + 60 * f ≤ R.locals) (hc : cells + mc ≤ R.cells ∧ slots + ms ≤ R.slots) (hroom : (st.map fun v => v.category).sum ≤ 8) (hstk : stk = (as.map Value.ref).reverse ++ .ref q :: st)
    (kk : ∀ ad : Nat → Int → Nat, ad o (-1) = q → js.map (fun j => ad j (-1)) = as → KJ p l e R s m args below meth c dC dI A Q (cells + mc) (slots + ms) (pc + 3) ls st (x0 :: (T ++ wsG L ad cA))) : KJ p l e R s m args below meth c dC dI A Q cells slots pc ls stk (x0 :: (T ++ [(q, e0)])) := kj_call (ws := x0 :: T) K hd hM hlen hn h1 h2 h3 h4 hret hname hmh hls hR hc hroom hstk kk
end KRW
/-! when two ways of naming addresses give the same cells -/
def refsO (o : Nat) : List Nat := match skl[o]? with
  | some (5, _, l) => l.filterMap (fun f => match f with
    | j + 2 => some j
    | _ => none)
  | _ => []
theorem fld_congr {ad ad' : Nat → Int → Nat} {h : AH} {o k f : Nat} (hr : ∀ j, f = j + 2 → ad j (-1) = ad' j (-1)) : fldV ad h o k f = fldV ad' h o k f := by
  match f, hr with
  | 0, _ => rfl
  | 1, _ => rfl
  | j + 2, hr => show Value.ref _ = Value.ref _; rw [hr j rfl]
theorem enc_congr {ad ad' : Nat → Int → Nat} {cA : Nat → ClassId} {h : AH} {o : Nat} {r : Int} (h1 : ∀ r, ad o r = ad' o r) (h2 : ∀ j ∈ refsO o, ad j (-1) = ad' j (-1)) : encE ad cA h o r = encE ad' cA h o r := by
  unfold encE
  split
  · rw [List.getD_eq_getElem?_getD]
    cases hs : skl[o]? with
    | none => rfl
    | some q =>
      rw [Option.getD_some]
      have obj : ∀ (n : Nat) (l : List Nat), (∀ j, j + 2 ∈ l → ad j (-1) = ad' j (-1)) → l.mapIdx (fun k f => fldV ad h o k f) = l.mapIdx (fun k f => fldV ad' h o k f) := fun n l hl => by
        apply List.ext_getElem?
        intro i
        rw [List.getElem?_mapIdx, List.getElem?_mapIdx]
        cases hi : l[i]? with
        | none => rfl
        | some f =>
          refine congrArg some (fld_congr (fun j hj => hl j ?_))
          rw [← hj]
          exact List.mem_of_getElem? hi
      match q, hs with
      | (0, n, l), _ => rfl
      | (1, n, l), _ => rfl
      | (2, n, l), _ => rfl
      | (3, n, l), _ => rfl
      | (4, n, l), _ =>
        show (Sum.inl (cA 4, n, _) : va_E) = Sum.inl (cA 4, n, _)
        refine congrArg _ (congrArg _ (congrArg _ ?_))
        refine congrArg _ (congrArg _ (congrArg _ (congrArg _ (funext fun k => ?_))))
        rw [h1]
      | (5, n, l), hs =>
        show (Sum.inr (n, _) : va_E) = Sum.inr (n, _)
        rw [obj n l (fun j hj => h2 j ?_)]
        unfold refsO
        rw [hs]
        exact List.mem_filterMap.mpr ⟨j + 2, hj, rfl⟩
      | (k + 6, n, l), hs =>
        have h6 : decide (k + 6 < 6) = true := List.all_eq_true.mp (show skl.all (fun q => decide (q.1 < 6)) = true by decide +kernel) _ (List.mem_of_getElem? hs)
        exact absurd (of_decide_eq_true h6) (by omega)
  · rfl
theorem wsG_congr {L : List (Nat × Int)} {ad ad' : Nat → Int → Nat} {cA : Nat → ClassId} {os : List Nat} (hL : ∀ q ∈ L, q.1 ∈ os) (h1 : ∀ o ∈ os, ∀ r, ad o r = ad' o r) (h2 : ∀ o ∈ os, ∀ j ∈ refsO o, ad j (-1) = ad' j (-1)) : wsG L ad cA = wsG L ad' cA := by
  unfold wsG
  apply List.map_congr_left
  intro q hq
  rw [h1 q.1 (hL q hq), enc_congr (h1 q.1 (hL q hq)) (h2 q.1 (hL q hq))]
theorem wsG_app {L1 L2 : List (Nat × Int)} {ad : Nat → Int → Nat} {cA : Nat → ClassId} : wsG (L1 ++ L2) ad cA = wsG L1 ad cA ++ wsG L2 ad cA := List.map_append
theorem wsG_cons {q : Nat × Int} {L : List (Nat × Int)} {ad : Nat → Int → Nat} {cA : Nat → ClassId} : wsG (q :: L) ad cA = (ad q.1 q.2, encE ad cA h00 q.1 q.2) :: wsG L ad cA := rfl
theorem wsG_one {o : Nat} {ad : Nat → Int → Nat} {cA : Nat → ClassId} {q : Nat} {x : va_E} (h1 : ad o (-1) = q) (h2 : encE ad cA h00 o (-1) = x) : wsG [(o, -1)] ad cA = [(q, x)] := by
  show [(ad o (-1), encE ad cA h00 o (-1))] = _
  rw [h1, h2]
theorem wsG_rows {o n k : Nat} {ad : Nat → Int → Nat} {cA : Nat → ClassId} {q : Nat} (sk : skl[o]? = some (4, n, [k])) (h1 : ad o (-1) = q) (h2 : ∀ i : Nat, ad o (i : Int) = q + 1 + i) : wsG ((o, -1) :: rowsL o n) ad cA = (q, .inl (cA 4, n, .inr (.inr (.inr (.inr (fun i => some (q + 1 + i))))))) :: (List.range n).map (fun i => (q + 1 + i, .inl (cA 0, k, .inl (fun _ => 0)))) := by
  show (ad o (-1), encE ad cA h00 o (-1)) :: wsG (rowsL o n) ad cA = _
  rw [enc_at sk, h1]
  congr 1
  · show (q, (Sum.inl (cA 4, n, Sum.inr (Sum.inr (Sum.inr (Sum.inr (fun k : Nat => some (ad o (k : Int))))))) : va_E)) = _
    simp only [h2]
  · unfold wsG rowsL
    rw [List.map_map]
    apply List.map_congr_left
    intro i _
    show (ad o (i : Int), encE ad cA h00 o (i : Int)) = _
    rw [enc_row sk (by omega), h2]
    rfl

theorem wsG_app2 {L1 L2 : List (Nat × Int)} {ad : Nat → Int → Nat} {cA : Nat → ClassId} {W1 W2 : va_W} (h1 : wsG L1 ad cA = W1) (h2 : wsG L2 ad cA = W2) : wsG (L1 ++ L2) ad cA = W1 ++ W2 := by rw [wsG_app, h1, h2]
theorem wsG_cons2 {o : Nat} {L : List (Nat × Int)} {ad : Nat → Int → Nat} {cA : Nat → ClassId} {q : Nat} {x : va_E} {W : va_W} (h1 : ad o (-1) = q) (h2 : encE ad cA h00 o (-1) = x) (h3 : wsG L ad cA = W) : wsG ((o, -1) :: L) ad cA = (q, x) :: W := by rw [wsG_cons, h1, h2, h3]
theorem wsG_nil {ad : Nat → Int → Nat} {cA : Nat → ClassId} : wsG [] ad cA = [] := rfl
def mpx (f : Nat → Nat → Value) : Nat → List Nat → List Value
  | _, [] => []
  | k, a :: l => f k a :: mpx f (k + 1) l
theorem mpx_get {f : Nat → Nat → Value} : ∀ (l : List Nat) (k i : Nat), (mpx f k l)[i]? = (l[i]?).map (f (k + i))
  | [], k, i => by simp [mpx]
  | a :: l, k, 0 => rfl
  | a :: l, k, i + 1 => by
    show (mpx f (k + 1) l)[i]? = (l[i]?).map (f (k + (i + 1)))
    rw [mpx_get l (k + 1) i, show k + 1 + i = k + (i + 1) by omega]
theorem enc_obj {ad : Nat → Int → Nat} {cA : Nat → ClassId} {h : AH} {o n : Nat} {l : List Nat} (sk : skl[o]? = some (5, n, l)) : encE ad cA h o (-1) = .inr (n, mpx (fun k f => fldV ad h o k f) 0 l) := by
  rw [enc_at sk]
  show (Sum.inr (n, _) : va_E) = Sum.inr (n, _)
  congr 2
  apply List.ext_getElem?
  intro i
  rw [List.getElem?_mapIdx, mpx_get, Nat.zero_add]

/-! new int[n][m]: the outer array and its rows stand behind the world's cells (a name of the whole library: so the first part sends a round through all of it) -/
theorem k_outer (c : ClassId) (N h0 : Nat) : ∀ i : Nat, Jvm.Free.Multi.outerC c N h0 i = arrV c N (fun j => if j < i then .ref (h0 + 1 + j) else .null)
  | 0 => by
    show ({ cls := c, slots := Array.replicate N .null, vm := .none } : Cell) = _
    rw [arrV_new]
    exact congrArg (arrV c N) (funext fun j => by rw [if_neg (Nat.not_lt_zero j)])
  | i + 1 => by
    show (Jvm.Free.Multi.outerC c N h0 i).setSlot i (.ref (h0 + 1 + i)) = _
    rw [k_outer c N h0 i, arrV_store]
    refine congrArg (arrV c N) (funext fun j => ?_)
    show (if j = i then (Value.ref (h0 + 1 + i)) else (if j < i then Value.ref (h0 + 1 + j) else Value.null)) = _
    by_cases e : j = i
    · rw [if_pos e, if_pos (by omega), e]
    · by_cases h : j < i
      · rw [if_neg e, if_pos h, if_pos (by omega)]
      · rw [if_neg e, if_neg h, if_neg (by omega)]
theorem k_arr {c : ClassId} {N : Nat} {f g : Nat → Value} (h : ∀ j, j < N → f j = g j) : arrV c N f = arrV c N g := by
  have e : (fun j : Fin N => f j.val) = (fun j : Fin N => g j.val) := funext fun j => h j.val j.isLt
  show ({ cls := c, slots := Array.ofFn (n := N) fun j => f j.val, vm := .none } : Cell) = { cls := c, slots := Array.ofFn (n := N) fun j => g j.val, vm := .none }
  rw [e]
/-- cells that a call has laid behind all others -/
theorem k_app {D : va_G} {cl : List vw_C} {A : Nat → Prop} {ws wn : va_W} {H0 H H1 : Heap} {locs : List Loc} (hP : va_P D cl ws H) (hD : va_D A ws) (hS : va_S A H0 H locs) (hA : ∀ q, H0.size ≤ q → A q) (hz : H.size ≤ H1.size) (ho : ∀ x : Nat, x < H.size → H1[x]? = H[x]?) (hn : ∀ (k : Nat) (x : Nat × va_E), wn[k]? = some x → x.1 = H.size + k ∧ va_at D cl x H1) : va_P D cl (ws ++ wn) H1 ∧ va_D A (ws ++ wn) ∧ va_S A H0 H1 locs := by
  have lt : ∀ (k : Nat) (x : Nat × va_E), ws[k]? = some x → x.1 < H.size := fun k x hx => (hP k x hx).lt
  refine ⟨(hP.kept (fun k x hx => ho x.1 (lt k x hx))).app (fun k x hx => (hn k x hx).2), hD.app ⟨fun i j x y hi hj e => ?_, fun k x hx => ?_⟩ (fun i j x y hi hj e => ?_), ⟨Nat.le_trans hS.1 hz, fun x h1 h2 => (ho x (Nat.lt_of_lt_of_le h1 hS.1)).trans (hS.2.1 x h1 h2), hS.2.2⟩⟩
  · have a := (hn i x hi).1
    have b := (hn j y hj).1
    omega
  · have a := (hn k x hx).1
    exact hA _ (by have := hS.1; omega)
  · have a := lt i x hi
    have b := (hn j y hj).1
    omega
section KMN
variable {p : Program} {l : Launch} {e : Env} {R : Room} {s : State} {m : MethodId} {args : Array Value} {below : List Frame} {meth : Method} {c : Code} {H : Heap} {locs : List Loc} {cells slots : Nat} {Q : State → Prop}
variable {cc : ByteArray} {pc : Nat} {ls : Array Slot} {rest : List Value} {D : va_G} {cl : List vw_C} {A : Nat → Prop} {ws : va_W} {H0 : Heap}
theorem k_mna (hexec : p.tables.exec = Jvm.exec) (hb : c.code = cc) {own : String} {index : Nat} {c4 c0 : ClassId} (hown : s.vm.findClass own = some m.cls) (hclink : (Cond.classLink own index ("[" ++ (FieldType.array .int).toString)).before args s = true) (hover : (Cond.arrayOver (.array .int)).before args s = true) (harr : (Cond.arrayClass .int).before args s = true) (h4 : s.vm.findClass ("[" ++ (FieldType.array .int).toString) = some c4) (h0 : s.vm.findClass (FieldType.array .int).toString = some c0)
    (hP : va_P D cl ws H) (hD : va_D A ws) (hS : va_S A H0 H locs) (hA : ∀ q, H0.size ≤ q → A q) {n k : Int32} {N' K' : Nat} (hn : ¬ n < 0) (hk : ¬ k < 0) (hN : n.toNatClampNeg = N') (hM : k.toNatClampNeg = K') (hb1 : N' * 4 ≤ 536870912) (hb2 : K' * componentBytes .int ≤ 536870912) (hb3 : K' ≤ 536870912) (hcells : cells + (1 + N') ≤ R.cells) (hslots : slots + (N' + N' * K') ≤ R.slots) (hdg : decode cc pc = .ok (.multianewarray index 2, 4))
    (kk : ∀ (q : Nat) (H1 : Heap), va_P D cl (ws ++ ((q, .inl (c4, N', .inr (.inr (.inr (.inr (fun i => some (q + 1 + i))))))) :: (List.range N').map (fun i => (q + 1 + i, .inl (c0, K', .inl (fun _ => 0)))))) H1 → va_D A (ws ++ ((q, .inl (c4, N', .inr (.inr (.inr (.inr (fun i => some (q + 1 + i))))))) :: (List.range N').map (fun i => (q + 1 + i, .inl (c0, K', .inl (fun _ => 0)))))) → va_S A H0 H1 locs →
      W p l e R s m args below meth c H1 locs (cells + 1 + N') (slots + N' + N' * K') Q (F0 m (pc + 4) ls (.ref q :: rest))) : W p l e R s m args below meth c H locs cells slots Q (F0 m pc ls (.int k :: .int n :: rest)) := by
  subst hN
  subst hM
  intro T hT Xs
  subst hT
  obtain ⟨vm₁, cA, comp, -, fA, fC, hO, -, X', step⟩ := Xs.multianewarray2F hexec hown hclink hover harr (g := F0 m pc ls (.int k :: .int n :: rest)) rfl (by rw [hb]; exact hdg) rfl hn hk hb1 hb2 hb3 rfl rfl hcells hslots
  have e4 : some c4 = some cA := h4.symm.trans fA
  cases e4
  have e0 : some c0 = some comp := h0.symm.trans fC
  cases e0
  generalize hF : Jvm.Free.Multi.fill (T.setVm vm₁) c4 c0 n.toNatClampNeg k.toNatClampNeg (defaultValue .int) n.toNatClampNeg = F at X' step
  have hTh : (T.setVm vm₁).heap = T.heap := rfl
  obtain ⟨f1, f2, -, -⟩ := Jvm.Free.Multi.fill_facts (T.setVm vm₁) c4 c0 n.toNatClampNeg k.toNatClampNeg (defaultValue .int) n.toNatClampNeg
  rw [hF, hTh] at f1 f2
  have hold : ∀ x : Nat, x < T.heap.size → F.heap[x]? = T.heap[x]? := fun x hx => by
    have := Jvm.Free.Multi.fill_old (T.setVm vm₁) c4 c0 n.toNatClampNeg k.toNatClampNeg (defaultValue .int) (a := x) (by rw [hTh]; exact hx) n.toNatClampNeg
    rw [hF, hTh] at this
    exact this
  have hrow : ∀ j : Nat, j < n.toNatClampNeg → F.heap[T.heap.size + 1 + j]? = some (vp_cell c0 (k.toNatClampNeg, .inl (fun _ => 0))) := fun j hj => by
    have := Jvm.Free.Multi.fill_inner (T.setVm vm₁) c4 c0 n.toNatClampNeg k.toNatClampNeg (defaultValue .int) n.toNatClampNeg j hj
    rw [hF, hTh] at this
    rw [this]
    refine congrArg some ?_
    show ({ cls := c0, slots := Array.replicate k.toNatClampNeg (.int 0), vm := .none } : Cell) = _
    rw [arrV_new]
    rfl
  have hout : Jvm.Free.Multi.outerC c4 n.toNatClampNeg T.heap.size n.toNatClampNeg = vp_cell c4 (n.toNatClampNeg, .inr (.inr (.inr (.inr (fun i => some (T.heap.size + 1 + i)))))) := by
    rw [k_outer, vp_cell_q]
    exact k_arr (fun j hj => by rw [if_pos hj]; rfl)
  rw [hout] at f2
  obtain ⟨g1, g2, g3⟩ := k_app (wn := (T.heap.size, .inl (c4, n.toNatClampNeg, .inr (.inr (.inr (.inr (fun i => some (T.heap.size + 1 + i))))))) :: (List.range n.toNatClampNeg).map (fun i => (T.heap.size + 1 + i, .inl (c0, k.toNatClampNeg, .inl (fun _ => 0))))) hP hD hS hA (by omega) hold (fun i x hx => by
    cases i with
    | zero =>
      cases hx
      exact ⟨rfl, f2⟩
    | succ i =>
      rw [List.getElem?_cons_succ, List.getElem?_map] at hx
      by_cases h9 : i < n.toNatClampNeg
      · rw [List.getElem?_range h9] at hx
        cases hx
        exact ⟨by show T.heap.size + 1 + i = _; omega, hrow i h9⟩
      · rw [List.getElem?_eq_none (by rw [List.length_range]; omega)] at hx
        cases hx)
  obtain ⟨t, a1, b1⟩ := kk T.heap.size F.heap g1 g2 g3 F rfl X'
  exact ⟨t, step t a1, b1⟩
end KMN

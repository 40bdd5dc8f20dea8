/-! from the law's entry to its end -/
def osL : List Nat := [0, 1, 13, 2, 14, 15, 16, 17, 18, 19, 3, 20, 21, 22, 23, 24, 4, 5, 25, 26, 27, 28, 29, 6, 30, 31, 32, 33, 34, 35, 7, 36, 37, 38, 39, 40, 41, 8, 42, 43, 44, 45, 9, 46, 47, 10, 48, 49, 50, 51, 52, 53, 11, 54, 55, 56, 57]
def osM : List Nat := [12, 58, 59, 60, 61, 62, 63, 64, 65, 66, 67, 68, 69, 70, 71, 72, 73, 74, 75, 76, 77, 78, 79, 80, 81, 82, 83, 84, 85, 86, 87, 88, 89, 90, 91, 92, 93]
theorem os_apart : ∀ o ∈ osM, o ∉ osL := by decide +kernel
theorem refs_L : ∀ o ∈ osL, ∀ j ∈ refsO o, j ∈ osL := by decide +kernel
theorem refs_M : ∀ o ∈ osM, ∀ j ∈ refsO o, j ∈ osM := by decide +kernel
theorem in_L : ∀ q ∈ L_L, q.1 ∈ osL := by decide +kernel
theorem in_M : ∀ q ∈ L_M, q.1 ∈ osM := by decide +kernel
theorem all_cells : ∀ q ∈ cells, q ∈ L_L ++ L_M := by decide +kernel
theorem in_0 : Cond.instantiable "LetterHeaps$LawCode" 10 ∈ TB := tb_mem (i := 245) (by decide +kernel) rfl
theorem in_1 : Cond.instantiable "LetterHeaps$LawReader" 5 ∈ TB := tb_mem (i := 286) (by decide +kernel) rfl
theorem in_2 : Cond.instantiable "LetterHeaps$NewWords" 12 ∈ TB := tb_mem (i := 424) (by decide +kernel) rfl
theorem in_3 : Cond.instantiable "LetterHeaps$Spelling" 7 ∈ TB := tb_mem (i := 471) (by decide +kernel) rfl
theorem in_4 : Cond.instantiable "LetterHeaps$Squares" 9 ∈ TB := tb_mem (i := 546) (by decide +kernel) rfl
theorem in_5 : Cond.instantiable "LetterHeaps$Steps" 11 ∈ TB := tb_mem (i := 313) (by decide +kernel) rfl
theorem in_6 : Cond.instantiable "LetterHeaps$Tape" 3 ∈ TB := tb_mem (i := 164) (by decide +kernel) rfl
theorem in_7 : Cond.instantiable "LetterHeaps$Told" 12 ∈ TB := tb_mem (i := 502) (by decide +kernel) rfl
theorem in_8 : Cond.instantiable "LetterHeaps$Ways" 17 ∈ TB := tb_mem (i := 357) (by decide +kernel) rfl
theorem in_9 : Cond.instantiable "LetterHeaps$Words" 10 ∈ TB := tb_mem (i := 182) (by decide +kernel) rfl
theorem in_10 : Cond.instantiable "LetterHeaps" 11 ∈ TB := tb_mem (i := 156) (by decide +kernel) rfl
theorem in_11 : Cond.instantiable "LetterHeapsModel" 54 ∈ TB := tb_mem (i := 1367) (by decide +kernel) rfl
theorem k_known {s : State} {args : Array Value} (hTB : ∀ w ∈ TB, w.before args s = true) : ∃ (dC : Nat → ClassId) (dI : Nat → Nat → Nat), ∀ (k : Nat) (q : vw_C), vwCl[k]? = some q → u_Kn s q.1 q.2.1 q.2.2 (dC k) (dI k) := by
  have one : ∀ (k n : Nat) (C : String), ClOk k → (∀ q : vw_C, vwCl[k]? = some q → q.1 = C) → Cond.instantiable C n ∈ TB → ∃ z : ClassId × (Nat → Nat), ∀ q : vw_C, vwCl[k]? = some q → u_Kn s q.1 q.2.1 q.2.2 z.1 z.2 := by
    intro k n C cl hC hi
    obtain ⟨C0, T, N, hcl, hin, -, -⟩ := cl
    have e := hC _ hcl
    have e : C0 = C := e
    subst e
    obtain ⟨cC, iS, hk⟩ := u_known (C := C0) (T := T) (N := N) (n := n) hTB hin (hTB _ hi)
    refine ⟨(cC, iS), fun q hq => ?_⟩
    have e2 := hcl.symm.trans hq
    cases e2
    exact hk
  have each : ∀ k : Nat, ∃ z : ClassId × (Nat → Nat), ∀ q : vw_C, vwCl[k]? = some q → u_Kn s q.1 q.2.1 q.2.2 z.1 z.2 := by
    intro k
    match k with
    | 0 => exact one 0 _ _ cl_0 (fun q hq => by cases hq; rfl) in_0
    | 1 => exact one 1 _ _ cl_1 (fun q hq => by cases hq; rfl) in_1
    | 2 => exact one 2 _ _ cl_2 (fun q hq => by cases hq; rfl) in_2
    | 3 => exact one 3 _ _ cl_3 (fun q hq => by cases hq; rfl) in_3
    | 4 => exact one 4 _ _ cl_4 (fun q hq => by cases hq; rfl) in_4
    | 5 => exact one 5 _ _ cl_5 (fun q hq => by cases hq; rfl) in_5
    | 6 => exact one 6 _ _ cl_6 (fun q hq => by cases hq; rfl) in_6
    | 7 => exact one 7 _ _ cl_7 (fun q hq => by cases hq; rfl) in_7
    | 8 => exact one 8 _ _ cl_8 (fun q hq => by cases hq; rfl) in_8
    | 9 => exact one 9 _ _ cl_9 (fun q hq => by cases hq; rfl) in_9
    | 10 => exact one 10 _ _ cl_10 (fun q hq => by cases hq; rfl) in_10
    | 11 => exact one 11 _ _ cl_11 (fun q hq => by cases hq; rfl) in_11
    | k + 12 =>
      refine ⟨(0, fun _ => 0), fun q hq => ?_⟩
      have : vwCl[k + 12]? = none := List.getElem?_eq_none (by show 12 ≤ k + 12; omega)
      rw [this] at hq
      cases hq
  obtain ⟨z, hz⟩ := Classical.axiomOfChoice each
  exact ⟨fun k => (z k).1, fun k => (z k).2, fun k q hq => hz k q hq⟩
theorem k_arrays {s : State} {args : Array Value} (hTB : ∀ w ∈ TB, w.before args s = true) (hAO : AO s) : ∃ cA : Nat → ClassId, ∀ (k : Nat) (q : ClassId × FieldType), (tysOf cA)[k]? = some q → ArrOfT s q.1 q.2 ∧ va_RA s q.1 q.2 := by
  have prim : ∀ ty : FieldType, Cond.arrayClass ty ∈ TB → (∀ c, va_RA s c ty = (s.vm.findClass ("[" ++ ty.toString) = some c)) → ∃ c : ClassId, ArrOfT s c ty ∧ va_RA s c ty := by
    intro ty hty hra
    obtain ⟨c, k, comp, h1, h2, h3⟩ := Cond.arrayClass_spec (hTB _ hty)
    exact ⟨c, fun N z => ⟨(fun q hq => by cases hq), k, h2, comp, h3⟩, by rw [hra]; exact h1⟩
  obtain ⟨c0, a0⟩ := prim .int (tb_mem (i := 180) (by decide +kernel) rfl) (fun _ => rfl)
  obtain ⟨c1, a1⟩ := prim .byte (tb_mem (i := 917) (by decide +kernel) rfl) (fun _ => rfl)
  obtain ⟨c2, a2⟩ := prim .boolean (tb_mem (i := 243) (by decide +kernel) rfl) (fun _ => rfl)
  obtain ⟨c3, a3⟩ := prim .long (tb_mem (i := 242) (by decide +kernel) rfl) (fun _ => rfl)
  obtain ⟨comp, c4, k4, -, -, g3, g4, g5⟩ := Jvm.Stand.arrayOver_specB (s := s) (t := .int) hAO
  refine ⟨fun k => match k with
    | 0 => c0
    | 1 => c1
    | 2 => c2
    | 3 => c3
    | _ => c4, fun k q hq => ?_⟩
  match k, hq with
  | 0, hq => cases hq; exact a0
  | 1, hq => cases hq; exact a1
  | 2, hq => cases hq; exact a2
  | 3, hq => cases hq; exact a3
  | 4, hq => cases hq; exact ⟨fun N z => ⟨(fun q hq => by cases hq), k4, g3, comp, g4⟩, g5⟩
  | k + 5, hq => cases hq
theorem k_text {b : Nat} {s : State} {A : Nat → Prop} (hts : ∀ w ∈ lw_tbl, w.before #[Value.ref b] s = true) (hgv : (Jvm.Cond.and given_1 narrow_1).before #[Value.ref b] s = true) (hA : ∀ a : Nat, a < s.heap.size → ¬ A a) : SC A s := by
  have hs := flat_of_before _ hgv
  obtain ⟨adK, adV, h1, h2⟩ := vk_Sof (args := #[Value.ref b]) (s := s) (N := 1) (tm := fun _ => Term.string "LetterHeaps$LawReader" 102) (len := lenT) (byt := bytT) (A := A) (fun i hi => by
      have e : i = 0 := by omega
      subst e
      decide) (fun i hi => hs _ (by decide +kernel)) (fun i hi => hs _ (by decide +kernel)) (fun i hi => hs _ (by decide +kernel)) (fun i hi => by
      have e : i = 0 := by omega
      subst e
      exact hs _ (by decide +kernel)) (fun i hi j hj => by
      have e : i = 0 := by omega
      subst e
      have hj : j < 9 := hj
      match j, hj with
      | 0, _ => exact hs _ (by decide +kernel)
      | 1, _ => exact hs _ (by decide +kernel)
      | 2, _ => exact hs _ (by decide +kernel)
      | 3, _ => exact hs _ (by decide +kernel)
      | 4, _ => exact hs _ (by decide +kernel)
      | 5, _ => exact hs _ (by decide +kernel)
      | 6, _ => exact hs _ (by decide +kernel)
      | 7, _ => exact hs _ (by decide +kernel)
      | 8, _ => exact hs _ (by decide +kernel)
      | j + 9, hj => omega) (fun i j hi hj z => by omega) hA
  have hst : (Cond.stringRef "LetterHeaps$LawReader" 102 "kioplfgab").before #[Value.ref b] s = true := hts _ (List.mem_of_getElem? (i := 793) (by decide +kernel))
  have hcs : (Cond.eq (.static "java/lang/String" "COMPACT_STRINGS" "Z") (.int 1)).before #[Value.ref b] s = true := hs _ (by decide +kernel)
  exact ⟨adK, adV, vk_R.of hst (h2 0 (by decide)), h1, va_Zof (hts _ (List.mem_of_getElem? (i := 807) (by decide +kernel))) (hts _ (List.mem_of_getElem? (i := 146) (by decide +kernel))) (va_eqt hcs) hA⟩
/-- the cells of both objects as one world -/
theorem k_world {D : va_G} {ad0 ad1 : Nat → Int → Nat} {cA : Nat → ClassId} : ∃ ad : Nat → Int → Nat, ad 0 (-1) = ad0 0 (-1) ∧ ad 12 (-1) = ad1 12 (-1) ∧ (∀ H, va_P D vwCl (wsG L_L ad0 cA ++ wsG L_M ad1 cA) H → va_P D vwCl (wsOf ad cA h00) H) ∧ ∀ A, va_D A (wsG L_L ad0 cA ++ wsG L_M ad1 cA) → va_D A (wsOf ad cA h00) := by
  obtain ⟨ad, had⟩ : ∃ ad : Nat → Int → Nat, ad = (fun o r => if o ∈ osL then ad0 o r else ad1 o r) := ⟨_, rfl⟩
  have inl : ∀ o ∈ osL, ∀ r, ad o r = ad0 o r := fun o ho r => by rw [had]; exact if_pos ho
  have inm : ∀ o ∈ osM, ∀ r, ad o r = ad1 o r := fun o ho r => by rw [had]; exact if_neg (os_apart o ho)
  have e1 : wsG L_L ad cA = wsG L_L ad0 cA := wsG_congr in_L inl (fun o ho j hj => inl j (refs_L o ho j hj) _)
  have e2 : wsG L_M ad cA = wsG L_M ad1 cA := wsG_congr in_M inm (fun o ho j hj => inm j (refs_M o ho j hj) _)
  have e : wsG L_L ad0 cA ++ wsG L_M ad1 cA = wsG (L_L ++ L_M) ad cA := by rw [wsG_app, e1, e2]
  rw [e]
  have at_ : ∀ (k : Nat) (q : Nat × va_E), (wsOf ad cA h00)[k]? = some q → ∃ c i, cells[k]? = some c ∧ (L_L ++ L_M)[i]? = some c ∧ (wsG (L_L ++ L_M) ad cA)[i]? = some q := fun k q hk => by
    unfold wsOf at hk
    rw [List.getElem?_map] at hk
    cases hc : cells[k]? with
    | none => rw [hc] at hk; cases hk
    | some c =>
      rw [hc] at hk
      obtain ⟨i, hi⟩ := List.getElem?_of_mem (all_cells c (List.mem_of_getElem? hc))
      refine ⟨c, i, rfl, hi, ?_⟩
      unfold wsG
      rw [List.getElem?_map, hi]
      exact hk
  refine ⟨ad, inl 0 (by decide) _, inm 12 (by decide) _, fun H hP k q hk => ?_, fun A hD => ⟨fun i j x y hi hj hxy => ?_, fun k q hk => ?_⟩⟩
  · obtain ⟨c, i, -, -, h3⟩ := at_ k q hk
    exact hP i q h3
  · obtain ⟨c, i1, h1, h2, h3⟩ := at_ i x hi
    obtain ⟨c', j1, g1, g2, g3⟩ := at_ j y hj
    have ij := hD.1 i1 j1 x y h3 g3 hxy
    subst ij
    have ec : c = c' := Option.some.inj (h2.symm.trans g2)
    subst ec
    rw [← cells_pos h1, ← cells_pos g1]
  · obtain ⟨c, i, -, -, h3⟩ := at_ k q hk
    exact hD.2 i q h3
section KLOOP
variable {p : Program} {l : Launch} {e : Env} {s : State} {m : MethodId} {below : List Frame} {meth : Method} {c : Code} {dC : Nat → ClassId} {dI : Nat → Nat → Nat} {cA : Nat → ClassId} {b L : Nat} {xs : Nat → Int32} {ad : Nat → Int → Nat}
theorem and31 (x : Int32) : ∃ n : Nat, n < 32 ∧ x &&& Int32.ofInt 31 = Int32.ofInt (n : Int) := by
  have h1 : ((x &&& Int32.ofInt 31).toBitVec).toNat ≤ 31 := by
    show (x.toBitVec &&& BitVec.ofInt 32 31).toNat ≤ 31
    rw [BitVec.toNat_and]
    exact Nat.and_le_right
  refine ⟨((x &&& Int32.ofInt 31).toBitVec).toNat, by omega, ?_⟩
  have e := tI (x &&& Int32.ofInt 31) rfl (by omega)
  rw [← e, Int32.ofInt_toInt]
theorem law_loop (K : KLc p s m #[Value.ref b] meth c dC dI cA (fun q => s.heap.size ≤ q) b L xs) (hr : meth.sig.returnType = ret) (hL : L ≤ 3072) {cells slots : Nat} (hc : cells ≤ 600000) (hsl : slots ≤ 7302250) : ∀ (n t : Nat) (h : AH) (ls : Array Slot), t + n = 513 → Inv (t : Int) h → OkH h → lv_has ls 4 [(3, .int (Int32.ofInt ((6 * t : Nat) : Int))), (2, .ref (ad 12 (-1))), (1, .ref (ad 0 (-1))), (0, .ref b)] → KJ p l e room_1 s m #[Value.ref b] below meth c dC dI (fun q => s.heap.size ≤ q) (lw_Z below #[Value.ref b] s) cells slots 18 ls [] (wsOf ad cA h) := by
  obtain ⟨K1, hX, hbl, hbA, hSC⟩ := id K
  intro n
  induction n with
  | zero =>
    intro t h ls ht I hO hl H locs hP hD hS
    have e0 : Int32.ofInt ((6 * t : Nat) : Int) = Int32.ofInt 3078 := by rw [show t = 513 by omega]; rfl
    refine lv_iload_n K1.1 K1.2.1 d_law_18 rfl (lv_at hl 0 rfl) ?_
    refine lv_aload_n K1.1 K1.2.1 d_law_19 rfl (lv_at hl 3 rfl) ?_
    refine va_slen K1.1 K1.2.1 hX hbl hbA hS d_law_20 ?_
    refine lv_bipush (v := Int32.ofInt 6) K1.1 K1.2.1 d_law_21 rfl ?_
    refine lv_isub K1.1 K1.2.1 d_law_23 ?_
    rw [show Int32.ofNat L = Int32.ofInt (L : Int) from (ofNatI L).symm, ← Int32.ofInt_sub, e0]
    refine lv_icmp_gt (tgt := 1070) K1.1 K1.2.1 d_law_24 (by decide) (fun _ => ?_) (fun z => absurd ((inI_lt ⟨by omega, by omega⟩ ⟨by decide, by decide⟩).mpr (by omega)) z)
    refine lv_iconst (v := 1) K1.1 K1.2.1 d_law_1070 rfl ?_
    refine va_forget (fun q hq => hS.2.2 q hq) ?_
    refine W.widen (k := 600000) (n := 7302250) hc hsl ?_
    exact lw_ret K1.1 K1.2.1 hr K1.2.2.2.1 d_law_1071
  | succ n ih =>
    intro t h ls ht I hO hl H locs hP hD hS
    refine lv_iload_n K1.1 K1.2.1 d_law_18 rfl (lv_at hl 0 rfl) ?_
    refine lv_aload_n K1.1 K1.2.1 d_law_19 rfl (lv_at hl 3 rfl) ?_
    refine va_slen K1.1 K1.2.1 hX hbl hbA hS d_law_20 ?_
    refine lv_bipush (v := Int32.ofInt 6) K1.1 K1.2.1 d_law_21 rfl ?_
    refine lv_isub K1.1 K1.2.1 d_law_23 ?_
    rw [show Int32.ofNat L = Int32.ofInt (L : Int) from (ofNatI L).symm, ← Int32.ofInt_sub]
    refine lv_icmp_gt (tgt := 1070) K1.1 K1.2.1 d_law_24 (by decide) (fun _ => ?_) (fun z => ?_)
    · refine lv_iconst (v := 1) K1.1 K1.2.1 d_law_1070 rfl ?_
      refine va_forget (fun q hq => hS.2.2 q hq) ?_
      refine W.widen (k := 600000) (n := 7302250) hc hsl ?_
      exact lw_ret K1.1 K1.2.1 hr K1.2.2.2.1 d_law_1071
    have hle : 6 * t + 6 ≤ L := by
      apply Classical.byContradiction
      intro y
      exact z ((inI_lt ⟨by omega, by omega⟩ ⟨by omega, by omega⟩).mpr (by omega))
    have hin : ∀ k : Int, 0 ≤ k → k ≤ 5 → vp_in (Int32.ofInt ((6 * t : Nat) : Int) + Int32.ofInt k) L := fun k k0 k1 => by
      rw [← Int32.ofInt_add]
      exact inb_vp ⟨by omega, by omega⟩ ⟨by omega, by omega⟩
    have hin1 : ∀ k : Int, 1 ≤ k → k ≤ 5 → vp_in (Int32.ofInt ((6 * t : Nat) : Int) + Int32.ofInt k) L := fun k k0 k1 => hin k (by omega) k1
    have hin0 : vp_in (Int32.ofInt ((6 * t : Nat) : Int)) L := inb_vp ⟨by omega, by omega⟩ ⟨by omega, by omega⟩
    have next : ∀ h', OkH h' → Inv ((t : Int) + 1) h' → KJ p l e room_1 s m #[Value.ref b] below meth c dC dI (fun q => s.heap.size ≤ q) (lw_Z below #[Value.ref b] s) cells slots 1064 ls [] (wsOf ad cA h') := fun h' hO' I' H locs hP hD hS => by
      refine lv_iinc (k := 0) (v := Int32.ofInt ((6 * (t + 1) : Nat) : Int)) K1.1 K1.2.1 d_law_1064 hl rfl (by rw [← Int32.ofInt_add]; congr 1) (by decide) rfl (fun ls' hl' => ?_)
      refine lv_goto (tgt := 18) K1.1 K1.2.1 d_law_1067 (by decide) ?_
      exact ih (t + 1) h' ls' (by omega) I' hO' hl' H locs hP hD hS
    suffices k27 : KJ p l e room_1 s m #[Value.ref b] below meth c dC dI (fun q => s.heap.size ≤ q) (lw_Z below #[Value.ref b] s) cells slots 27 ls [] (wsOf ad cA h) from k27 H locs hP hD hS
    refine kl_arg0 K hl hin0 d_law_27 d_law_28 d_law_29 ?_
    refine kj_bipush (v := Int32.ofInt 31) K1 d_law_30 rfl ?_
    intro H locs hP hD hS
    refine lv_iand K1.1 K1.2.1 d_law_32 ?_
    obtain ⟨v, hv, ev⟩ := and31 (xs (Int32.ofInt ((6 * t : Nat) : Int)).toNatClampNeg)
    rw [ev]
    have I6 : (t : Int) ≤ 600 := by omega
    match v, hv with
    | 0, _ => exact lv_tableIn (off := 127) (tgt := 160) K1.1 K1.2.1 d_law_33 (by decide) (by decide) rfl (by decide) (law_0 K hl hin1 hc hsl hO I I6 next H locs hP hD hS)
    | 1, _ => exact lv_tableIn (off := 190) (tgt := 223) K1.1 K1.2.1 d_law_33 (by decide) (by decide) rfl (by decide) (law_1 K hl hin1 hc hsl hO I I6 next H locs hP hD hS)
    | 2, _ => exact lv_tableIn (off := 233) (tgt := 266) K1.1 K1.2.1 d_law_33 (by decide) (by decide) rfl (by decide) (law_2 K hl hin1 hc hsl hO I I6 next H locs hP hD hS)
    | 3, _ => exact lv_tableIn (off := 282) (tgt := 315) K1.1 K1.2.1 d_law_33 (by decide) (by decide) rfl (by decide) (law_3 K hl hin1 hc hsl hO I I6 next H locs hP hD hS)
    | 4, _ => exact lv_tableIn (off := 315) (tgt := 348) K1.1 K1.2.1 d_law_33 (by decide) (by decide) rfl (by decide) (law_4 K hl hin1 hc hsl hO I I6 next H locs hP hD hS)
    | 5, _ => exact lv_tableIn (off := 338) (tgt := 371) K1.1 K1.2.1 d_law_33 (by decide) (by decide) rfl (by decide) (law_5 K hl hin1 hc hsl hO I I6 next H locs hP hD hS)
    | 6, _ => exact lv_tableIn (off := 361) (tgt := 394) K1.1 K1.2.1 d_law_33 (by decide) (by decide) rfl (by decide) (law_6 K hl hin1 hc hsl hO I I6 next H locs hP hD hS)
    | 7, _ => exact lv_tableIn (off := 404) (tgt := 437) K1.1 K1.2.1 d_law_33 (by decide) (by decide) rfl (by decide) (law_7 K hl hin1 hc hsl hO I I6 next H locs hP hD hS)
    | 8, _ => exact lv_tableIn (off := 447) (tgt := 480) K1.1 K1.2.1 d_law_33 (by decide) (by decide) rfl (by decide) (law_8 K hl hin1 hc hsl hO I I6 next H locs hP hD hS)
    | 9, _ => exact lv_tableIn (off := 481) (tgt := 514) K1.1 K1.2.1 d_law_33 (by decide) (by decide) rfl (by decide) (law_9 K hl hin1 hc hsl hO I I6 next H locs hP hD hS)
    | 10, _ => exact lv_tableIn (off := 515) (tgt := 548) K1.1 K1.2.1 d_law_33 (by decide) (by decide) rfl (by decide) (law_10 K hl hin1 hc hsl hO I I6 next H locs hP hD hS)
    | 11, _ => exact lv_tableIn (off := 538) (tgt := 571) K1.1 K1.2.1 d_law_33 (by decide) (by decide) rfl (by decide) (law_11 K hl hin1 hc hsl hO I I6 next H locs hP hD hS)
    | 12, _ => exact lv_tableIn (off := 551) (tgt := 584) K1.1 K1.2.1 d_law_33 (by decide) (by decide) rfl (by decide) (law_12 K hl hin1 hc hsl hO I I6 next H locs hP hD hS)
    | 13, _ => exact lv_tableIn (off := 574) (tgt := 607) K1.1 K1.2.1 d_law_33 (by decide) (by decide) rfl (by decide) (law_13 K hl hin1 hc hsl hO I I6 next H locs hP hD hS)
    | 14, _ => exact lv_tableIn (off := 597) (tgt := 630) K1.1 K1.2.1 d_law_33 (by decide) (by decide) rfl (by decide) (law_14 K hl hin1 hc hsl hO I I6 next H locs hP hD hS)
    | 15, _ => exact lv_tableIn (off := 620) (tgt := 653) K1.1 K1.2.1 d_law_33 (by decide) (by decide) rfl (by decide) (law_15 K hl hin1 hc hsl hO I I6 next H locs hP hD hS)
    | 16, _ => exact lv_tableIn (off := 664) (tgt := 697) K1.1 K1.2.1 d_law_33 (by decide) (by decide) rfl (by decide) (law_16 K hl hin1 hc hsl hO I I6 next H locs hP hD hS)
    | 17, _ => exact lv_tableIn (off := 697) (tgt := 730) K1.1 K1.2.1 d_law_33 (by decide) (by decide) rfl (by decide) (law_17 K hl hin1 hc hsl hO I I6 next H locs hP hD hS)
    | 18, _ => exact lv_tableIn (off := 730) (tgt := 763) K1.1 K1.2.1 d_law_33 (by decide) (by decide) rfl (by decide) (law_18 K hl hin1 hc hsl hO I I6 next H locs hP hD hS)
    | 19, _ => exact lv_tableIn (off := 763) (tgt := 796) K1.1 K1.2.1 d_law_33 (by decide) (by decide) rfl (by decide) (law_19 K hl hin1 hc hsl hO I I6 next H locs hP hD hS)
    | 20, _ => exact lv_tableIn (off := 796) (tgt := 829) K1.1 K1.2.1 d_law_33 (by decide) (by decide) rfl (by decide) (law_20 K hl hin1 hc hsl hO I I6 next H locs hP hD hS)
    | 21, _ => exact lv_tableIn (off := 839) (tgt := 872) K1.1 K1.2.1 d_law_33 (by decide) (by decide) rfl (by decide) (law_21 K hl hin1 hc hsl hO I I6 next H locs hP hD hS)
    | 22, _ => exact lv_tableIn (off := 863) (tgt := 896) K1.1 K1.2.1 d_law_33 (by decide) (by decide) rfl (by decide) (law_22 K hl hin1 hc hsl hO I I6 next H locs hP hD hS)
    | 23, _ => exact lv_tableIn (off := 896) (tgt := 929) K1.1 K1.2.1 d_law_33 (by decide) (by decide) rfl (by decide) (law_23 K hl hin1 hc hsl hO I I6 next H locs hP hD hS)
    | 24, _ => exact lv_tableIn (off := 919) (tgt := 952) K1.1 K1.2.1 d_law_33 (by decide) (by decide) rfl (by decide) (law_24 K hl hin1 hc hsl hO I I6 next H locs hP hD hS)
    | 25, _ => exact lv_tableIn (off := 962) (tgt := 995) K1.1 K1.2.1 d_law_33 (by decide) (by decide) rfl (by decide) (law_25 K hl hin1 hc hsl hO I I6 next H locs hP hD hS)
    | 26, _ => exact lv_tableIn (off := 975) (tgt := 1008) K1.1 K1.2.1 d_law_33 (by decide) (by decide) rfl (by decide) (law_26 K hl hin1 hc hsl hO I I6 next H locs hP hD hS)
    | 27, _ => exact lv_tableIn (off := 1008) (tgt := 1041) K1.1 K1.2.1 d_law_33 (by decide) (by decide) rfl (by decide) (law_27 K hl hin1 hc hsl hO I I6 next H locs hP hD hS)
    | 28, _ => exact lv_tableOut (tgt := 1064) K1.1 K1.2.1 d_law_33 (by decide) (by decide) (next h hO (I.upI (by omega)) H locs hP hD hS)
    | 29, _ => exact lv_tableOut (tgt := 1064) K1.1 K1.2.1 d_law_33 (by decide) (by decide) (next h hO (I.upI (by omega)) H locs hP hD hS)
    | 30, _ => exact lv_tableOut (tgt := 1064) K1.1 K1.2.1 d_law_33 (by decide) (by decide) (next h hO (I.upI (by omega)) H locs hP hD hS)
    | 31, _ => exact lv_tableOut (tgt := 1064) K1.1 K1.2.1 d_law_33 (by decide) (by decide) (next h hO (I.upI (by omega)) H locs hP hD hS)
    | v + 32, hv => omega
end KLOOP
theorem kj_astore {p : Program} {l : Launch} {e : Env} {R : Room} {s : State} {m : MethodId} {args : Array Value} {below : List Frame} {meth : Method} {c : Code} {dC : Nat → ClassId} {dI : Nat → Nat → Nat} {cA : Nat → ClassId} {A : Nat → Prop} {Q : State → Prop} {cells slots pc : Nat} {ls : Array Slot} {st : List Value} {ws : va_W} {μ : Mi} {k : Fin 4} {i nL x : Nat} {lv lv' : List (Nat × Value)} (K : KC p s m args meth c μ dC dI cA A) (hd : decode μ.2.1 pc = .ok (.astore_n k, 1)) (hi : (k : Nat) = i) (h : lv_has ls nL lv) (hn : i < nL) (hl : (i, Value.ref x) :: lv.filter (fun q => !(q.1 == i) && !(q.1 + 1 == i && q.2.category == 2)) = lv') (kk : ∀ ls' : Array Slot, lv_has ls' nL lv' → KJ p l e R s m args below meth c dC dI A Q cells slots (pc + 1) ls' st ws) : KJ p l e R s m args below meth c dC dI A Q cells slots pc ls (.ref x :: st) ws := fun H locs hP hD hS => lv_astore_n K.1 K.2.1 hd hi h hn hl (fun ls' hl' => kk ls' hl' H locs hP hD hS)
theorem whole_start {p : Program} {e : Env} {s : State} {m : MethodId} {below : List Frame} {meth : Method} {c : Code} (l : Launch) (hflags : l.flags = flags0) {b L : Nat} {xs : Nat → Int32} (hL : L ≤ 3072) (C0 : lw_At p s m meth c b L xs) : W p l e room_1 s m #[Value.ref b] below meth c s.heap [] 0 0 (lw_Z below #[Value.ref b] s) (entryFrame m ([Value.ref b] : List Value).toArray 4) := by
  obtain ⟨hx, hb, hr, hml, hown, hts, hX, hbl, hlocks, hgv⟩ := id C0
  have hTB : ∀ w ∈ TB, w.before #[Value.ref b] s = true := fun w hw => hts w (List.mem_filter.mp hw).1
  have hA : ∀ a : Nat, a < s.heap.size → ¬ (fun q : Nat => s.heap.size ≤ q) a := fun a ha z => absurd ha (Nat.not_lt.mpr z)
  have hAO : AO s := hts (.arrayOver (.array .int)) (List.mem_of_getElem? (i := 188) (by decide +kernel))
  obtain ⟨dC, dI, hKc⟩ := k_known hTB
  obtain ⟨cA, hKa⟩ := k_arrays hTB hAO
  have K : KC p s m #[Value.ref b] meth c MLaw dC dI cA (fun q => s.heap.size ≤ q) := ⟨hx, hb, hml, hlocks, hown, hTB, ⟨hKc, hKa⟩, fun _ h => h, hAO⟩
  have hl := lv_entry ([.ref b]) (n := 4) (Nat.le_of_ble_eq_true rfl)
  rw [lg_entry_eq]
  generalize (lg_sl ([.ref b]) ++ List.replicate (4 - (lg_sl ([.ref b])).length) Slot.unset).toArray = ls at hl ⊢
  have hl : lv_has ls 4 [(0, .ref b)] := hl
  suffices k0 : KJ p l e room_1 s m #[Value.ref b] below meth c dC dI (fun q => s.heap.size ≤ q) (lw_Z below #[Value.ref b] s) 0 0 0 ls [] [] from k0 s.heap [] (fun k q h => by simp at h) ⟨fun i j p q h => by simp at h, fun k q h => by simp at h⟩ va_S.rf
  refine kj_new (fs := [.null, .null, .null, .null, .null, .null, .null, .null, .null, .null, .int (Int32.ofInt 0)]) K d_law_0 cl_10 rfl (tb_mem (i := 155) (by decide +kernel) rfl) (tb_mem (i := 156) (by decide +kernel) rfl) (tb_mem (i := 133) (by decide +kernel) rfl) (fun ty h j hj => by have e := Option.some.inj ((h j hj).symm.trans (tyX10_ok j hj)); rw [e]; exact df_10 j hj) (Nat.le_of_ble_eq_true rfl) (Nat.le_of_ble_eq_true rfl) (fun q0 => ?_)
  refine kj_dup K d_law_3 ?_
  refine kj_call (as := []) K d_law_4 (k_L (l := l)) rfl rfl (tb_mem (i := 157) (by decide +kernel) rfl) (tb_mem (i := 158) (by decide +kernel) rfl) (tb_mem (i := 133) (by decide +kernel) rfl) (tb_mem (i := 159) (by decide +kernel) rfl) rfl rfl ⟨by decide, by decide, by decide +kernel⟩ hl.1 ⟨Nat.le_of_ble_eq_true rfl, Nat.le_of_ble_eq_true rfl⟩ ⟨Nat.le_of_ble_eq_true rfl, Nat.le_of_ble_eq_true rfl⟩ (Nat.le_of_ble_eq_true rfl) rfl (fun ad0 hq0 _ => ?_)
  refine kj_astore (lv' := [(1, .ref q0), (0, .ref b)]) K d_law_7 rfl hl (by decide) rfl (fun ls hl => ?_)
  refine kj_new (fs := [.int (Int32.ofInt 0), .int (Int32.ofInt 0), .int (Int32.ofInt 0), .null, .null, .null, .null, .null, .null, .int (Int32.ofInt 0), .null, .int (Int32.ofInt 0), .int (Int32.ofInt 0), .int (Int32.ofInt 0), .int (Int32.ofInt 0), .int (Int32.ofInt 0), .int (Int32.ofInt 0), .int (Int32.ofInt 0), .int (Int32.ofInt 0), .int (Int32.ofInt 0), .int (Int32.ofInt 0), .null, .null, .null, .null, .null, .null, .null, .null, .null, .null, .null, .null, .null, .null, .null, .null, .null, .null, .null, .null, .int (Int32.ofInt 0), .int (Int32.ofInt 0), .int (Int32.ofInt 0), .null, .null, .null, .null, .null, .null, .null, .null, .null, .int (Int32.ofInt 0)]) K d_law_8 cl_11 rfl (tb_mem (i := 1366) (by decide +kernel) rfl) (tb_mem (i := 1367) (by decide +kernel) rfl) (tb_mem (i := 144) (by decide +kernel) rfl) (fun ty h j hj => by have e := Option.some.inj ((h j hj).symm.trans (tyX11_ok j hj)); rw [e]; exact df_11 j hj) (Nat.le_of_ble_eq_true rfl) (Nat.le_of_ble_eq_true rfl) (fun q1 => ?_)
  refine kj_dup K d_law_11 ?_
  refine kj_call (as := []) K d_law_12 (k_M (l := l)) rfl rfl (tb_mem (i := 1368) (by decide +kernel) rfl) (tb_mem (i := 1369) (by decide +kernel) rfl) (tb_mem (i := 144) (by decide +kernel) rfl) (tb_mem (i := 1370) (by decide +kernel) rfl) rfl rfl ⟨by decide, by decide, by decide +kernel⟩ hl.1 ⟨Nat.le_of_ble_eq_true rfl, Nat.le_of_ble_eq_true rfl⟩ ⟨Nat.le_of_ble_eq_true rfl, Nat.le_of_ble_eq_true rfl⟩ (Nat.le_of_ble_eq_true rfl) rfl (fun ad1 hq1 _ => ?_)
  refine kj_astore (lv' := [(2, .ref q1), (1, .ref q0), (0, .ref b)]) K d_law_15 rfl hl (by decide) rfl (fun ls hl => ?_)
  intro H locs hP hD hS
  obtain ⟨ad, e0, e1, toP, toD⟩ := k_world (D := (dC, dI)) (ad0 := ad0) (ad1 := ad1) (cA := cA)
  rw [List.nil_append] at hP hD
  refine lv_iconst (v := Int32.ofInt ((6 * 0 : Nat) : Int)) hx hb d_law_16 rfl ?_
  refine lv_istore_n (lv' := [(3, .int (Int32.ofInt ((6 * 0 : Nat) : Int))), (2, .ref q1), (1, .ref q0), (0, .ref b)]) hx hb d_law_17 rfl hl (by decide) rfl (fun ls hl => ?_)
  rw [← hq0, ← hq1, ← e0, ← e1] at hl
  exact law_loop (ad := ad) ⟨K, hX, hbl, Nat.not_le.mpr hbl, k_text hts hgv hA⟩ hr hL (Nat.le_of_ble_eq_true rfl) (Nat.le_of_ble_eq_true rfl) 513 0 h00 ls rfl inv0 ok_h00 hl H locs (toP H hP) (toD _ hD) hS

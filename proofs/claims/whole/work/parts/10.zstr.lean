/-! the JDK finds a letter in a text: decode rows (printed by program) -/
theorem dJ0_length_8abf5_0 : decode cJ0_length_8abf5 0 = .ok (.aload_n 0, 1) := by decide +kernel
theorem dJ0_length_8abf5_1 : decode cJ0_length_8abf5 1 = .ok (.getfield 9, 3) := by decide +kernel
theorem dJ0_length_8abf5_4 : decode cJ0_length_8abf5 4 = .ok (.arraylength, 1) := by decide +kernel
theorem dJ0_length_8abf5_5 : decode cJ0_length_8abf5 5 = .ok (.aload_n 0, 1) := by decide +kernel
theorem dJ0_length_8abf5_6 : decode cJ0_length_8abf5 6 = .ok (.invokevirtual 335, 3) := by decide +kernel
theorem dJ0_length_8abf5_9 : decode cJ0_length_8abf5 9 = .ok (.ishr, 1) := by decide +kernel
theorem dJ0_length_8abf5_10 : decode cJ0_length_8abf5 10 = .ok (.ireturn, 1) := by decide +kernel
theorem dJ0_indexOf_0f7a4_0 : decode cJ0_indexOf_0f7a4 0 = .ok (.aload_n 0, 1) := by decide +kernel
theorem dJ0_indexOf_0f7a4_1 : decode cJ0_indexOf_0f7a4 1 = .ok (.iload_n 1, 1) := by decide +kernel
theorem dJ0_indexOf_0f7a4_2 : decode cJ0_indexOf_0f7a4 2 = .ok (.iconst 0, 1) := by decide +kernel
theorem dJ0_indexOf_0f7a4_3 : decode cJ0_indexOf_0f7a4 3 = .ok (.invokevirtual 633, 3) := by decide +kernel
theorem dJ0_indexOf_0f7a4_6 : decode cJ0_indexOf_0f7a4 6 = .ok (.ireturn, 1) := by decide +kernel
theorem dJ0_indexOf_7cf53_0 : decode cJ0_indexOf_7cf53 0 = .ok (.aload_n 0, 1) := by decide +kernel
theorem dJ0_indexOf_7cf53_1 : decode cJ0_indexOf_7cf53 1 = .ok (.invokevirtual 492, 3) := by decide +kernel
theorem dJ0_indexOf_7cf53_4 : decode cJ0_indexOf_7cf53 4 = .ok (.ifCond .eq 19, 3) := by decide +kernel
theorem dJ0_indexOf_7cf53_7 : decode cJ0_indexOf_7cf53 7 = .ok (.aload_n 0, 1) := by decide +kernel
theorem dJ0_indexOf_7cf53_8 : decode cJ0_indexOf_7cf53 8 = .ok (.getfield 9, 3) := by decide +kernel
theorem dJ0_indexOf_7cf53_11 : decode cJ0_indexOf_7cf53 11 = .ok (.iload_n 1, 1) := by decide +kernel
theorem dJ0_indexOf_7cf53_12 : decode cJ0_indexOf_7cf53 12 = .ok (.iload_n 2, 1) := by decide +kernel
theorem dJ0_indexOf_7cf53_13 : decode cJ0_indexOf_7cf53 13 = .ok (.aload_n 0, 1) := by decide +kernel
theorem dJ0_indexOf_7cf53_14 : decode cJ0_indexOf_7cf53 14 = .ok (.invokevirtual 505, 3) := by decide +kernel
theorem dJ0_indexOf_7cf53_17 : decode cJ0_indexOf_7cf53 17 = .ok (.invokestatic 637, 3) := by decide +kernel
theorem dJ0_indexOf_7cf53_20 : decode cJ0_indexOf_7cf53 20 = .ok (.goto 16, 3) := by decide +kernel
theorem dJ0_indexOf_7cf53_23 : decode cJ0_indexOf_7cf53 23 = .ok (.aload_n 0, 1) := by decide +kernel
theorem dJ0_indexOf_7cf53_24 : decode cJ0_indexOf_7cf53 24 = .ok (.getfield 9, 3) := by decide +kernel
theorem dJ0_indexOf_7cf53_27 : decode cJ0_indexOf_7cf53 27 = .ok (.iload_n 1, 1) := by decide +kernel
theorem dJ0_indexOf_7cf53_28 : decode cJ0_indexOf_7cf53 28 = .ok (.iload_n 2, 1) := by decide +kernel
theorem dJ0_indexOf_7cf53_29 : decode cJ0_indexOf_7cf53 29 = .ok (.aload_n 0, 1) := by decide +kernel
theorem dJ0_indexOf_7cf53_30 : decode cJ0_indexOf_7cf53 30 = .ok (.invokevirtual 505, 3) := by decide +kernel
theorem dJ0_indexOf_7cf53_33 : decode cJ0_indexOf_7cf53 33 = .ok (.invokestatic 640, 3) := by decide +kernel
theorem dJ0_indexOf_7cf53_36 : decode cJ0_indexOf_7cf53 36 = .ok (.ireturn, 1) := by decide +kernel
theorem dJ0_coder_7d493_0 : decode cJ0_coder_7d493 0 = .ok (.getstatic 38, 3) := by decide +kernel
theorem dJ0_coder_7d493_3 : decode cJ0_coder_7d493 3 = .ok (.ifCond .eq 10, 3) := by decide +kernel
theorem dJ0_coder_7d493_6 : decode cJ0_coder_7d493 6 = .ok (.aload_n 0, 1) := by decide +kernel
theorem dJ0_coder_7d493_7 : decode cJ0_coder_7d493 7 = .ok (.getfield 15, 3) := by decide +kernel
theorem dJ0_coder_7d493_10 : decode cJ0_coder_7d493 10 = .ok (.goto 4, 3) := by decide +kernel
theorem dJ0_coder_7d493_13 : decode cJ0_coder_7d493 13 = .ok (.iconst 1, 1) := by decide +kernel
theorem dJ0_coder_7d493_14 : decode cJ0_coder_7d493 14 = .ok (.ireturn, 1) := by decide +kernel
theorem dJ0_isLatin1_aae02_0 : decode cJ0_isLatin1_aae02 0 = .ok (.getstatic 38, 3) := by decide +kernel
theorem dJ0_isLatin1_aae02_3 : decode cJ0_isLatin1_aae02 3 = .ok (.ifCond .eq 14, 3) := by decide +kernel
theorem dJ0_isLatin1_aae02_6 : decode cJ0_isLatin1_aae02 6 = .ok (.aload_n 0, 1) := by decide +kernel
theorem dJ0_isLatin1_aae02_7 : decode cJ0_isLatin1_aae02 7 = .ok (.getfield 15, 3) := by decide +kernel
theorem dJ0_isLatin1_aae02_10 : decode cJ0_isLatin1_aae02 10 = .ok (.ifCond .ne 7, 3) := by decide +kernel
theorem dJ0_isLatin1_aae02_13 : decode cJ0_isLatin1_aae02 13 = .ok (.iconst 1, 1) := by decide +kernel
theorem dJ0_isLatin1_aae02_14 : decode cJ0_isLatin1_aae02 14 = .ok (.goto 4, 3) := by decide +kernel
theorem dJ0_isLatin1_aae02_17 : decode cJ0_isLatin1_aae02 17 = .ok (.iconst 0, 1) := by decide +kernel
theorem dJ0_isLatin1_aae02_18 : decode cJ0_isLatin1_aae02 18 = .ok (.ireturn, 1) := by decide +kernel
theorem dJ1_canEncode_9a6ad_0 : decode cJ1_canEncode_9a6ad 0 = .ok (.iload_n 0, 1) := by decide +kernel
theorem dJ1_canEncode_9a6ad_1 : decode cJ1_canEncode_9a6ad 1 = .ok (.ifCond .lt 14, 3) := by decide +kernel
theorem dJ1_canEncode_9a6ad_4 : decode cJ1_canEncode_9a6ad 4 = .ok (.iload_n 0, 1) := by decide +kernel
theorem dJ1_canEncode_9a6ad_5 : decode cJ1_canEncode_9a6ad 5 = .ok (.sipush 255, 3) := by decide +kernel
theorem dJ1_canEncode_9a6ad_8 : decode cJ1_canEncode_9a6ad 8 = .ok (.if_icmp .gt 7, 3) := by decide +kernel
theorem dJ1_canEncode_9a6ad_11 : decode cJ1_canEncode_9a6ad 11 = .ok (.iconst 1, 1) := by decide +kernel
theorem dJ1_canEncode_9a6ad_12 : decode cJ1_canEncode_9a6ad 12 = .ok (.goto 4, 3) := by decide +kernel
theorem dJ1_canEncode_9a6ad_15 : decode cJ1_canEncode_9a6ad 15 = .ok (.iconst 0, 1) := by decide +kernel
theorem dJ1_canEncode_9a6ad_16 : decode cJ1_canEncode_9a6ad 16 = .ok (.ireturn, 1) := by decide +kernel
theorem dJ1_indexOf_4cfef_0 : decode cJ1_indexOf_4cfef 0 = .ok (.iload_n 1, 1) := by decide +kernel
theorem dJ1_indexOf_4cfef_1 : decode cJ1_indexOf_4cfef 1 = .ok (.invokestatic 88, 3) := by decide +kernel
theorem dJ1_indexOf_4cfef_4 : decode cJ1_indexOf_4cfef 4 = .ok (.ifCond .ne 5, 3) := by decide +kernel
theorem dJ1_indexOf_4cfef_7 : decode cJ1_indexOf_4cfef 7 = .ok (.iconst (-1), 1) := by decide +kernel
theorem dJ1_indexOf_4cfef_8 : decode cJ1_indexOf_4cfef 8 = .ok (.ireturn, 1) := by decide +kernel
theorem dJ1_indexOf_4cfef_9 : decode cJ1_indexOf_4cfef 9 = .ok (.iload_n 2, 1) := by decide +kernel
theorem dJ1_indexOf_4cfef_10 : decode cJ1_indexOf_4cfef 10 = .ok (.iconst 0, 1) := by decide +kernel
theorem dJ1_indexOf_4cfef_11 : decode cJ1_indexOf_4cfef 11 = .ok (.invokestatic 92, 3) := by decide +kernel
theorem dJ1_indexOf_4cfef_14 : decode cJ1_indexOf_4cfef 14 = .ok (.istore_n 2, 1) := by decide +kernel
theorem dJ1_indexOf_4cfef_15 : decode cJ1_indexOf_4cfef 15 = .ok (.iload_n 3, 1) := by decide +kernel
theorem dJ1_indexOf_4cfef_16 : decode cJ1_indexOf_4cfef 16 = .ok (.aload_n 0, 1) := by decide +kernel
theorem dJ1_indexOf_4cfef_17 : decode cJ1_indexOf_4cfef 17 = .ok (.arraylength, 1) := by decide +kernel
theorem dJ1_indexOf_4cfef_18 : decode cJ1_indexOf_4cfef 18 = .ok (.invokestatic 38, 3) := by decide +kernel
theorem dJ1_indexOf_4cfef_21 : decode cJ1_indexOf_4cfef 21 = .ok (.istore_n 3, 1) := by decide +kernel
theorem dJ1_indexOf_4cfef_22 : decode cJ1_indexOf_4cfef 22 = .ok (.iload_n 2, 1) := by decide +kernel
theorem dJ1_indexOf_4cfef_23 : decode cJ1_indexOf_4cfef 23 = .ok (.iload_n 3, 1) := by decide +kernel
theorem dJ1_indexOf_4cfef_24 : decode cJ1_indexOf_4cfef 24 = .ok (.if_icmp .lt 5, 3) := by decide +kernel
theorem dJ1_indexOf_4cfef_27 : decode cJ1_indexOf_4cfef 27 = .ok (.iconst (-1), 1) := by decide +kernel
theorem dJ1_indexOf_4cfef_28 : decode cJ1_indexOf_4cfef 28 = .ok (.ireturn, 1) := by decide +kernel
theorem dJ1_indexOf_4cfef_29 : decode cJ1_indexOf_4cfef 29 = .ok (.aload_n 0, 1) := by decide +kernel
theorem dJ1_indexOf_4cfef_30 : decode cJ1_indexOf_4cfef 30 = .ok (.iload_n 1, 1) := by decide +kernel
theorem dJ1_indexOf_4cfef_31 : decode cJ1_indexOf_4cfef 31 = .ok (.iload_n 2, 1) := by decide +kernel
theorem dJ1_indexOf_4cfef_32 : decode cJ1_indexOf_4cfef 32 = .ok (.iload_n 3, 1) := by decide +kernel
theorem dJ1_indexOf_4cfef_33 : decode cJ1_indexOf_4cfef 33 = .ok (.invokestatic 95, 3) := by decide +kernel
theorem dJ1_indexOf_4cfef_36 : decode cJ1_indexOf_4cfef 36 = .ok (.ireturn, 1) := by decide +kernel
theorem dJ1_indexOfChar_4cfef_0 : decode cJ1_indexOfChar_4cfef 0 = .ok (.iload_n 1, 1) := by decide +kernel
theorem dJ1_indexOfChar_4cfef_1 : decode cJ1_indexOfChar_4cfef 1 = .ok (.i2b, 1) := by decide +kernel
theorem dJ1_indexOfChar_4cfef_2 : decode cJ1_indexOfChar_4cfef 2 = .ok (.istore 4, 2) := by decide +kernel
theorem dJ1_indexOfChar_4cfef_4 : decode cJ1_indexOfChar_4cfef 4 = .ok (.iload_n 2, 1) := by decide +kernel
theorem dJ1_indexOfChar_4cfef_5 : decode cJ1_indexOfChar_4cfef 5 = .ok (.istore 5, 2) := by decide +kernel
theorem dJ1_indexOfChar_4cfef_7 : decode cJ1_indexOfChar_4cfef 7 = .ok (.iload 5, 2) := by decide +kernel
theorem dJ1_indexOfChar_4cfef_9 : decode cJ1_indexOfChar_4cfef 9 = .ok (.iload_n 3, 1) := by decide +kernel
theorem dJ1_indexOfChar_4cfef_10 : decode cJ1_indexOfChar_4cfef 10 = .ok (.if_icmp .ge 21, 3) := by decide +kernel
theorem dJ1_indexOfChar_4cfef_13 : decode cJ1_indexOfChar_4cfef 13 = .ok (.aload_n 0, 1) := by decide +kernel
theorem dJ1_indexOfChar_4cfef_14 : decode cJ1_indexOfChar_4cfef 14 = .ok (.iload 5, 2) := by decide +kernel
theorem dJ1_indexOfChar_4cfef_16 : decode cJ1_indexOfChar_4cfef 16 = .ok (.baload, 1) := by decide +kernel
theorem dJ1_indexOfChar_4cfef_17 : decode cJ1_indexOfChar_4cfef 17 = .ok (.iload 4, 2) := by decide +kernel
theorem dJ1_indexOfChar_4cfef_19 : decode cJ1_indexOfChar_4cfef 19 = .ok (.if_icmp .ne 6, 3) := by decide +kernel
theorem dJ1_indexOfChar_4cfef_22 : decode cJ1_indexOfChar_4cfef 22 = .ok (.iload 5, 2) := by decide +kernel
theorem dJ1_indexOfChar_4cfef_24 : decode cJ1_indexOfChar_4cfef 24 = .ok (.ireturn, 1) := by decide +kernel
theorem dJ1_indexOfChar_4cfef_25 : decode cJ1_indexOfChar_4cfef 25 = .ok (.iinc 5 1, 3) := by decide +kernel
theorem dJ1_indexOfChar_4cfef_28 : decode cJ1_indexOfChar_4cfef 28 = .ok (.goto (-21), 3) := by decide +kernel
theorem dJ1_indexOfChar_4cfef_31 : decode cJ1_indexOfChar_4cfef 31 = .ok (.iconst (-1), 1) := by decide +kernel
theorem dJ1_indexOfChar_4cfef_32 : decode cJ1_indexOfChar_4cfef 32 = .ok (.ireturn, 1) := by decide +kernel
/-- own's pool entry idx is the JDK's method μ, of n parameters, called on an object -/
def LJ (own : String) (idx : Nat) (μ : Mi) (n : Nat) : Prop := (Cond.methodLink own idx μ.1 ∈ TB ∧ Cond.instanceMethod μ.1 ∈ TB ∧ Cond.selects μ.1.cls μ.1 μ.1 ∈ TB ∧ Cond.initialized μ.1.cls ∈ TB ∧ Cond.code μ.1 μ.2.1 μ.2.2.1 μ.2.2.2 ∈ TB) ∧ (μ.1.cls ≠ "java/lang/invoke/MethodHandle" ∧ μ.1.cls ≠ "java/lang/invoke/VarHandle" ∧ (parseMethodDescriptor μ.1.desc).map (fun d => d.parameters.length) = some n) ∧ μ.2.2.1 ≤ 40
theorem lj_104 : LJ "LetterHeaps$LawReader" 104 M_JString_indexOf 1 := ⟨⟨tb_mem (i := 794) (by decide +kernel) rfl, tb_mem (i := 795) (by decide +kernel) rfl, tb_mem (i := 796) (by decide +kernel) rfl, tb_mem (i := 146) (by decide +kernel) rfl, tb_mem (i := 797) (by decide +kernel) rfl⟩, ⟨by decide, by decide, by decide +kernel⟩, by decide⟩
theorem lj_633 : LJ "java/lang/String" 633 M_JString_indexOf_1 2 := ⟨⟨tb_mem (i := 798) (by decide +kernel) rfl, tb_mem (i := 799) (by decide +kernel) rfl, tb_mem (i := 800) (by decide +kernel) rfl, tb_mem (i := 146) (by decide +kernel) rfl, tb_mem (i := 801) (by decide +kernel) rfl⟩, ⟨by decide, by decide, by decide +kernel⟩, by decide⟩
theorem lj_492 : LJ "java/lang/String" 492 M_JString_isLatin1 0 := ⟨⟨tb_mem (i := 802) (by decide +kernel) rfl, tb_mem (i := 803) (by decide +kernel) rfl, tb_mem (i := 804) (by decide +kernel) rfl, tb_mem (i := 146) (by decide +kernel) rfl, tb_mem (i := 805) (by decide +kernel) rfl⟩, ⟨by decide, by decide, by decide +kernel⟩, by decide⟩
theorem lj_505 : LJ "java/lang/String" 505 M_JString_length 0 := ⟨⟨tb_mem (i := 808) (by decide +kernel) rfl, tb_mem (i := 809) (by decide +kernel) rfl, tb_mem (i := 810) (by decide +kernel) rfl, tb_mem (i := 146) (by decide +kernel) rfl, tb_mem (i := 811) (by decide +kernel) rfl⟩, ⟨by decide, by decide, by decide +kernel⟩, by decide⟩
theorem lj_335 : LJ "java/lang/String" 335 M_JString_coder 0 := ⟨⟨tb_mem (i := 812) (by decide +kernel) rfl, tb_mem (i := 813) (by decide +kernel) rfl, tb_mem (i := 814) (by decide +kernel) rfl, tb_mem (i := 146) (by decide +kernel) rfl, tb_mem (i := 815) (by decide +kernel) rfl⟩, ⟨by decide, by decide, by decide +kernel⟩, by decide⟩
theorem lj_637 : LSt "java/lang/String" 637 M_JLatin1_indexOf 4 := ⟨⟨tb_mem (i := 816) (by decide +kernel) rfl, tb_mem (i := 817) (by decide +kernel) rfl, tb_mem (i := 147) (by decide +kernel) rfl, tb_mem (i := 818) (by decide +kernel) rfl⟩, ⟨by decide, by decide, by decide +kernel⟩, by decide⟩
theorem lj_88 : LSt "java/lang/StringLatin1" 88 M_JLatin1_canEncode 1 := ⟨⟨tb_mem (i := 819) (by decide +kernel) rfl, tb_mem (i := 820) (by decide +kernel) rfl, tb_mem (i := 147) (by decide +kernel) rfl, tb_mem (i := 821) (by decide +kernel) rfl⟩, ⟨by decide, by decide, by decide +kernel⟩, by decide⟩
theorem lj_95 : LSt "java/lang/StringLatin1" 95 M_JLatin1_indexOfChar 4 := ⟨⟨tb_mem (i := 826) (by decide +kernel) rfl, tb_mem (i := 827) (by decide +kernel) rfl, tb_mem (i := 147) (by decide +kernel) rfl, tb_mem (i := 828) (by decide +kernel) rfl⟩, ⟨by decide, by decide, by decide +kernel⟩, by decide⟩
theorem lf_38 : Cond.fieldLink "java/lang/String" 38 "java/lang/String" "COMPACT_STRINGS" "Z" ∈ TB := tb_mem (i := 806) (by decide +kernel) rfl
theorem lf_15 : Cond.fieldLink "java/lang/String" 15 "java/lang/String" "coder" "B" ∈ TB := tb_mem (i := 1955) (by decide +kernel) rfl
theorem lf_9 : Cond.fieldLink "java/lang/String" 9 "java/lang/String" "value" "[B" ∈ TB := tb_mem (i := 1956) (by decide +kernel) rfl
theorem lm_max : ML "java/lang/StringLatin1" 92 Lib.Math.max.name Lib.Math.max.code := ⟨tb_mem (i := 822) (by decide +kernel) rfl, tb_mem (i := 823) (by decide +kernel) rfl, tb_mem (i := 145) (by decide +kernel) rfl, tb_mem (i := 824) (by decide +kernel) rfl⟩
theorem lm_min : ML "java/lang/StringLatin1" 38 Lib.Math.min.name Lib.Math.min.code := ⟨tb_mem (i := 825) (by decide +kernel) rfl, tb_mem (i := 707) (by decide +kernel) rfl, tb_mem (i := 145) (by decide +kernel) rfl, tb_mem (i := 708) (by decide +kernel) rfl⟩
/-! the JDK's methods over the one text, by contract -/
def SQ (q v : Nat) (A : Nat → Prop) (U : State) : Prop := vk_S 1 lenT bytT (fun _ => q) (fun _ => v) A U U.heap ∧ va_Z "java/lang/String" "COMPACT_STRINGS" "Z" (.int 1) A U U.heap
theorem SQ.to {q v : Nat} {A B : Nat → Prop} {s U : State} {H : Heap} {locs : List Loc} (h : SQ q v A s) (hS : va_S A s.heap H locs) (hB : ∀ q, B q → A q) (hU : U.heap = H) (hW : s.WarmedH U.vm) : SQ q v B U := by
  obtain ⟨h2, h3⟩ := h
  exact ⟨by rw [hU]; exact ((h2.moved hW.alike).kept hS.2.1).narrow hB, by rw [hU]; exact ((h3.moved hW.alike).kept hS.2.1).narrow hB⟩
theorem SQ.calling {q v : Nat} {A : Nat → Prop} {U : State} {g : JFrame} {mk : MethodId} {a : Array Value} (h : SQ q v A U) : SQ q v A (U.calling g mk a) := ⟨vk_S.moved (Vm.Alike.refl U.vm) h.1, va_Z.moved (Vm.Alike.refl U.vm) h.2⟩
def JW (A : Nat → Prop) (q v : Nat) (p : Program) (s : State) (m : MethodId) (args : Array Value) (meth : Method) (c : Code) (μ : Mi) : Prop := p.tables.exec = Jvm.exec ∧ c.code = μ.2.1 ∧ c.maxLocals = μ.2.2.1 ∧ meth.sig.returnType = μ.2.2.2 ∧ meth.locks = false ∧ s.vm.findClass μ.1.cls = some m.cls ∧ (∀ w ∈ TB, w.before args s = true) ∧ SQ q v A s ∧ ∀ x, s.heap.size ≤ x → A x
abbrev Z0 : Nat → Nat → Prop := fun sz => va_A [] sz
def JMet (l : Launch) (k : Nat) (μ : Mi) (as : List Value) (q v : Nat) (K : Int32 → Prop) : Prop := ∀ sz, Met l μ.1 (wsY μ) (rmA k) (va_Pc as (fun U => U.heap.size = sz ∧ SQ q v (va_A [] sz) U)) (va_Qi (S := Unit) (fun r _ => K r) (fun _ _ => True) (va_A [] sz)) 0 0 (va_A [] sz)
theorem JMet.of {l : Launch} {d : Nat} {μ : Mi} {as : List Value} {q v : Nat} {K : Int32 → Prop} (hy : plainName μ.1.cls = true) (hle : (lg_sl as).length ≤ μ.2.2.1)
    (k : ∀ (p : Program) (e : Env) (s : State) (m : MethodId) (below : List Frame) (meth : Method) (c : Code) (ls : Array Slot) (A : Nat → Prop), JW A q v p s m as.toArray meth c μ → va_S A s.heap s.heap [] → lv_has ls μ.2.2.1 (lv_args 0 as) → W p l e (rmA d) s m as.toArray below meth c s.heap [] 0 0 (MQ below (va_Qi (S := Unit) (fun r _ => K r) (fun _ _ => True) A) as.toArray s 0 0 A) (F0 m 0 ls [])) : JMet l d μ as q v K := by
  intro sz
  refine Met.ofW (cc := μ.2.1) (maxL := μ.2.2.1) (ret := μ.2.2.2) hy rfl ?_
  intro p e s m args below meth c s₁ B hml hv
  obtain ⟨rfl, hsz, hS⟩ := hv
  have hts := atoms_spec (ws := wsY μ) B.pre
  subst hsz
  have hl := lv_entry as (n := μ.2.2.1) hle
  rw [lg_entry_eq]
  exact k p e s m below meth c _ (va_A [] s.heap.size) ⟨B.exec, B.bytes, hml, B.returns, B.notSynchronized, findClass_of_methodNamed B.named, fun w hw => hts w (List.mem_cons_of_mem _ hw), hS, fun x hx => Or.inr hx⟩ va_S.rf hl
theorem lj_good {own : String} {idx n : Nat} {μ : Mi} (lk : LJ own idx μ n) : GoodIn TB (wsV own idx μ.1.cls μ.1 (wsY μ)) := by
  obtain ⟨⟨h1, h2, h3, h4, h5⟩, -⟩ := lk
  intro w hw
  unfold wsV wsY at hw
  simp only [List.mem_append, List.mem_cons, List.not_mem_nil, or_false] at hw
  rcases hw with (rfl | rfl | rfl | rfl) | rfl | hw
  · exact tb_good h1
  · exact tb_good h2
  · exact tb_good h3
  · exact tb_good h4
  · exact tb_good h5
  · exact tb_good hw
theorem FB_J {as : List Value} {sz q v : Nat} {A : Nat → Prop} : FrameBlind (va_Pc as (fun U => U.heap.size = sz ∧ SQ q v A U)) := by
  intro a U g mk z
  exact ⟨z.1, z.2.1, z.2.2.calling⟩
theorem j_new {A : Nat → Prop} {H0 H : Heap} {locs : List Loc} (hS : va_S A H0 H locs) (hA : ∀ x, H0.size ≤ x → A x) : ∀ x, va_A [] H.size x → A x := by
  intro x hx
  rcases hx with ⟨k, e, z⟩ | z
  · simp at z
  · exact hA x (Nat.le_trans hS.1 z)
section JCALL
variable {l : Launch} {p : Program} {e : Env} {s : State} {m : MethodId} {args : Array Value} {below : List Frame} {meth : Method} {c : Code} {H : Heap} {locs : List Loc} {ls : Array Slot} {A : Nat → Prop} {q v : Nat} {μ μ' : Mi} {R : Room} {cells slots : Nat} {Q : State → Prop} {pc d n idx : Nat} {rest As stk : List Value} {K : Int32 → Prop}
theorem j_callV (hx : p.tables.exec = Jvm.exec) (hb : c.code = μ.2.1) (hml : c.maxLocals = μ.2.2.1) (hown : s.vm.findClass μ.1.cls = some m.cls) (hts : ∀ w ∈ TB, w.before args s = true) (hSQ : SQ q v A s) (hA : ∀ x, s.heap.size ≤ x → A x) (hS : va_S A s.heap H locs) (hc : cells ≤ R.cells) (hsl : slots ≤ R.slots) (lk : LJ μ.1.cls idx μ' n) (hcl : μ'.1.cls = "java/lang/String") (hM : JMet l d μ' (.ref q :: As) q v K) (hn : As.length = n) (hls : ls.size = μ.2.2.1) (hR : (rmA d).frames + 1 ≤ R.frames ∧ 8 + (μ'.2.2.1 + 11) + (rmA d).locals ≤ R.locals) (hstk : stk = As.reverse ++ .ref q :: rest) (hroom : (rest.map fun v => v.category).sum ≤ 8) (hd : decode μ.2.1 pc = .ok (.invokevirtual idx, 3))
    (kk : ∀ (r : Int32) (H1 : Heap) (locs1 : List Loc), va_S A s.heap H1 locs1 → (∀ x, x < H.size → H1[x]? = H[x]?) → K r → W p l e R s m args below meth c H1 locs1 cells slots Q (F0 m (pc + 3) ls (.int r :: rest))) : W p l e R s m args below meth c H locs cells slots Q (F0 m pc ls stk) := by
  subst hstk
  have lk2 := lk
  obtain ⟨-, ⟨hm1, hm2, hm3⟩, hmL⟩ := lk2
  have hr := vk_recv (i := 0) hSQ.1 (by decide) hS
  rw [← hcl] at hr
  have hrun := va_runV (p := p) (e := e) (below := below) (meth := meth) (locs := locs) (cells := cells) (slots := slots) (g := F0 m pc ls (As.reverse ++ .ref q :: rest)) (R := R) (As := As) (rest := rest) (b := q) (C := μ'.1.cls) (n := n) ⟨hx, hb, hml, hown, hts⟩ (hM H.size) (cwV n hts (lj_good lk) rfl rfl rfl ⟨rfl, hm1, hm2, hm3⟩ hR)
    ⟨FB_J, hr, fun U hU hW => ⟨rfl, by rw [hU], hSQ.to hS (j_new hS hA) hU hW⟩⟩ rfl hn hls rfl (lv_room hroom) hd ⟨hc, hsl⟩
  exact va_calli (S := Unit) hrun hS (fun x _ z => j_new hS hA x z) (j_new hS hA) (fun r _ t H1 locs1 ht hvm hw hb hz1 hk1 hS1 => kk r H1 locs1 hS1 (fun x hx => hk1 x hx (fun z => by
    rcases z with ⟨k, e, z⟩ | z
    · simp at z
    · omega)) hw)
theorem j_callS (hx : p.tables.exec = Jvm.exec) (hb : c.code = μ.2.1) (hml : c.maxLocals = μ.2.2.1) (hown : s.vm.findClass μ.1.cls = some m.cls) (hts : ∀ w ∈ TB, w.before args s = true) (hSQ : SQ q v A s) (hA : ∀ x, s.heap.size ≤ x → A x) (hS : va_S A s.heap H locs) (hc : cells ≤ R.cells) (hsl : slots ≤ R.slots) (lk : LSt μ.1.cls idx μ' n) (hM : JMet l d μ' As q v K) (hn : As.length = n) (hls : ls.size = μ.2.2.1) (hR : (rmA d).frames + 1 ≤ R.frames ∧ 8 + (μ'.2.2.1 + 11) + (rmA d).locals ≤ R.locals) (hstk : stk = As.reverse ++ rest) (hroom : (rest.map fun v => v.category).sum ≤ 8) (hd : decode μ.2.1 pc = .ok (.invokestatic idx, 3))
    (kk : ∀ (r : Int32) (H1 : Heap) (locs1 : List Loc), va_S A s.heap H1 locs1 → (∀ x, x < H.size → H1[x]? = H[x]?) → K r → W p l e R s m args below meth c H1 locs1 cells slots Q (F0 m (pc + 3) ls (.int r :: rest))) : W p l e R s m args below meth c H locs cells slots Q (F0 m pc ls stk) := by
  subst hstk
  have lk2 := lk
  obtain ⟨-, ⟨hm1, hm2, hm3⟩, hmL⟩ := lk2
  have hrun := va_runS (p := p) (e := e) (below := below) (meth := meth) (locs := locs) (cells := cells) (slots := slots) (g := F0 m pc ls (As.reverse ++ rest)) (R := R) (As := As) (rest := rest) (n := n) ⟨hx, hb, hml, hown, hts⟩ (hM H.size) (va_cwS n hts (lst_good lk) rfl rfl rfl ⟨hm1, hm2, hm3⟩ hR)
    ⟨FB_J, fun U hU hW => ⟨rfl, by rw [hU], hSQ.to hS (j_new hS hA) hU hW⟩⟩ rfl hn hls rfl (lv_room hroom) hd ⟨hc, hsl⟩
  exact va_calli (S := Unit) hrun hS (fun x _ z => j_new hS hA x z) (j_new hS hA) (fun r _ t H1 locs1 ht hvm hw hb hz1 hk1 hS1 => kk r H1 locs1 hS1 (fun x hx => hk1 x hx (fun z => by
    rcases z with ⟨k, e, z⟩ | z
    · simp at z
    · omega)) hw)
end JCALL
section JDK1
variable {l : Launch} {q v : Nat}
theorem j_coder : JMet l 0 M_JString_coder [.ref q] q v (fun r => r = 0) := by
  refine JMet.of (by decide) (Nat.le_of_ble_eq_true rfl) ?_
  intro p e s m below meth c ls A J hS hl
  obtain ⟨hx, hb, hml, hr, hlocks, hown, hts, hQ, hA⟩ := J
  have hl : lv_has ls 1 [(0, .ref q)] := hl
  refine va_gets hx hb hQ.2 hS hown (hts _ lf_38) (fun _ h => h) dJ0_coder_7d493_0 ?_
  refine lv_if_eq (tgt := 13) hx hb dJ0_coder_7d493_3 (by decide) (fun z => absurd z (by decide)) (fun _ => ?_)
  refine lv_aload_n hx hb dJ0_coder_7d493_6 rfl (lv_at hl 0 rfl) ?_
  refine vk_getf hx hb (hQ.1.1 0 (by decide)).2.1 hS hown (hts _ lf_15) (fun _ h => h) dJ0_coder_7d493_7 ?_
  refine lv_goto (tgt := 14) hx hb dJ0_coder_7d493_10 (by decide) ?_
  exact W.zret (v := 0) hx hb hr rfl (fun t ht hW => ⟨⟨0, (), rfl, rfl, trivial⟩, hS.F ht⟩) hS.2.2 dJ0_coder_7d493_14
theorem j_latin : JMet l 0 M_JString_isLatin1 [.ref q] q v (fun r => r = 1) := by
  refine JMet.of (by decide) (Nat.le_of_ble_eq_true rfl) ?_
  intro p e s m below meth c ls A J hS hl
  obtain ⟨hx, hb, hml, hr, hlocks, hown, hts, hQ, hA⟩ := J
  have hl : lv_has ls 1 [(0, .ref q)] := hl
  refine va_gets hx hb hQ.2 hS hown (hts _ lf_38) (fun _ h => h) dJ0_isLatin1_aae02_0 ?_
  refine lv_if_eq (tgt := 17) hx hb dJ0_isLatin1_aae02_3 (by decide) (fun z => absurd z (by decide)) (fun _ => ?_)
  refine lv_aload_n hx hb dJ0_isLatin1_aae02_6 rfl (lv_at hl 0 rfl) ?_
  refine vk_getf hx hb (hQ.1.1 0 (by decide)).2.1 hS hown (hts _ lf_15) (fun _ h => h) dJ0_isLatin1_aae02_7 ?_
  refine lv_if_ne (tgt := 17) hx hb dJ0_isLatin1_aae02_10 (by decide) (fun z => absurd rfl z) (fun _ => ?_)
  refine lv_iconst (v := 1) hx hb dJ0_isLatin1_aae02_13 rfl ?_
  refine lv_goto (tgt := 18) hx hb dJ0_isLatin1_aae02_14 (by decide) ?_
  exact W.zret (v := 1) hx hb hr rfl (fun t ht hW => ⟨⟨1, (), rfl, rfl, trivial⟩, hS.F ht⟩) hS.2.2 dJ0_isLatin1_aae02_18
theorem j_length : JMet l 1 M_JString_length [.ref q] q v (fun r => r = 9) := by
  refine JMet.of (by decide) (Nat.le_of_ble_eq_true rfl) ?_
  intro p e s m below meth c ls A J hS hl
  obtain ⟨hx, hb, hml, hr, hlocks, hown, hts, hQ, hA⟩ := J
  have hl : lv_has ls 1 [(0, .ref q)] := hl
  refine lv_aload_n hx hb dJ0_length_8abf5_0 rfl (lv_at hl 0 rfl) ?_
  refine vk_getf hx hb (hQ.1.1 0 (by decide)).2.2.1 hS hown (hts _ lf_9) (fun _ h => h) dJ0_length_8abf5_1 ?_
  refine va_tlen (v := 9) hx hb (hQ.1.1 0 (by decide)).2.2.2 hS rfl dJ0_length_8abf5_4 ?_
  refine lv_aload_n hx hb dJ0_length_8abf5_5 rfl (lv_at hl 0 rfl) ?_
  refine j_callV (μ := M_JString_length) (As := []) (rest := [.int 9]) hx hb hml hown hts hQ hA hS (Nat.le_refl 0) (Nat.le_refl 0) lj_335 rfl j_coder rfl hl.1 ⟨Nat.le_of_ble_eq_true rfl, Nat.le_of_ble_eq_true rfl⟩ rfl (Nat.le_of_ble_eq_true rfl) dJ0_length_8abf5_6 (fun r H1 locs1 hS1 _ er => ?_)
  subst er
  refine lv_ishr hx hb dJ0_length_8abf5_9 (lv_topi (fun y hy => ?_))
  have hy : y = 9 := hy.trans (by decide)
  subst hy
  exact W.iret (v := 9) hx hb hr (fun t ht hW => ⟨⟨9, (), rfl, rfl, trivial⟩, hS1.F ht⟩) hS1.2.2 dJ0_length_8abf5_10
theorem j_can {x : Int32} (x0 : ¬ x < 0) (x1 : ¬ 255 < x) : JMet l 0 M_JLatin1_canEncode [.int x] q v (fun r => r = 1) := by
  refine JMet.of (by decide) (Nat.le_of_ble_eq_true rfl) ?_
  intro p e s m below meth c ls A J hS hl
  obtain ⟨hx, hb, hml, hr, hlocks, hown, hts, hQ, hA⟩ := J
  have hl : lv_has ls 1 [(0, .int x)] := hl
  refine lv_iload_n hx hb dJ1_canEncode_9a6ad_0 rfl (lv_at hl 0 rfl) ?_
  refine lv_if_lt (tgt := 15) hx hb dJ1_canEncode_9a6ad_1 (by decide) (fun z => absurd z x0) (fun _ => ?_)
  refine lv_iload_n hx hb dJ1_canEncode_9a6ad_4 rfl (lv_at hl 0 rfl) ?_
  refine lv_sipush (v := 255) hx hb dJ1_canEncode_9a6ad_5 rfl ?_
  refine lv_icmp_gt (tgt := 15) hx hb dJ1_canEncode_9a6ad_8 (by decide) (fun z => absurd z x1) (fun _ => ?_)
  refine lv_iconst (v := 1) hx hb dJ1_canEncode_9a6ad_11 rfl ?_
  refine lv_goto (tgt := 16) hx hb dJ1_canEncode_9a6ad_12 (by decide) ?_
  exact W.zret (v := 1) hx hb hr rfl (fun t ht hW => ⟨⟨1, (), rfl, rfl, trivial⟩, hS.F ht⟩) hS.2.2 dJ1_canEncode_9a6ad_16
/-- what the loop finds with k letters left -/
def ixG (x : Int32) : Nat → Int32
  | 0 => -1
  | k + 1 => if (bytT.getD 0 []).getD (8 - k) 0 = x then Int32.ofNat (8 - k) else ixG x k
theorem ix_le : ∀ k : Fin 9, ¬ ((9 : Int32) ≤ Int32.ofNat (8 - k.val)) := by decide
theorem ix_in : ∀ k : Fin 9, ¬ (Int32.ofNat (8 - k.val) < 0 ∨ 9 ≤ (Int32.ofNat (8 - k.val)).toNatClampNeg) := by decide
theorem ix_at : ∀ k : Fin 9, (Int32.ofNat (8 - k.val)).toNatClampNeg = 8 - k.val := by decide
theorem ix_on : ∀ k : Fin 9, Int32.ofNat (8 - k.val) + Int32.ofInt 1 = Int32.ofNat (9 - k.val) := by decide
theorem j_char {x : Int32} (x8 : x.toInt8.toInt32 = x) : JMet l 0 M_JLatin1_indexOfChar [.ref v, .int x, .int 0, .int 9] q v (fun r => r = ixG x 9) := by
  refine JMet.of (by decide) (Nat.le_of_ble_eq_true rfl) ?_
  intro p e s m below meth c ls A J hS hl
  obtain ⟨hx, hb, hml, hr, hlocks, hown, hts, hQ, hA⟩ := J
  have hl : lv_has ls 6 [(0, .ref v), (1, .int x), (2, .int 0), (3, .int 9)] := hl
  have loop : ∀ (k : Nat) (ls : Array Slot), k ≤ 9 → lv_has ls 6 [(5, .int (Int32.ofNat (9 - k))), (4, .int x), (0, .ref v), (1, .int x), (2, .int 0), (3, .int 9)] → ixG x k = ixG x 9 → W p l e (rmA 0) s m ([.ref v, .int x, .int 0, .int 9] : List Value).toArray below meth c s.heap [] 0 0 (MQ below (va_Qi (S := Unit) (fun r _ => r = ixG x 9) (fun _ _ => True) A) ([.ref v, .int x, .int 0, .int 9] : List Value).toArray s 0 0 A) (F0 m 7 ls []) := by
    intro k
    induction k with
    | zero =>
      intro ls _ hl e9
      refine lv_iload hx hb dJ1_indexOfChar_4cfef_7 (lv_at hl 0 rfl) ?_
      refine lv_iload_n hx hb dJ1_indexOfChar_4cfef_9 rfl (lv_at hl 5 rfl) ?_
      refine lv_icmp_ge (tgt := 31) hx hb dJ1_indexOfChar_4cfef_10 (by decide) (fun _ => ?_) (fun z => absurd (by decide) z)
      refine lv_iconst (v := -1) hx hb dJ1_indexOfChar_4cfef_31 rfl ?_
      exact W.iret (v := -1) hx hb hr (fun t ht hW => ⟨⟨-1, (), rfl, e9, trivial⟩, hS.F ht⟩) hS.2.2 dJ1_indexOfChar_4cfef_32
    | succ k ih =>
      intro ls hk hl e9
      rw [show 9 - (k + 1) = 8 - k by omega] at hl
      refine lv_iload hx hb dJ1_indexOfChar_4cfef_7 (lv_at hl 0 rfl) ?_
      refine lv_iload_n hx hb dJ1_indexOfChar_4cfef_9 rfl (lv_at hl 5 rfl) ?_
      refine lv_icmp_ge (tgt := 31) hx hb dJ1_indexOfChar_4cfef_10 (by decide) (fun z => absurd z (ix_le ⟨k, by omega⟩)) (fun _ => ?_)
      refine lv_aload_n hx hb dJ1_indexOfChar_4cfef_13 rfl (lv_at hl 2 rfl) ?_
      refine lv_iload hx hb dJ1_indexOfChar_4cfef_14 (lv_at hl 0 rfl) ?_
      refine va_tb (v := .int ((bytT.getD 0 []).getD (8 - k) 0)) hx hb (hQ.1.1 0 (by decide)).2.2.2 hS (ix_in ⟨k, by omega⟩) (by rw [ix_at ⟨k, by omega⟩]) dJ1_indexOfChar_4cfef_16 ?_
      refine lv_iload hx hb dJ1_indexOfChar_4cfef_17 (lv_at hl 1 rfl) ?_
      refine lv_icmp_ne (tgt := 25) hx hb dJ1_indexOfChar_4cfef_19 (by decide) (fun z => ?_) (fun z => ?_)
      · refine lv_iinc (k := 0) (v := Int32.ofNat (9 - k)) hx hb dJ1_indexOfChar_4cfef_25 hl rfl (ix_on ⟨k, by omega⟩) (by decide) rfl (fun ls' hl' => ?_)
        refine lv_goto (tgt := 7) hx hb dJ1_indexOfChar_4cfef_28 (by decide) ?_
        refine ih ls' (by omega) hl' ?_
        rw [← e9]
        show _ = (if _ then _ else _)
        rw [if_neg z]
      · refine lv_iload hx hb dJ1_indexOfChar_4cfef_22 (lv_at hl 0 rfl) ?_
        refine W.iret hx hb hr (fun t ht hW => ⟨⟨_, (), rfl, ?_, trivial⟩, hS.F ht⟩) hS.2.2 dJ1_indexOfChar_4cfef_24
        rw [← e9]
        show _ = (if _ then _ else _)
        rw [if_pos z]
  refine lv_iload_n hx hb dJ1_indexOfChar_4cfef_0 rfl (lv_at hl 1 rfl) ?_
  refine lv_i2b (v := x) hx hb dJ1_indexOfChar_4cfef_1 x8 ?_
  refine lv_istore hx hb dJ1_indexOfChar_4cfef_2 hl (by decide) rfl (fun ls1 hl1 => ?_)
  have hl1 : lv_has ls1 6 [(4, .int x), (0, .ref v), (1, .int x), (2, .int 0), (3, .int 9)] := hl1
  refine lv_iload_n hx hb dJ1_indexOfChar_4cfef_4 rfl (lv_at hl1 3 rfl) ?_
  refine lv_istore hx hb dJ1_indexOfChar_4cfef_5 hl1 (by decide) rfl (fun ls2 hl2 => ?_)
  exact loop 9 ls2 (Nat.le_refl 9) hl2 rfl
theorem j_lindex {x : Int32} (x8 : x.toInt8.toInt32 = x) (x0 : ¬ x < 0) (x1 : ¬ 255 < x) : JMet l 1 M_JLatin1_indexOf [.ref v, .int x, .int 0, .int 9] q v (fun r => r = ixG x 9) := by
  refine JMet.of (by decide) (Nat.le_of_ble_eq_true rfl) ?_
  intro p e s m below meth c ls A J hS hl
  obtain ⟨hx, hb, hml, hr, hlocks, hown, hts, hQ, hA⟩ := J
  have hl : lv_has ls 4 [(0, .ref v), (1, .int x), (2, .int 0), (3, .int 9)] := hl
  refine lv_iload_n hx hb dJ1_indexOf_4cfef_0 rfl (lv_at hl 1 rfl) ?_
  refine j_callS (μ := M_JLatin1_indexOf) (As := [.int x]) (rest := []) hx hb hml hown hts hQ hA hS (Nat.le_refl 0) (Nat.le_refl 0) lj_88 (j_can x0 x1) rfl hl.1 ⟨Nat.le_of_ble_eq_true rfl, Nat.le_of_ble_eq_true rfl⟩ rfl (Nat.le_of_ble_eq_true rfl) dJ1_indexOf_4cfef_1 (fun r H1 locs1 hS1 _ er => ?_)
  subst er
  refine lv_if_ne (tgt := 9) hx hb dJ1_indexOf_4cfef_4 (by decide) (fun _ => ?_) (fun z => absurd z (by decide))
  refine lv_iload_n hx hb dJ1_indexOf_4cfef_9 rfl (lv_at hl 2 rfl) ?_
  refine lv_iconst (v := 0) hx hb dJ1_indexOf_4cfef_10 rfl ?_
  refine va_mmax hx hb (hml.trans hl.1.symm) hown (hts _ lm_max.1) (hts _ lm_max.2.1) (hts _ lm_max.2.2.1) (hts _ lm_max.2.2.2) (Nat.le_of_ble_eq_true rfl) (Nat.le_of_ble_eq_true rfl) (Nat.zero_le _) (Nat.zero_le _) dJ1_indexOf_4cfef_11 (lv_topi (fun y hy => ?_))
  have hy : y = 0 := hy.trans (by decide)
  subst hy
  refine lv_istore_n hx hb dJ1_indexOf_4cfef_14 rfl hl (by decide) rfl (fun ls1 hl1 => ?_)
  have hl1 : lv_has ls1 4 [(2, .int 0), (0, .ref v), (1, .int x), (3, .int 9)] := hl1
  refine lv_iload_n hx hb dJ1_indexOf_4cfef_15 rfl (lv_at hl1 3 rfl) ?_
  refine lv_aload_n hx hb dJ1_indexOf_4cfef_16 rfl (lv_at hl1 1 rfl) ?_
  refine va_tlen (v := 9) hx hb (hQ.1.1 0 (by decide)).2.2.2 hS1 rfl dJ1_indexOf_4cfef_17 ?_
  refine va_mmin hx hb (hml.trans hl1.1.symm) hown (hts _ lm_min.1) (hts _ lm_min.2.1) (hts _ lm_min.2.2.1) (hts _ lm_min.2.2.2) (Nat.le_of_ble_eq_true rfl) (Nat.le_of_ble_eq_true rfl) (Nat.zero_le _) (Nat.zero_le _) dJ1_indexOf_4cfef_18 (lv_topi (fun y hy => ?_))
  have hy : y = 9 := hy.trans (by decide)
  subst hy
  refine lv_istore_n hx hb dJ1_indexOf_4cfef_21 rfl hl1 (by decide) rfl (fun ls2 hl2 => ?_)
  have hl2 : lv_has ls2 4 [(3, .int 9), (2, .int 0), (0, .ref v), (1, .int x)] := hl2
  refine lv_iload_n hx hb dJ1_indexOf_4cfef_22 rfl (lv_at hl2 1 rfl) ?_
  refine lv_iload_n hx hb dJ1_indexOf_4cfef_23 rfl (lv_at hl2 0 rfl) ?_
  refine lv_icmp_lt (tgt := 29) hx hb dJ1_indexOf_4cfef_24 (by decide) (fun _ => ?_) (fun z => absurd (by decide) z)
  refine lv_aload_n hx hb dJ1_indexOf_4cfef_29 rfl (lv_at hl2 2 rfl) ?_
  refine lv_iload_n hx hb dJ1_indexOf_4cfef_30 rfl (lv_at hl2 3 rfl) ?_
  refine lv_iload_n hx hb dJ1_indexOf_4cfef_31 rfl (lv_at hl2 1 rfl) ?_
  refine lv_iload_n hx hb dJ1_indexOf_4cfef_32 rfl (lv_at hl2 0 rfl) ?_
  refine j_callS (μ := M_JLatin1_indexOf) (As := [.ref v, .int x, .int 0, .int 9]) (rest := []) hx hb hml hown hts hQ hA hS1 (Nat.le_refl 0) (Nat.le_refl 0) lj_95 (j_char x8) rfl hl2.1 ⟨Nat.le_of_ble_eq_true rfl, Nat.le_of_ble_eq_true rfl⟩ rfl (Nat.le_of_ble_eq_true rfl) dJ1_indexOf_4cfef_33 (fun r H2 locs2 hS2 _ er => ?_)
  exact W.iret hx hb hr (fun t ht hW => ⟨⟨r, (), rfl, er, trivial⟩, hS2.F ht⟩) hS2.2.2 dJ1_indexOf_4cfef_36
theorem j_index2 {x : Int32} (x8 : x.toInt8.toInt32 = x) (x0 : ¬ x < 0) (x1 : ¬ 255 < x) : JMet l 2 M_JString_indexOf_1 [.ref q, .int x, .int 0] q v (fun r => r = ixG x 9) := by
  refine JMet.of (by decide) (Nat.le_of_ble_eq_true rfl) ?_
  intro p e s m below meth c ls A J hS hl
  obtain ⟨hx, hb, hml, hr, hlocks, hown, hts, hQ, hA⟩ := J
  have hl : lv_has ls 3 [(0, .ref q), (1, .int x), (2, .int 0)] := hl
  refine lv_aload_n hx hb dJ0_indexOf_7cf53_0 rfl (lv_at hl 0 rfl) ?_
  refine j_callV (μ := M_JString_indexOf_1) (As := []) (rest := []) hx hb hml hown hts hQ hA hS (Nat.le_refl 0) (Nat.le_refl 0) lj_492 rfl j_latin rfl hl.1 ⟨Nat.le_of_ble_eq_true rfl, Nat.le_of_ble_eq_true rfl⟩ rfl (Nat.le_of_ble_eq_true rfl) dJ0_indexOf_7cf53_1 (fun r H1 locs1 hS1 _ er => ?_)
  subst er
  refine lv_if_eq (tgt := 23) hx hb dJ0_indexOf_7cf53_4 (by decide) (fun z => absurd z (by decide)) (fun _ => ?_)
  refine lv_aload_n hx hb dJ0_indexOf_7cf53_7 rfl (lv_at hl 0 rfl) ?_
  refine vk_getf hx hb (hQ.1.1 0 (by decide)).2.2.1 hS1 hown (hts _ lf_9) (fun _ h => h) dJ0_indexOf_7cf53_8 ?_
  refine lv_iload_n hx hb dJ0_indexOf_7cf53_11 rfl (lv_at hl 1 rfl) ?_
  refine lv_iload_n hx hb dJ0_indexOf_7cf53_12 rfl (lv_at hl 2 rfl) ?_
  refine lv_aload_n hx hb dJ0_indexOf_7cf53_13 rfl (lv_at hl 0 rfl) ?_
  refine j_callV (μ := M_JString_indexOf_1) (As := []) (rest := [.int 0, .int x, .ref v]) hx hb hml hown hts hQ hA hS1 (Nat.le_refl 0) (Nat.le_refl 0) lj_505 rfl j_length rfl hl.1 ⟨Nat.le_of_ble_eq_true rfl, Nat.le_of_ble_eq_true rfl⟩ rfl (Nat.le_of_ble_eq_true rfl) dJ0_indexOf_7cf53_14 (fun r H2 locs2 hS2 _ er => ?_)
  subst er
  refine j_callS (μ := M_JString_indexOf_1) (As := [.ref v, .int x, .int 0, .int 9]) (rest := []) hx hb hml hown hts hQ hA hS2 (Nat.le_refl 0) (Nat.le_refl 0) lj_637 (j_lindex x8 x0 x1) rfl hl.1 ⟨Nat.le_of_ble_eq_true rfl, Nat.le_of_ble_eq_true rfl⟩ rfl (Nat.le_of_ble_eq_true rfl) dJ0_indexOf_7cf53_17 (fun r H3 locs3 hS3 _ er => ?_)
  refine lv_goto (tgt := 36) hx hb dJ0_indexOf_7cf53_20 (by decide) ?_
  exact W.iret hx hb hr (fun t ht hW => ⟨⟨r, (), rfl, er, trivial⟩, hS3.F ht⟩) hS3.2.2 dJ0_indexOf_7cf53_36
theorem j_index {x : Int32} (x8 : x.toInt8.toInt32 = x) (x0 : ¬ x < 0) (x1 : ¬ 255 < x) : JMet l 3 M_JString_indexOf [.ref q, .int x] q v (fun r => r = ixG x 9) := by
  refine JMet.of (by decide) (Nat.le_of_ble_eq_true rfl) ?_
  intro p e s m below meth c ls A J hS hl
  obtain ⟨hx, hb, hml, hr, hlocks, hown, hts, hQ, hA⟩ := J
  have hl : lv_has ls 2 [(0, .ref q), (1, .int x)] := hl
  refine lv_aload_n hx hb dJ0_indexOf_0f7a4_0 rfl (lv_at hl 0 rfl) ?_
  refine lv_iload_n hx hb dJ0_indexOf_0f7a4_1 rfl (lv_at hl 1 rfl) ?_
  refine lv_iconst (v := 0) hx hb dJ0_indexOf_0f7a4_2 rfl ?_
  refine j_callV (μ := M_JString_indexOf) (As := [.int x, .int 0]) (rest := []) hx hb hml hown hts hQ hA hS (Nat.le_refl 0) (Nat.le_refl 0) lj_633 rfl (j_index2 x8 x0 x1) rfl hl.1 ⟨Nat.le_of_ble_eq_true rfl, Nat.le_of_ble_eq_true rfl⟩ rfl (Nat.le_of_ble_eq_true rfl) dJ0_indexOf_0f7a4_3 (fun r H1 locs1 hS1 _ er => ?_)
  exact W.iret hx hb hr (fun t ht hW => ⟨⟨r, (), rfl, er, trivial⟩, hS1.F ht⟩) hS1.2.2 dJ0_indexOf_0f7a4_6
end JDK1
theorem ix_name : ∀ t : Fin 26, (Int32.ofInt ((97 + t.val : Nat) : Int)).toInt8.toInt32 = Int32.ofInt ((97 + t.val : Nat) : Int) ∧ ¬ Int32.ofInt ((97 + t.val : Nat) : Int) < 0 ∧ ¬ 255 < Int32.ofInt ((97 + t.val : Nat) : Int) ∧ ((Int32.ofInt ((97 + t.val : Nat) : Int)).toUInt32 % 65536).toInt32 = Int32.ofInt ((97 + t.val : Nat) : Int) ∧ ixG (Int32.ofInt ((97 + t.val : Nat) : Int)) 9 = Int32.ofInt (nameAt ((97 + t.val : Nat) : Int)) ∧ (-1 ≤ nameAt ((97 + t.val : Nat) : Int) ∧ nameAt ((97 + t.val : Nat) : Int) ≤ 8) := by decide
theorem a_strindex_72 {d : Nat} {Q : Int → AH → Prop} {ls : List (Option AV)} {st : List AV} {h : AH} {x : Int} (c : (97 ≤ x ∧ x ≤ 122) ∧ 4 ≤ d) (hl : ls[2]? = some (some (vI x))) (hst : st = []) (k : AW d M_Reader_readFactor Q 79 ls (vI (nameAt x) :: st) h) : AW d M_Reader_readFactor Q 72 ls st h := by
  subst hst
  intro p l e s m args below meth c' H locs lsC ad dC dI cA A C hs
  have C' := C
  obtain ⟨⟨hx, hb, hml, hr, hlocks, hown, hts, hK, hA, hSC⟩, ⟨hL, hOL⟩, hP, hD, hS, hO⟩ := C'
  obtain ⟨t, ht⟩ : ∃ t : Fin 26, x = ((97 + t.val : Nat) : Int) := ⟨⟨(x - 97).toNat, by omega⟩, by show x = ((97 + (x - 97).toNat : Nat) : Int); omega⟩
  obtain ⟨n1, n2, n3, n4, n5, n6⟩ := ix_name t
  rw [← ht] at n1 n2 n3 n4 n5 n6
  obtain ⟨adK, adV, s1, s2, s3⟩ := hSC
  have hQ : SQ (adK 0) (adV 0) A s := ⟨⟨fun i hi => by
    have e0 : i = 0 := by omega
    subst e0
    exact s2.1 0 (by decide), fun i j hi hj _ => by omega⟩, s3⟩
  have hls : lsC.size = 4 := hL.1
  have hl2 := hL.2.2.2 2 _ hl
  refine va_ldcS hx hb hown s1 dX1_readFactor_72 ?_
  refine lv_iload_n (x := Int32.ofInt x) hx hb dX1_readFactor_74 rfl hl2 ?_
  refine lv_i2c (v := Int32.ofInt x) hx hb dX1_readFactor_75 n4 ?_
  refine j_callV (l := l) (μ := M_Reader_readFactor) (As := [.int (Int32.ofInt x)]) (rest := []) (d := 3) hx hb hml hown hts hQ hA hS (Nat.zero_le _) (Nat.zero_le _) lj_104 rfl (j_index n1 n2 n3) rfl hL.1 ⟨c.2, by show 8 + (2 + 11) + 60 * 3 ≤ 60 * d; omega⟩ rfl (Nat.le_of_ble_eq_true rfl) dX1_readFactor_76 (fun r H1 locs1 hS1 hk1 er => ?_)
  have := k p l e s m args below meth c' H1 locs1 lsC ad dC dI cA A ⟨C.1, C.2.1, hP.kept (fun k q hq => hk1 q.1 (hP k q hq).lt), hD, hS1, hO⟩ (okS_cons (v := vI (nameAt x)) ⟨by omega, by omega⟩ (fun v hv => by cases hv))
  have er : r = Int32.ofInt (nameAt x) := er.trans n5
  rw [er]
  exact this

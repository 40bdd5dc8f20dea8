/-! the JDK's own methods -/
def bcL1 (x : Int) : Int := w64 (x - (land (lushr x 1) 6148914691236517205))
def bcL2 (x : Int) : Int := w64 ((land x 3689348814741910323) + (land (lushr x 2) 3689348814741910323))
def bcL3 (x : Int) : Int := land (w64 (x + (lushr x 4))) 1085102592571150095
def bcL4 (x : Int) : Int := w64 (x + (lushr x 8))
def bcL5 (x : Int) : Int := w64 (x + (lushr x 16))
def bcL6 (x : Int) : Int := w64 (x + (lushr x 32))
def bcL (x : Int) : Int := iand (l2i (bcL6 (bcL5 (bcL4 (bcL3 (bcL2 (bcL1 x))))))) 127
def bcI1 (x : Int) : Int := w32 (x - (iand (iushr x 1) 1431655765))
def bcI2 (x : Int) : Int := w32 ((iand x 858993459) + (iand (iushr x 2) 858993459))
def bcI3 (x : Int) : Int := iand (w32 (x + (iushr x 4))) 252645135
def bcI4 (x : Int) : Int := w32 (x + (iushr x 8))
def bcI5 (x : Int) : Int := w32 (x + (iushr x 16))
def bcI (x : Int) : Int := iand (bcI5 (bcI4 (bcI3 (bcI2 (bcI1 x))))) 63
theorem c_JLong_bitCount {d : Nat} (d0 : Nat) (hd : d0 < d) {p0 : Int} {h : AH} {Q : Int → AH → Prop} (hy : Q (bcL p0) h) : Call d M_JLong_bitCount [vL p0] h Q := by
  refine ⟨d0, hd, Big.of rfl (Nat.le_of_ble_eq_true rfl) ?_⟩
  show AW d0 M_JLong_bitCount Q 0 [some (vL p0), none] [] h
  refine a_lload_n dJ13_bitCount_95d88_0 rfl ?_
  refine a_lload_n dJ13_bitCount_95d88_1 rfl ?_
  refine a_iconst (x := 1) dJ13_bitCount_95d88_2 rfl ⟨by decide, by decide⟩ ?_
  refine a_lushr dJ13_bitCount_95d88_3 ?_
  refine a_ldc2 (x := 6148914691236517205) dJ13_bitCount_95d88_4 kc_JLong_314 ⟨by decide, by decide⟩ ?_
  refine a_land dJ13_bitCount_95d88_7 ?_
  refine a_lsubW dJ13_bitCount_95d88_8 ?_
  refine a_lstore_n (i := 0) (ls2 := [some (vL (bcL1 p0)), none]) dJ13_bitCount_95d88_9 rfl (Nat.le_of_ble_eq_true rfl) rfl ?_
  refine a_lload_n dJ13_bitCount_95d88_10 rfl ?_
  refine a_ldc2 (x := 3689348814741910323) dJ13_bitCount_95d88_11 kc_JLong_316 ⟨by decide, by decide⟩ ?_
  refine a_land dJ13_bitCount_95d88_14 ?_
  refine a_lload_n dJ13_bitCount_95d88_15 rfl ?_
  refine a_iconst (x := 2) dJ13_bitCount_95d88_16 rfl ⟨by decide, by decide⟩ ?_
  refine a_lushr dJ13_bitCount_95d88_17 ?_
  refine a_ldc2 (x := 3689348814741910323) dJ13_bitCount_95d88_18 kc_JLong_316 ⟨by decide, by decide⟩ ?_
  refine a_land dJ13_bitCount_95d88_21 ?_
  refine a_laddW dJ13_bitCount_95d88_22 ?_
  refine a_lstore_n (i := 0) (ls2 := [some (vL (bcL2 (bcL1 p0))), none]) dJ13_bitCount_95d88_23 rfl (Nat.le_of_ble_eq_true rfl) rfl ?_
  refine a_lload_n dJ13_bitCount_95d88_24 rfl ?_
  refine a_lload_n dJ13_bitCount_95d88_25 rfl ?_
  refine a_iconst (x := 4) dJ13_bitCount_95d88_26 rfl ⟨by decide, by decide⟩ ?_
  refine a_lushr dJ13_bitCount_95d88_27 ?_
  refine a_laddW dJ13_bitCount_95d88_28 ?_
  refine a_ldc2 (x := 1085102592571150095) dJ13_bitCount_95d88_29 kc_JLong_318 ⟨by decide, by decide⟩ ?_
  refine a_land dJ13_bitCount_95d88_32 ?_
  refine a_lstore_n (i := 0) (ls2 := [some (vL (bcL3 (bcL2 (bcL1 p0)))), none]) dJ13_bitCount_95d88_33 rfl (Nat.le_of_ble_eq_true rfl) rfl ?_
  refine a_lload_n dJ13_bitCount_95d88_34 rfl ?_
  refine a_lload_n dJ13_bitCount_95d88_35 rfl ?_
  refine a_bipush (x := 8) dJ13_bitCount_95d88_36 (by decide) ⟨by decide, by decide⟩ ?_
  refine a_lushr dJ13_bitCount_95d88_38 ?_
  refine a_laddW dJ13_bitCount_95d88_39 ?_
  refine a_lstore_n (i := 0) (ls2 := [some (vL (bcL4 (bcL3 (bcL2 (bcL1 p0))))), none]) dJ13_bitCount_95d88_40 rfl (Nat.le_of_ble_eq_true rfl) rfl ?_
  refine a_lload_n dJ13_bitCount_95d88_41 rfl ?_
  refine a_lload_n dJ13_bitCount_95d88_42 rfl ?_
  refine a_bipush (x := 16) dJ13_bitCount_95d88_43 (by decide) ⟨by decide, by decide⟩ ?_
  refine a_lushr dJ13_bitCount_95d88_45 ?_
  refine a_laddW dJ13_bitCount_95d88_46 ?_
  refine a_lstore_n (i := 0) (ls2 := [some (vL (bcL5 (bcL4 (bcL3 (bcL2 (bcL1 p0)))))), none]) dJ13_bitCount_95d88_47 rfl (Nat.le_of_ble_eq_true rfl) rfl ?_
  refine a_lload_n dJ13_bitCount_95d88_48 rfl ?_
  refine a_lload_n dJ13_bitCount_95d88_49 rfl ?_
  refine a_bipush (x := 32) dJ13_bitCount_95d88_50 (by decide) ⟨by decide, by decide⟩ ?_
  refine a_lushr dJ13_bitCount_95d88_52 ?_
  refine a_laddW dJ13_bitCount_95d88_53 ?_
  refine a_lstore_n (i := 0) (ls2 := [some (vL (bcL6 (bcL5 (bcL4 (bcL3 (bcL2 (bcL1 p0))))))), none]) dJ13_bitCount_95d88_54 rfl (Nat.le_of_ble_eq_true rfl) rfl ?_
  refine a_lload_n dJ13_bitCount_95d88_55 rfl ?_
  refine a_l2i dJ13_bitCount_95d88_56 ?_
  refine a_bipush (x := 127) dJ13_bitCount_95d88_57 (by decide) ⟨by decide, by decide⟩ ?_
  refine a_iand dJ13_bitCount_95d88_59 ?_
  exact a_iret dJ13_bitCount_95d88_60 rfl hy
theorem c_JInteger_bitCount {d : Nat} (d0 : Nat) (hd : d0 < d) {p0 : Int} {h : AH} {Q : Int → AH → Prop} (hy : Q (bcI p0) h) : Call d M_JInteger_bitCount [vI p0] h Q := by
  refine ⟨d0, hd, Big.of rfl (Nat.le_of_ble_eq_true rfl) ?_⟩
  show AW d0 M_JInteger_bitCount Q 0 [some (vI p0)] [] h
  refine a_iload_n dJ6_bitCount_0f7a4_0 rfl ?_
  refine a_iload_n dJ6_bitCount_0f7a4_1 rfl ?_
  refine a_iconst (x := 1) dJ6_bitCount_0f7a4_2 rfl ⟨by decide, by decide⟩ ?_
  refine a_iushr dJ6_bitCount_0f7a4_3 ?_
  refine a_ldcw (x := 1431655765) dJ6_bitCount_0f7a4_4 kc_JInteger_265 ⟨by decide, by decide⟩ ?_
  refine a_iand dJ6_bitCount_0f7a4_7 ?_
  refine a_isubW dJ6_bitCount_0f7a4_8 ?_
  refine a_istore_n (i := 0) (ls2 := [some (vI (bcI1 p0))]) dJ6_bitCount_0f7a4_9 rfl (Nat.le_of_ble_eq_true rfl) rfl ?_
  refine a_iload_n dJ6_bitCount_0f7a4_10 rfl ?_
  refine a_ldcw (x := 858993459) dJ6_bitCount_0f7a4_11 kc_JInteger_266 ⟨by decide, by decide⟩ ?_
  refine a_iand dJ6_bitCount_0f7a4_14 ?_
  refine a_iload_n dJ6_bitCount_0f7a4_15 rfl ?_
  refine a_iconst (x := 2) dJ6_bitCount_0f7a4_16 rfl ⟨by decide, by decide⟩ ?_
  refine a_iushr dJ6_bitCount_0f7a4_17 ?_
  refine a_ldcw (x := 858993459) dJ6_bitCount_0f7a4_18 kc_JInteger_266 ⟨by decide, by decide⟩ ?_
  refine a_iand dJ6_bitCount_0f7a4_21 ?_
  refine a_iaddW dJ6_bitCount_0f7a4_22 ?_
  refine a_istore_n (i := 0) (ls2 := [some (vI (bcI2 (bcI1 p0)))]) dJ6_bitCount_0f7a4_23 rfl (Nat.le_of_ble_eq_true rfl) rfl ?_
  refine a_iload_n dJ6_bitCount_0f7a4_24 rfl ?_
  refine a_iload_n dJ6_bitCount_0f7a4_25 rfl ?_
  refine a_iconst (x := 4) dJ6_bitCount_0f7a4_26 rfl ⟨by decide, by decide⟩ ?_
  refine a_iushr dJ6_bitCount_0f7a4_27 ?_
  refine a_iaddW dJ6_bitCount_0f7a4_28 ?_
  refine a_ldcw (x := 252645135) dJ6_bitCount_0f7a4_29 kc_JInteger_267 ⟨by decide, by decide⟩ ?_
  refine a_iand dJ6_bitCount_0f7a4_32 ?_
  refine a_istore_n (i := 0) (ls2 := [some (vI (bcI3 (bcI2 (bcI1 p0))))]) dJ6_bitCount_0f7a4_33 rfl (Nat.le_of_ble_eq_true rfl) rfl ?_
  refine a_iload_n dJ6_bitCount_0f7a4_34 rfl ?_
  refine a_iload_n dJ6_bitCount_0f7a4_35 rfl ?_
  refine a_bipush (x := 8) dJ6_bitCount_0f7a4_36 (by decide) ⟨by decide, by decide⟩ ?_
  refine a_iushr dJ6_bitCount_0f7a4_38 ?_
  refine a_iaddW dJ6_bitCount_0f7a4_39 ?_
  refine a_istore_n (i := 0) (ls2 := [some (vI (bcI4 (bcI3 (bcI2 (bcI1 p0)))))]) dJ6_bitCount_0f7a4_40 rfl (Nat.le_of_ble_eq_true rfl) rfl ?_
  refine a_iload_n dJ6_bitCount_0f7a4_41 rfl ?_
  refine a_iload_n dJ6_bitCount_0f7a4_42 rfl ?_
  refine a_bipush (x := 16) dJ6_bitCount_0f7a4_43 (by decide) ⟨by decide, by decide⟩ ?_
  refine a_iushr dJ6_bitCount_0f7a4_45 ?_
  refine a_iaddW dJ6_bitCount_0f7a4_46 ?_
  refine a_istore_n (i := 0) (ls2 := [some (vI (bcI5 (bcI4 (bcI3 (bcI2 (bcI1 p0))))))]) dJ6_bitCount_0f7a4_47 rfl (Nat.le_of_ble_eq_true rfl) rfl ?_
  refine a_iload_n dJ6_bitCount_0f7a4_48 rfl ?_
  refine a_bipush (x := 63) dJ6_bitCount_0f7a4_49 (by decide) ⟨by decide, by decide⟩ ?_
  refine a_iand dJ6_bitCount_0f7a4_51 ?_
  exact a_iret dJ6_bitCount_0f7a4_52 rfl hy
section AL
variable {d : Nat} {μ : Mi} {Q : Int → AH → Prop} {pc : Nat} {ls : List (Option AV)} {st : List AV} {h : AH}
theorem a_alenL {o n : Nat} {l0 : List Nat} {x : Int} (hd : decode μ.2.1 pc = .ok (.arraylength, 1)) (sk : skl[o]? = some (3, n, l0)) (hn : n < 2147483648) (hx : (n : Int) = x) (kk : AW d μ Q (pc + 1) ls (vI x :: st) h) : AW d μ Q pc ls (vR o (-1) :: st) h := by
  subst hx
  intro p l e s m args below meth c H locs lsC ad dC dI cA A C hs
  have he := ws_at (ad := ad) (cA := cA) (h := h) (okS_hd hs)
  rw [enc_at sk] at he
  have k2 := kk p l e s m args below meth c H locs lsC ad dC dI cA A C (okS_cons (v := vI (n : Int)) (show inI (n : Int) from ⟨by omega, by omega⟩) (okS_tl hs))
  have hv : Int32.ofNat n = Int32.ofInt (n : Int) := by rw [Int32.ofInt_eq_ofNat]
  exact va_alen C.1.1 C.1.2.1 C.1.2.2.2.2.2.2.2.1 C.2.2.1 _ 3 he rfl hv hd k2
end AL
def A_JArrays_fill_6 (d : Nat) (Q : Int → AH → Prop) (p1 : Int) (v3 : Int) (v4 : Int) (h : AH) : Prop := AW d M_JArrays_fill Q 6 [some (vR 54 (-1)), some (vL p1), none, some (vI v3), some (vI v4)] [] h
theorem s_JArrays_fill_6 {d : Nat} {Q : Int → AH → Prop} {p1 : Int} {v3 : Int} {v4 : Int} {h : AH} (hy : ((v4 ≤ v3 → Q 0 h) ∧ (v3 < v4 → (inb v3 104 ∧ (inI (v3 + 1) ∧ A_JArrays_fill_6 d Q p1 (v3 + 1) v4 (wL h 54 v3 p1)))))) : A_JArrays_fill_6 d Q p1 v3 v4 h := by
  show AW d M_JArrays_fill Q 6 [some (vR 54 (-1)), some (vL p1), none, some (vI v3), some (vI v4)] [] h
  refine a_iload_n dJ7_fill_d0a16_6 rfl ?_
  refine a_iload dJ7_fill_d0a16_7 rfl ?_
  refine a_icmp_ge (tgt := 22) dJ7_fill_d0a16_9 (by decide) (fun c => ?_) (fun c => ?_)
  · have hy := hy.1 c
    exact a_vret dJ7_fill_d0a16_22 rfl hy
  · have hy := hy.2 (Int.not_le.mp c)
    refine a_aload_n dJ7_fill_d0a16_12 rfl ?_
    refine a_iload_n dJ7_fill_d0a16_13 rfl ?_
    refine a_lload_n dJ7_fill_d0a16_14 rfl ?_
    obtain ⟨c1, hy⟩ := hy
    refine a_last dJ7_fill_d0a16_15 sk_54 c1 ?_
    obtain ⟨c2, hy⟩ := hy
    refine a_iinc (y := v3 + 1) (ls2 := [some (vR 54 (-1)), some (vL p1), none, some (vI (v3 + 1)), some (vI v4)]) dJ7_fill_d0a16_16 rfl rfl c2 rfl ?_
    refine a_goto (tgt := 6) dJ7_fill_d0a16_19 (by decide) ?_
    exact hy
theorem c_JArrays_fill {d : Nat} (d0 : Nat) (hd : d0 < d) {p1 : Int} {h : AH} {Q : Int → AH → Prop} (hy : A_JArrays_fill_6 d0 Q p1 0 104 h) : Call d M_JArrays_fill [vR 54 (-1), vL p1] h Q := by
  refine ⟨d0, hd, Big.of rfl (Nat.le_of_ble_eq_true rfl) ?_⟩
  show AW d0 M_JArrays_fill Q 0 [some (vR 54 (-1)), some (vL p1), none, none, none] [] h
  refine a_iconst (x := 0) dJ7_fill_d0a16_0 rfl ⟨by decide, by decide⟩ ?_
  refine a_istore_n (i := 3) (ls2 := [some (vR 54 (-1)), some (vL p1), none, some (vI 0), none]) dJ7_fill_d0a16_1 rfl (Nat.le_of_ble_eq_true rfl) rfl ?_
  refine a_aload_n dJ7_fill_d0a16_2 rfl ?_
  refine a_alenL (x := 104) dJ7_fill_d0a16_3 sk_54 (by decide) rfl ?_
  refine a_istore (ls2 := [some (vR 54 (-1)), some (vL p1), none, some (vI 0), some (vI 104)]) dJ7_fill_d0a16_4 (Nat.le_of_ble_eq_true rfl) rfl ?_
  exact hy

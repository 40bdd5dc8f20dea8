theorem c_NewWords_addRow {d : Nat} (d0 : Nat) (hd : d0 < d) {p1 : Int} {p3 : Int} {p4 : Int} {h : AH} {Q : Int → AH → Prop} (hy : ((16000 ≤ (h.1 8 7) → Q 0 h) ∧ ((h.1 8 7) < 16000 → (inb (h.1 8 7) 16000 ∧ (inI ((h.1 8 7) + 1) ∧ (inb p4 32768 ∧ Q 0 (wI (wI (wI (wL (wL h 44 (h.1 8 7) p1) 45 (h.1 8 7) (lshl 1 p3)) 43 (h.1 8 7) p4) 8 7 ((h.1 8 7) + 1)) 42 p4 ((h.1 8 7) + 1)))))))) : Call d M_NewWords_addRow [vR 8 (-1), vL p1, vI p3, vI p4] h Q := by
  refine ⟨d0, hd, Big.of rfl (Nat.le_of_ble_eq_true rfl) ?_⟩
  show AW d0 M_NewWords_addRow Q 0 [some (vR 8 (-1)), some (vL p1), none, some (vI p3), some (vI p4)] [] h
  refine a_aload_n dX2_addRow_0 rfl ?_
  refine a_getI' (kz := 7) dX2_addRow_1 fl_NewWords_70 sk_8 rfl rfl (rfl) ?_
  refine a_sipush (x := 16000) dX2_addRow_4 (by decide) ⟨by decide, by decide⟩ ?_
  refine a_icmp_ge (tgt := 64) dX2_addRow_7 (by decide) (fun c => ?_) (fun c => ?_)
  · have hy := hy.1 c
    exact a_vret dX2_addRow_64 rfl hy
  · have hy := hy.2 (Int.not_le.mp c)
    refine a_aload_n dX2_addRow_10 rfl ?_
    refine a_getR dX2_addRow_11 fl_NewWords_19 sk_8 rfl ?_
    refine a_aload_n dX2_addRow_14 rfl ?_
    refine a_getI' (kz := 7) dX2_addRow_15 fl_NewWords_70 sk_8 rfl rfl (rfl) ?_
    refine a_lload_n dX2_addRow_18 rfl ?_
    obtain ⟨c1, hy⟩ := hy
    refine a_last dX2_addRow_19 sk_44 c1 ?_
    refine a_aload_n dX2_addRow_20 rfl ?_
    refine a_getR dX2_addRow_21 fl_NewWords_23 sk_8 rfl ?_
    refine a_aload_n dX2_addRow_24 rfl ?_
    refine a_getI' (kz := 7) dX2_addRow_25 fl_NewWords_70 sk_8 rfl rfl (rfl) ?_
    refine a_lconst (x := 1) dX2_addRow_28 rfl ⟨by decide, by decide⟩ ?_
    refine a_iload_n dX2_addRow_29 rfl ?_
    refine a_lshl dX2_addRow_30 ?_
    refine a_last dX2_addRow_31 sk_45 c1 ?_
    refine a_aload_n dX2_addRow_32 rfl ?_
    refine a_getR dX2_addRow_33 fl_NewWords_16 sk_8 rfl ?_
    refine a_aload_n dX2_addRow_36 rfl ?_
    refine a_getI' (kz := 7) dX2_addRow_37 fl_NewWords_70 sk_8 rfl rfl (rfl) ?_
    refine a_iload dX2_addRow_40 rfl ?_
    refine a_iast dX2_addRow_42 sk_43 c1 ?_
    refine a_aload_n dX2_addRow_43 rfl ?_
    refine a_dupR dX2_addRow_44 ?_
    refine a_getI' (kz := 7) dX2_addRow_45 fl_NewWords_70 sk_8 rfl rfl (rI_ne (by decide)) ?_
    refine a_iconst (x := 1) dX2_addRow_48 rfl ⟨by decide, by decide⟩ ?_
    obtain ⟨c2, hy⟩ := hy
    refine a_iadd dX2_addRow_49 c2 ?_
    refine a_putI (kz := 7) dX2_addRow_50 fp_NewWords_70 sk_8 rfl rfl ?_
    refine a_aload_n dX2_addRow_53 rfl ?_
    refine a_getR dX2_addRow_54 fl_NewWords_12 sk_8 rfl ?_
    refine a_iload dX2_addRow_57 rfl ?_
    refine a_aload_n dX2_addRow_59 rfl ?_
    refine a_getI' (kz := 7) dX2_addRow_60 fl_NewWords_70 sk_8 rfl rfl (rI_eq) ?_
    obtain ⟨c3, hy⟩ := hy
    refine a_iast dX2_addRow_63 sk_42 c3 ?_
    exact a_vret dX2_addRow_64 rfl hy
def A_NewWords_emptyRows_2 (d : Nat) (Q : Int → AH → Prop) (v1 : Int) (h : AH) : Prop := AW d M_NewWords_emptyRows Q 2 [some (vR 8 (-1)), some (vI v1)] [] h
theorem s_NewWords_emptyRows_2 {d : Nat} {Q : Int → AH → Prop} {v1 : Int} {h : AH} (hy : (((h.1 8 7) ≤ v1 → Q 0 (wI h 8 7 0)) ∧ (v1 < (h.1 8 7) → ((16000 ≤ v1 → Q 0 (wI h 8 7 0)) ∧ (v1 < 16000 → (inb v1 16000 ∧ (inb (h.1 43 v1) 32768 ∧ (inI (v1 + 1) ∧ A_NewWords_emptyRows_2 d Q (v1 + 1) (wI h 42 (h.1 43 v1) 0))))))))) : A_NewWords_emptyRows_2 d Q v1 h := by
  show AW d M_NewWords_emptyRows Q 2 [some (vR 8 (-1)), some (vI v1)] [] h
  refine a_iload_n dX2_emptyRows_2 rfl ?_
  refine a_aload_n dX2_emptyRows_3 rfl ?_
  refine a_getI' (kz := 7) dX2_emptyRows_4 fl_NewWords_70 sk_8 rfl rfl (rfl) ?_
  refine a_icmp_ge (tgt := 35) dX2_emptyRows_7 (by decide) (fun c => ?_) (fun c => ?_)
  · have hy := hy.1 c
    refine a_aload_n dX2_emptyRows_35 rfl ?_
    refine a_iconst (x := 0) dX2_emptyRows_36 rfl ⟨by decide, by decide⟩ ?_
    refine a_putI (kz := 7) dX2_emptyRows_37 fp_NewWords_70 sk_8 rfl rfl ?_
    exact a_vret dX2_emptyRows_40 rfl hy
  · have hy := hy.2 (Int.not_le.mp c)
    refine a_iload_n dX2_emptyRows_10 rfl ?_
    refine a_sipush (x := 16000) dX2_emptyRows_11 (by decide) ⟨by decide, by decide⟩ ?_
    refine a_icmp_ge (tgt := 35) dX2_emptyRows_14 (by decide) (fun c => ?_) (fun c => ?_)
    · have hy := hy.1 c
      refine a_aload_n dX2_emptyRows_35 rfl ?_
      refine a_iconst (x := 0) dX2_emptyRows_36 rfl ⟨by decide, by decide⟩ ?_
      refine a_putI (kz := 7) dX2_emptyRows_37 fp_NewWords_70 sk_8 rfl rfl ?_
      exact a_vret dX2_emptyRows_40 rfl hy
    · have hy := hy.2 (Int.not_le.mp c)
      refine a_aload_n dX2_emptyRows_17 rfl ?_
      refine a_getR dX2_emptyRows_18 fl_NewWords_12 sk_8 rfl ?_
      refine a_aload_n dX2_emptyRows_21 rfl ?_
      refine a_getR dX2_emptyRows_22 fl_NewWords_16 sk_8 rfl ?_
      refine a_iload_n dX2_emptyRows_25 rfl ?_
      obtain ⟨c1, hy⟩ := hy
      refine a_iald' dX2_emptyRows_26 sk_43 c1 (rfl) ?_
      refine a_iconst (x := 0) dX2_emptyRows_27 rfl ⟨by decide, by decide⟩ ?_
      obtain ⟨c2, hy⟩ := hy
      refine a_iast dX2_emptyRows_28 sk_42 c2 ?_
      obtain ⟨c3, hy⟩ := hy
      refine a_iinc (y := v1 + 1) (ls2 := [some (vR 8 (-1)), some (vI (v1 + 1))]) dX2_emptyRows_29 rfl rfl c3 rfl ?_
      refine a_goto (tgt := 2) dX2_emptyRows_32 (by decide) ?_
      exact hy
theorem c_NewWords_emptyRows {d : Nat} (d0 : Nat) (hd : d0 < d)  {h : AH} {Q : Int → AH → Prop} (hy : A_NewWords_emptyRows_2 d0 Q 0 h) : Call d M_NewWords_emptyRows [vR 8 (-1)] h Q := by
  refine ⟨d0, hd, Big.of rfl (Nat.le_of_ble_eq_true rfl) ?_⟩
  show AW d0 M_NewWords_emptyRows Q 0 [some (vR 8 (-1)), none] [] h
  refine a_iconst (x := 0) dX2_emptyRows_0 rfl ⟨by decide, by decide⟩ ?_
  refine a_istore_n (i := 1) (ls2 := [some (vR 8 (-1)), some (vI 0)]) dX2_emptyRows_1 rfl (Nat.le_of_ble_eq_true rfl) rfl ?_
  exact hy
def A_NewWords_findBest_17 (d : Nat) (Q : Int → AH → Prop) (v1 : Int) (h : AH) : Prop := AW d M_NewWords_findBest Q 17 [some (vR 8 (-1)), some (vI v1)] [] h
theorem s_NewWords_findBest_17 {d : Nat} {Q : Int → AH → Prop} {v1 : Int} {h : AH} (hy : (((h.1 8 7) ≤ v1 → Q 0 h) ∧ (v1 < (h.1 8 7) → ((16000 ≤ v1 → Q 0 h) ∧ (v1 < 16000 → (inb v1 16000 ∧ (Call d M_JLong_bitCount [vL (h.2.1 45 v1)] h (fun r3 h2 => ((r3 < (h2.1 8 8) → (inI (v1 + 1) ∧ A_NewWords_findBest_17 d Q (v1 + 1) h2)) ∧ ((h2.1 8 8) ≤ r3 → (Call d M_NewWords_weigh [vR 8 (-1), vL (h2.2.1 44 v1), vL (h2.2.1 45 v1)] h2 (fun _ h5 => inI (v1 + 1) ∧ A_NewWords_findBest_17 d Q (v1 + 1) h5)))))))))))) : A_NewWords_findBest_17 d Q v1 h := by
  show AW d M_NewWords_findBest Q 17 [some (vR 8 (-1)), some (vI v1)] [] h
  refine a_iload_n dX2_findBest_17 rfl ?_
  refine a_aload_n dX2_findBest_18 rfl ?_
  refine a_getI' (kz := 7) dX2_findBest_19 fl_NewWords_70 sk_8 rfl rfl (rfl) ?_
  refine a_icmp_ge (tgt := 70) dX2_findBest_22 (by decide) (fun c => ?_) (fun c => ?_)
  · have hy := hy.1 c
    exact a_vret dX2_findBest_70 rfl hy
  · have hy := hy.2 (Int.not_le.mp c)
    refine a_iload_n dX2_findBest_25 rfl ?_
    refine a_sipush (x := 16000) dX2_findBest_26 (by decide) ⟨by decide, by decide⟩ ?_
    refine a_icmp_ge (tgt := 70) dX2_findBest_29 (by decide) (fun c => ?_) (fun c => ?_)
    · have hy := hy.1 c
      exact a_vret dX2_findBest_70 rfl hy
    · have hy := hy.2 (Int.not_le.mp c)
      refine a_aload_n dX2_findBest_32 rfl ?_
      refine a_getR dX2_findBest_33 fl_NewWords_23 sk_8 rfl ?_
      refine a_iload_n dX2_findBest_36 rfl ?_
      obtain ⟨c1, hy⟩ := hy
      refine a_lald' dX2_findBest_37 sk_45 c1 (rfl) ?_
      refine a_callSi (as := [vL (h.2.1 45 v1)]) (st := []) dX2_findBest_38 lk_NewWords_119 rfl rfl (Nat.le_of_ble_eq_true rfl) (Or.inl rfl) (Call.mono hy (fun r3 h2 _ hy => ?_))
      refine a_aload_n dX2_findBest_41 rfl ?_
      refine a_getI' (kz := 8) dX2_findBest_42 fl_NewWords_113 sk_8 rfl rfl (rfl) ?_
      refine a_icmp_lt (tgt := 64) dX2_findBest_45 (by decide) (fun c => ?_) (fun c => ?_)
      · have hy := hy.1 c
        obtain ⟨c4, hy⟩ := hy
        refine a_iinc (y := v1 + 1) (ls2 := [some (vR 8 (-1)), some (vI (v1 + 1))]) dX2_findBest_64 rfl rfl c4 rfl ?_
        refine a_goto (tgt := 17) dX2_findBest_67 (by decide) ?_
        exact hy
      · have hy := hy.2 (Int.not_lt.mp c)
        refine a_aload_n dX2_findBest_48 rfl ?_
        refine a_aload_n dX2_findBest_49 rfl ?_
        refine a_getR dX2_findBest_50 fl_NewWords_19 sk_8 rfl ?_
        refine a_iload_n dX2_findBest_53 rfl ?_
        refine a_lald' dX2_findBest_54 sk_44 c1 (rfl) ?_
        refine a_aload_n dX2_findBest_55 rfl ?_
        refine a_getR dX2_findBest_56 fl_NewWords_23 sk_8 rfl ?_
        refine a_iload_n dX2_findBest_59 rfl ?_
        refine a_lald' dX2_findBest_60 sk_45 c1 (rfl) ?_
        refine a_callVv (as := [vL (h2.2.1 44 v1), vL (h2.2.1 45 v1)]) (st := []) dX2_findBest_61 lk_NewWords_124 sk_8 rfl rfl (Nat.le_of_ble_eq_true rfl) rfl (Call.mono hy (fun _ h5 _ hy => ?_))
        obtain ⟨c6, hy⟩ := hy
        refine a_iinc (y := v1 + 1) (ls2 := [some (vR 8 (-1)), some (vI (v1 + 1))]) dX2_findBest_64 rfl rfl c6 rfl ?_
        refine a_goto (tgt := 17) dX2_findBest_67 (by decide) ?_
        exact hy
theorem c_NewWords_findBest {d : Nat} (d0 : Nat) (hd : d0 < d)  {h : AH} {Q : Int → AH → Prop} (hy : A_NewWords_findBest_17 d0 Q 0 (wL (wI (wI h 8 8 0) 8 9 0) 8 10 0)) : Call d M_NewWords_findBest [vR 8 (-1)] h Q := by
  refine ⟨d0, hd, Big.of rfl (Nat.le_of_ble_eq_true rfl) ?_⟩
  show AW d0 M_NewWords_findBest Q 0 [some (vR 8 (-1)), none] [] h
  refine a_aload_n dX2_findBest_0 rfl ?_
  refine a_iconst (x := 0) dX2_findBest_1 rfl ⟨by decide, by decide⟩ ?_
  refine a_putI (kz := 8) dX2_findBest_2 fp_NewWords_113 sk_8 rfl rfl ?_
  refine a_aload_n dX2_findBest_5 rfl ?_
  refine a_iconst (x := 0) dX2_findBest_6 rfl ⟨by decide, by decide⟩ ?_
  refine a_putI (kz := 9) dX2_findBest_7 fp_NewWords_116 sk_8 rfl rfl ?_
  refine a_aload_n dX2_findBest_10 rfl ?_
  refine a_lconst (x := 0) dX2_findBest_11 rfl ⟨by decide, by decide⟩ ?_
  refine a_putL (kz := 10) dX2_findBest_12 fp_NewWords_73 sk_8 rfl rfl ?_
  refine a_iconst (x := 0) dX2_findBest_15 rfl ⟨by decide, by decide⟩ ?_
  refine a_istore_n (i := 1) (ls2 := [some (vR 8 (-1)), some (vI 0)]) dX2_findBest_16 rfl (Nat.le_of_ble_eq_true rfl) rfl ?_
  exact hy
def A_NewWords_heapsOf_5 (d : Nat) (Q : Int → AH → Prop) (p1 : Int) (v3 : Int) (v5 : Int) (h : AH) : Prop := AW d M_NewWords_heapsOf Q 5 [some (vR 8 (-1)), some (vL p1), none, some (vL v3), none, some (vI v5)] [] h
theorem s_NewWords_heapsOf_5 {d : Nat} {Q : Int → AH → Prop} {p1 : Int} {v3 : Int} {v5 : Int} {h : AH} (hy : (((h.1 2 6) ≤ v5 → (Call d M_JLong_bitCount [vL v3] h (fun r2 h1 => Q r2 h1))) ∧ (v5 < (h.1 2 6) → (((land (lushr p1 v5) 1) = 0 → (inI (v5 + 1) ∧ A_NewWords_heapsOf_5 d Q p1 v3 (v5 + 1) h)) ∧ ((land (lushr p1 v5) 1) ≠ 0 → (inb v5 40 ∧ (inI (v5 + 1) ∧ A_NewWords_heapsOf_5 d Q p1 (lor v3 (lshl 1 (h.1 38 v5))) (v5 + 1) h))))))) : A_NewWords_heapsOf_5 d Q p1 v3 v5 h := by
  show AW d M_NewWords_heapsOf Q 5 [some (vR 8 (-1)), some (vL p1), none, some (vL v3), none, some (vI v5)] [] h
  refine a_iload dX2_heapsOf_5 rfl ?_
  refine a_aload_n dX2_heapsOf_7 rfl ?_
  refine a_getR dX2_heapsOf_8 fl_NewWords_30 sk_8 rfl ?_
  refine a_getI' (kz := 6) dX2_heapsOf_11 fl_NewWords_48 sk_2 rfl rfl (rfl) ?_
  refine a_icmp_ge (tgt := 49) dX2_heapsOf_14 (by decide) (fun c => ?_) (fun c => ?_)
  · have hy := hy.1 c
    refine a_lload_n dX2_heapsOf_49 rfl ?_
    refine a_callSi (as := [vL v3]) (st := []) dX2_heapsOf_50 lk_NewWords_119 rfl rfl (Nat.le_of_ble_eq_true rfl) (Or.inl rfl) (Call.mono hy (fun r2 h1 _ hy => ?_))
    exact a_iret dX2_heapsOf_53 rfl hy
  · have hy := hy.2 (Int.not_le.mp c)
    refine a_lload_n dX2_heapsOf_17 rfl ?_
    refine a_iload dX2_heapsOf_18 rfl ?_
    refine a_lushr dX2_heapsOf_20 ?_
    refine a_lconst (x := 1) dX2_heapsOf_21 rfl ⟨by decide, by decide⟩ ?_
    refine a_land dX2_heapsOf_22 ?_
    refine a_lconst (x := 0) dX2_heapsOf_23 rfl ⟨by decide, by decide⟩ ?_
    refine a_lc_eq (tgt := 43) dX2_heapsOf_24 dX2_heapsOf_25 (by decide) (fun c => ?_) (fun c => ?_)
    · have hy := hy.1 c
      obtain ⟨c3, hy⟩ := hy
      refine a_iinc (y := v5 + 1) (ls2 := [some (vR 8 (-1)), some (vL p1), none, some (vL v3), none, some (vI (v5 + 1))]) dX2_heapsOf_43 rfl rfl c3 rfl ?_
      refine a_goto (tgt := 5) dX2_heapsOf_46 (by decide) ?_
      exact hy
    · have hy := hy.2 (c)
      refine a_lload_n dX2_heapsOf_28 rfl ?_
      refine a_lconst (x := 1) dX2_heapsOf_29 rfl ⟨by decide, by decide⟩ ?_
      refine a_aload_n dX2_heapsOf_30 rfl ?_
      refine a_getR dX2_heapsOf_31 fl_NewWords_38 sk_8 rfl ?_
      refine a_getR dX2_heapsOf_34 fl_NewWords_135 sk_7 rfl ?_
      refine a_iload dX2_heapsOf_37 rfl ?_
      obtain ⟨c4, hy⟩ := hy
      refine a_iald' dX2_heapsOf_39 sk_38 c4 (rfl) ?_
      refine a_lshl dX2_heapsOf_40 ?_
      refine a_lor dX2_heapsOf_41 ?_
      refine a_lstore_n (i := 3) (ls2 := [some (vR 8 (-1)), some (vL p1), none, some (vL (lor v3 (lshl 1 (h.1 38 v5)))), none, some (vI v5)]) dX2_heapsOf_42 rfl (Nat.le_of_ble_eq_true rfl) rfl ?_
      obtain ⟨c5, hy⟩ := hy
      refine a_iinc (y := v5 + 1) (ls2 := [some (vR 8 (-1)), some (vL p1), none, some (vL (lor v3 (lshl 1 (h.1 38 v5)))), none, some (vI (v5 + 1))]) dX2_heapsOf_43 rfl rfl c5 rfl ?_
      refine a_goto (tgt := 5) dX2_heapsOf_46 (by decide) ?_
      exact hy
theorem c_NewWords_heapsOf {d : Nat} (d0 : Nat) (hd : d0 < d) {p1 : Int} {h : AH} {Q : Int → AH → Prop} (hy : A_NewWords_heapsOf_5 d0 Q p1 0 0 h) : Call d M_NewWords_heapsOf [vR 8 (-1), vL p1] h Q := by
  refine ⟨d0, hd, Big.of rfl (Nat.le_of_ble_eq_true rfl) ?_⟩
  show AW d0 M_NewWords_heapsOf Q 0 [some (vR 8 (-1)), some (vL p1), none, none, none, none] [] h
  refine a_lconst (x := 0) dX2_heapsOf_0 rfl ⟨by decide, by decide⟩ ?_
  refine a_lstore_n (i := 3) (ls2 := [some (vR 8 (-1)), some (vL p1), none, some (vL 0), none, none]) dX2_heapsOf_1 rfl (Nat.le_of_ble_eq_true rfl) rfl ?_
  refine a_iconst (x := 0) dX2_heapsOf_2 rfl ⟨by decide, by decide⟩ ?_
  refine a_istore (ls2 := [some (vR 8 (-1)), some (vL p1), none, some (vL 0), none, some (vI 0)]) dX2_heapsOf_3 (Nat.le_of_ble_eq_true rfl) rfl ?_
  exact hy
def A_NewWords_join_18 (d : Nat) (Q : Int → AH → Prop) (p1 : Int) (p3 : Int) (v4 : Int) (v5 : Int) (h : AH) : Prop := AW d M_NewWords_join Q 18 [some (vR 8 (-1)), some (vL p1), none, some (vI p3), some (vI v4), some (vI v5), none] [] h
theorem s_NewWords_join_18 {d : Nat} {Q : Int → AH → Prop} {p1 : Int} {p3 : Int} {v4 : Int} {v5 : Int} {h : AH} (hy : ((32768 ≤ v5 → Q 0 h) ∧ (v5 < 32768 → (inb v4 32768 ∧ (inI ((h.1 42 v4) - 1) ∧ ((0 ≤ ((h.1 42 v4) - 1) → (inb ((h.1 42 v4) - 1) 16000 ∧ (((h.2.1 44 ((h.1 42 v4) - 1)) ≠ p1 → (inI (v4 + 1) ∧ (inI (v5 + 1) ∧ A_NewWords_join_18 d Q p1 p3 (iand (v4 + 1) 32767) (v5 + 1) h))) ∧ ((h.2.1 44 ((h.1 42 v4) - 1)) = p1 → Q 0 (wL h 45 ((h.1 42 v4) - 1) (lor (h.2.1 45 ((h.1 42 v4) - 1)) (lshl 1 p3))))))) ∧ (((h.1 42 v4) - 1) < 0 → (Call d M_NewWords_addRow [vR 8 (-1), vL p1, vI p3, vI v4] h (fun _ h6 => Q 0 h6))))))))) : A_NewWords_join_18 d Q p1 p3 v4 v5 h := by
  show AW d M_NewWords_join Q 18 [some (vR 8 (-1)), some (vL p1), none, some (vI p3), some (vI v4), some (vI v5), none] [] h
  refine a_iload dX2_join_18 rfl ?_
  refine a_ldc (x := 32768) dX2_join_20 kc_NewWords_11 ⟨by decide, by decide⟩ ?_
  refine a_icmp_ge (tgt := 92) dX2_join_22 (by decide) (fun c => ?_) (fun c => ?_)
  · have hy := hy.1 c
    exact a_vret dX2_join_92 rfl hy
  · have hy := hy.2 (Int.not_le.mp c)
    refine a_aload_n dX2_join_25 rfl ?_
    refine a_getR dX2_join_26 fl_NewWords_12 sk_8 rfl ?_
    refine a_iload dX2_join_29 rfl ?_
    obtain ⟨c1, hy⟩ := hy
    refine a_iald' dX2_join_31 sk_42 c1 (rfl) ?_
    refine a_iconst (x := 1) dX2_join_32 rfl ⟨by decide, by decide⟩ ?_
    obtain ⟨c2, hy⟩ := hy
    refine a_isub dX2_join_33 c2 ?_
    refine a_istore (ls2 := [some (vR 8 (-1)), some (vL p1), none, some (vI p3), some (vI v4), some (vI v5), some (vI ((h.1 42 v4) - 1))]) dX2_join_34 (Nat.le_of_ble_eq_true rfl) rfl ?_
    refine a_iload dX2_join_36 rfl ?_
    refine a_if_ge (tgt := 50) dX2_join_38 (by decide) (fun c => ?_) (fun c => ?_)
    · have hy := hy.1 c
      refine a_aload_n dX2_join_50 rfl ?_
      refine a_getR dX2_join_51 fl_NewWords_19 sk_8 rfl ?_
      refine a_iload dX2_join_54 rfl ?_
      obtain ⟨c3, hy⟩ := hy
      refine a_lald' dX2_join_56 sk_44 c3 (rfl) ?_
      refine a_lload_n dX2_join_57 rfl ?_
      refine a_lc_ne (tgt := 76) dX2_join_58 dX2_join_59 (by decide) (fun c => ?_) (fun c => ?_)
      · have hy := hy.1 c
        refine a_iload dX2_join_76 rfl ?_
        refine a_iconst (x := 1) dX2_join_78 rfl ⟨by decide, by decide⟩ ?_
        obtain ⟨c4, hy⟩ := hy
        refine a_iadd dX2_join_79 c4 ?_
        refine a_sipush (x := 32767) dX2_join_80 (by decide) ⟨by decide, by decide⟩ ?_
        refine a_iand dX2_join_83 ?_
        refine a_istore (ls2 := [some (vR 8 (-1)), some (vL p1), none, some (vI p3), some (vI (iand (v4 + 1) 32767)), some (vI v5), some (vI ((h.1 42 v4) - 1))]) dX2_join_84 (Nat.le_of_ble_eq_true rfl) rfl ?_
        obtain ⟨c5, hy⟩ := hy
        refine a_iinc (y := v5 + 1) (ls2 := [some (vR 8 (-1)), some (vL p1), none, some (vI p3), some (vI (iand (v4 + 1) 32767)), some (vI (v5 + 1)), some (vI ((h.1 42 v4) - 1))]) dX2_join_86 rfl rfl c5 rfl ?_
        refine a_goto (tgt := 18) dX2_join_89 (by decide) ?_
        refine a_mask [true, true, true, true, true, true, false] (ls2 := [some (vR 8 (-1)), some (vL p1), none, some (vI p3), some (vI (iand (v4 + 1) 32767)), some (vI (v5 + 1)), none]) rfl rfl ?_
        exact hy
      · have hy := hy.2 (Decidable.not_not.mp c)
        refine a_aload_n dX2_join_62 rfl ?_
        refine a_getR dX2_join_63 fl_NewWords_23 sk_8 rfl ?_
        refine a_iload dX2_join_66 rfl ?_
        refine a_dup2 dX2_join_68 ?_
        refine a_lald' dX2_join_69 sk_45 c3 (rfl) ?_
        refine a_lconst (x := 1) dX2_join_70 rfl ⟨by decide, by decide⟩ ?_
        refine a_iload_n dX2_join_71 rfl ?_
        refine a_lshl dX2_join_72 ?_
        refine a_lor dX2_join_73 ?_
        refine a_last dX2_join_74 sk_45 c3 ?_
        exact a_vret dX2_join_75 rfl hy
    · have hy := hy.2 (Int.not_le.mp c)
      refine a_aload_n dX2_join_41 rfl ?_
      refine a_lload_n dX2_join_42 rfl ?_
      refine a_iload_n dX2_join_43 rfl ?_
      refine a_iload dX2_join_44 rfl ?_
      refine a_callVv (as := [vL p1, vI p3, vI v4]) (st := []) dX2_join_46 lk_NewWords_109 sk_8 rfl rfl (Nat.le_of_ble_eq_true rfl) rfl (Call.mono hy (fun _ h6 _ hy => ?_))
      exact a_vret dX2_join_49 rfl hy
theorem c_NewWords_join {d : Nat} (d0 : Nat) (hd : d0 < d) {p1 : Int} {p3 : Int} {h : AH} {Q : Int → AH → Prop} (hy : A_NewWords_join_18 d0 Q p1 p3 (iand (l2i (lushr (w64 (p1 * (-7046029254386353131))) 49)) 32767) 0 h) : Call d M_NewWords_join [vR 8 (-1), vL p1, vI p3] h Q := by
  refine ⟨d0, hd, Big.of rfl (Nat.le_of_ble_eq_true rfl) ?_⟩
  show AW d0 M_NewWords_join Q 0 [some (vR 8 (-1)), some (vL p1), none, some (vI p3), none, none, none] [] h
  refine a_lload_n dX2_join_0 rfl ?_
  refine a_ldc2 (x := (-7046029254386353131)) dX2_join_1 kc_NewWords_107 ⟨by decide, by decide⟩ ?_
  refine a_lmulW dX2_join_4 ?_
  refine a_bipush (x := 49) dX2_join_5 (by decide) ⟨by decide, by decide⟩ ?_
  refine a_lushr dX2_join_7 ?_
  refine a_l2i dX2_join_8 ?_
  refine a_sipush (x := 32767) dX2_join_9 (by decide) ⟨by decide, by decide⟩ ?_
  refine a_iand dX2_join_12 ?_
  refine a_istore (ls2 := [some (vR 8 (-1)), some (vL p1), none, some (vI p3), some (vI (iand (l2i (lushr (w64 (p1 * (-7046029254386353131))) 49)) 32767)), none, none]) dX2_join_13 (Nat.le_of_ble_eq_true rfl) rfl ?_
  refine a_iconst (x := 0) dX2_join_15 rfl ⟨by decide, by decide⟩ ?_
  refine a_istore (ls2 := [some (vR 8 (-1)), some (vL p1), none, some (vI p3), some (vI (iand (l2i (lushr (w64 (p1 * (-7046029254386353131))) 49)) 32767)), some (vI 0), none]) dX2_join_16 (Nat.le_of_ble_eq_true rfl) rfl ?_
  exact hy
def A_NewWords_joinOtherLetters_2 (d : Nat) (Q : Int → AH → Prop) (p1 : Int) (v2 : Int) (h : AH) : Prop := AW d M_NewWords_joinOtherLetters Q 2 [some (vR 8 (-1)), some (vI p1), some (vI v2), none, none, none, none] [] h
def A_NewWords_joinOtherLetters_55 (d : Nat) (Q : Int → AH → Prop) (p1 : Int) (v2 : Int) (v3 : Int) (v4 : Int) (v6 : Int) (h : AH) : Prop := AW d M_NewWords_joinOtherLetters Q 55 [some (vR 8 (-1)), some (vI p1), some (vI v2), some (vI v3), some (vL v4), none, some (vI v6)] [] h
theorem s_NewWords_joinOtherLetters_2 {d : Nat} {Q : Int → AH → Prop} {p1 : Int} {v2 : Int} {h : AH} (hy : inb p1 40 ∧ (((h.1 15 p1) ≤ v2 → Q 0 h) ∧ (v2 < (h.1 15 p1) → (inI ((h.1 15 p1) - 1) ∧ (inI (((h.1 15 p1) - 1) - v2) ∧ (inI (5 * (((h.1 15 p1) - 1) - v2)) ∧ A_NewWords_joinOtherLetters_55 d Q p1 v2 (5 * (((h.1 15 p1) - 1) - v2)) (land (h.2.1 16 p1) (lxor (lshl 31 (5 * (((h.1 15 p1) - 1) - v2))) (-1))) 0 h)))))) : A_NewWords_joinOtherLetters_2 d Q p1 v2 h := by
  show AW d M_NewWords_joinOtherLetters Q 2 [some (vR 8 (-1)), some (vI p1), some (vI v2), none, none, none, none] [] h
  refine a_iload_n dX2_joinOtherLetters_2 rfl ?_
  refine a_aload_n dX2_joinOtherLetters_3 rfl ?_
  refine a_getR dX2_joinOtherLetters_4 fl_NewWords_30 sk_8 rfl ?_
  refine a_getR dX2_joinOtherLetters_7 fl_NewWords_85 sk_2 rfl ?_
  refine a_iload_n dX2_joinOtherLetters_10 rfl ?_
  obtain ⟨c1, hy⟩ := hy
  refine a_iald' dX2_joinOtherLetters_11 sk_15 c1 (rfl) ?_
  refine a_icmp_ge (tgt := 87) dX2_joinOtherLetters_12 (by decide) (fun c => ?_) (fun c => ?_)
  · have hy := hy.1 c
    exact a_vret dX2_joinOtherLetters_87 rfl hy
  · have hy := hy.2 (Int.not_le.mp c)
    refine a_iconst (x := 5) dX2_joinOtherLetters_15 rfl ⟨by decide, by decide⟩ ?_
    refine a_aload_n dX2_joinOtherLetters_16 rfl ?_
    refine a_getR dX2_joinOtherLetters_17 fl_NewWords_30 sk_8 rfl ?_
    refine a_getR dX2_joinOtherLetters_20 fl_NewWords_85 sk_2 rfl ?_
    refine a_iload_n dX2_joinOtherLetters_23 rfl ?_
    refine a_iald' dX2_joinOtherLetters_24 sk_15 c1 (rfl) ?_
    refine a_iconst (x := 1) dX2_joinOtherLetters_25 rfl ⟨by decide, by decide⟩ ?_
    obtain ⟨c2, hy⟩ := hy
    refine a_isub dX2_joinOtherLetters_26 c2 ?_
    refine a_iload_n dX2_joinOtherLetters_27 rfl ?_
    obtain ⟨c3, hy⟩ := hy
    refine a_isub dX2_joinOtherLetters_28 c3 ?_
    obtain ⟨c4, hy⟩ := hy
    refine a_imul dX2_joinOtherLetters_29 c4 ?_
    refine a_istore_n (i := 3) (ls2 := [some (vR 8 (-1)), some (vI p1), some (vI v2), some (vI (5 * (((h.1 15 p1) - 1) - v2))), none, none, none]) dX2_joinOtherLetters_30 rfl (Nat.le_of_ble_eq_true rfl) rfl ?_
    refine a_aload_n dX2_joinOtherLetters_31 rfl ?_
    refine a_getR dX2_joinOtherLetters_32 fl_NewWords_30 sk_8 rfl ?_
    refine a_getR dX2_joinOtherLetters_35 fl_NewWords_88 sk_2 rfl ?_
    refine a_iload_n dX2_joinOtherLetters_38 rfl ?_
    refine a_lald' dX2_joinOtherLetters_39 sk_16 c1 (rfl) ?_
    refine a_ldc2 (x := 31) dX2_joinOtherLetters_40 kc_NewWords_89 ⟨by decide, by decide⟩ ?_
    refine a_iload_n dX2_joinOtherLetters_43 rfl ?_
    refine a_lshl dX2_joinOtherLetters_44 ?_
    refine a_ldc2 (x := (-1)) dX2_joinOtherLetters_45 kc_NewWords_91 ⟨by decide, by decide⟩ ?_
    refine a_lxor dX2_joinOtherLetters_48 ?_
    refine a_land dX2_joinOtherLetters_49 ?_
    refine a_lstore (ls2 := [some (vR 8 (-1)), some (vI p1), some (vI v2), some (vI (5 * (((h.1 15 p1) - 1) - v2))), some (vL (land (h.2.1 16 p1) (lxor (lshl 31 (5 * (((h.1 15 p1) - 1) - v2))) (-1)))), none, none]) dX2_joinOtherLetters_50 (Nat.le_of_ble_eq_true rfl) rfl ?_
    refine a_iconst (x := 0) dX2_joinOtherLetters_52 rfl ⟨by decide, by decide⟩ ?_
    refine a_istore (ls2 := [some (vR 8 (-1)), some (vI p1), some (vI v2), some (vI (5 * (((h.1 15 p1) - 1) - v2))), some (vL (land (h.2.1 16 p1) (lxor (lshl 31 (5 * (((h.1 15 p1) - 1) - v2))) (-1)))), none, some (vI 0)]) dX2_joinOtherLetters_53 (Nat.le_of_ble_eq_true rfl) rfl ?_
    exact hy
theorem s_NewWords_joinOtherLetters_55 {d : Nat} {Q : Int → AH → Prop} {p1 : Int} {v2 : Int} {v3 : Int} {v4 : Int} {v6 : Int} {h : AH} (hy : ((26 ≤ v6 → (inI (v2 + 1) ∧ A_NewWords_joinOtherLetters_2 d Q p1 (v2 + 1) h)) ∧ (v6 < 26 → (Call d M_NewWords_join [vR 8 (-1), vL (lor v4 (lshl v6 v3)), vI p1] h (fun _ h2 => inI (v6 + 1) ∧ A_NewWords_joinOtherLetters_55 d Q p1 v2 v3 v4 (v6 + 1) h2))))) : A_NewWords_joinOtherLetters_55 d Q p1 v2 v3 v4 v6 h := by
  show AW d M_NewWords_joinOtherLetters Q 55 [some (vR 8 (-1)), some (vI p1), some (vI v2), some (vI v3), some (vL v4), none, some (vI v6)] [] h
  refine a_iload dX2_joinOtherLetters_55 rfl ?_
  refine a_bipush (x := 26) dX2_joinOtherLetters_57 (by decide) ⟨by decide, by decide⟩ ?_
  refine a_icmp_ge (tgt := 81) dX2_joinOtherLetters_59 (by decide) (fun c => ?_) (fun c => ?_)
  · have hy := hy.1 c
    obtain ⟨c1, hy⟩ := hy
    refine a_iinc (y := v2 + 1) (ls2 := [some (vR 8 (-1)), some (vI p1), some (vI (v2 + 1)), some (vI v3), some (vL v4), none, some (vI v6)]) dX2_joinOtherLetters_81 rfl rfl c1 rfl ?_
    refine a_goto (tgt := 2) dX2_joinOtherLetters_84 (by decide) ?_
    refine a_mask [true, true, true, false, false, true, false] (ls2 := [some (vR 8 (-1)), some (vI p1), some (vI (v2 + 1)), none, none, none, none]) rfl rfl ?_
    exact hy
  · have hy := hy.2 (Int.not_le.mp c)
    refine a_aload_n dX2_joinOtherLetters_62 rfl ?_
    refine a_lload dX2_joinOtherLetters_63 rfl ?_
    refine a_iload dX2_joinOtherLetters_65 rfl ?_
    refine a_i2l dX2_joinOtherLetters_67 ?_
    refine a_iload_n dX2_joinOtherLetters_68 rfl ?_
    refine a_lshl dX2_joinOtherLetters_69 ?_
    refine a_lor dX2_joinOtherLetters_70 ?_
    refine a_iload_n dX2_joinOtherLetters_71 rfl ?_
    refine a_callVv (as := [vL (lor v4 (lshl v6 v3)), vI p1]) (st := []) dX2_joinOtherLetters_72 lk_NewWords_93 sk_8 rfl rfl (Nat.le_of_ble_eq_true rfl) rfl (Call.mono hy (fun _ h2 _ hy => ?_))
    obtain ⟨c3, hy⟩ := hy
    refine a_iinc (y := v6 + 1) (ls2 := [some (vR 8 (-1)), some (vI p1), some (vI v2), some (vI v3), some (vL v4), none, some (vI (v6 + 1))]) dX2_joinOtherLetters_75 rfl rfl c3 rfl ?_
    refine a_goto (tgt := 55) dX2_joinOtherLetters_78 (by decide) ?_
    exact hy
theorem c_NewWords_joinOtherLetters {d : Nat} (d0 : Nat) (hd : d0 < d) {p1 : Int} {h : AH} {Q : Int → AH → Prop} (hy : A_NewWords_joinOtherLetters_2 d0 Q p1 0 h) : Call d M_NewWords_joinOtherLetters [vR 8 (-1), vI p1] h Q := by
  refine ⟨d0, hd, Big.of rfl (Nat.le_of_ble_eq_true rfl) ?_⟩
  show AW d0 M_NewWords_joinOtherLetters Q 0 [some (vR 8 (-1)), some (vI p1), none, none, none, none, none] [] h
  refine a_iconst (x := 0) dX2_joinOtherLetters_0 rfl ⟨by decide, by decide⟩ ?_
  refine a_istore_n (i := 2) (ls2 := [some (vR 8 (-1)), some (vI p1), some (vI 0), none, none, none, none]) dX2_joinOtherLetters_1 rfl (Nat.le_of_ble_eq_true rfl) rfl ?_
  exact hy
def A_NewWords_joinPutIn_19 (d : Nat) (Q : Int → AH → Prop) (p1 : Int) (v2 : Int) (v3 : Int) (h : AH) : Prop := AW d M_NewWords_joinPutIn Q 19 [some (vR 8 (-1)), some (vI p1), some (vI v2), some (vI v3), none, none, none, none, none, none, none, none] [] h
def A_NewWords_joinPutIn_58 (d : Nat) (Q : Int → AH → Prop) (p1 : Int) (v2 : Int) (v3 : Int) (v4 : Int) (v5 : Int) (v7 : Int) (v9 : Int) (h : AH) : Prop := AW d M_NewWords_joinPutIn Q 58 [some (vR 8 (-1)), some (vI p1), some (vI v2), some (vI v3), some (vI v4), some (vL v5), none, some (vL v7), none, some (vI v9), none, none] [] h
theorem s_NewWords_joinPutIn_19 {d : Nat} {Q : Int → AH → Prop} {p1 : Int} {v2 : Int} {v3 : Int} {h : AH} (hy : ((v2 < v3 → Q 0 h) ∧ (v3 ≤ v2 → (inI (v2 - v3) ∧ (inI (5 * (v2 - v3)) ∧ (Call d M_NewWords_lettersOf [vR 8 (-1), vI p1] h (fun r4 h3 => Call d M_NewWords_lettersOf [vR 8 (-1), vI p1] h3 (fun r6 h5 => A_NewWords_joinPutIn_58 d Q p1 v2 v3 (5 * (v2 - v3)) (land r4 (w64 ((lshl 1 (5 * (v2 - v3))) - 1))) (lushr r6 (5 * (v2 - v3))) 0 h5)))))))) : A_NewWords_joinPutIn_19 d Q p1 v2 v3 h := by
  show AW d M_NewWords_joinPutIn Q 19 [some (vR 8 (-1)), some (vI p1), some (vI v2), some (vI v3), none, none, none, none, none, none, none, none] [] h
  refine a_iload_n dX2_joinPutIn_19 rfl ?_
  refine a_iload_n dX2_joinPutIn_20 rfl ?_
  refine a_icmp_gt (tgt := 106) dX2_joinPutIn_21 (by decide) (fun c => ?_) (fun c => ?_)
  · have hy := hy.1 c
    exact a_vret dX2_joinPutIn_106 rfl hy
  · have hy := hy.2 (Int.not_lt.mp c)
    refine a_iconst (x := 5) dX2_joinPutIn_24 rfl ⟨by decide, by decide⟩ ?_
    refine a_iload_n dX2_joinPutIn_25 rfl ?_
    refine a_iload_n dX2_joinPutIn_26 rfl ?_
    obtain ⟨c1, hy⟩ := hy
    refine a_isub dX2_joinPutIn_27 c1 ?_
    obtain ⟨c2, hy⟩ := hy
    refine a_imul dX2_joinPutIn_28 c2 ?_
    refine a_istore (ls2 := [some (vR 8 (-1)), some (vI p1), some (vI v2), some (vI v3), some (vI (5 * (v2 - v3))), none, none, none, none, none, none, none]) dX2_joinPutIn_29 (Nat.le_of_ble_eq_true rfl) rfl ?_
    refine a_aload_n dX2_joinPutIn_31 rfl ?_
    refine a_iload_n dX2_joinPutIn_32 rfl ?_
    refine a_callVl (as := [vI p1]) (st := []) dX2_joinPutIn_33 lk_NewWords_97 sk_8 rfl rfl (Nat.le_of_ble_eq_true rfl) rfl (Call.mono hy (fun r4 h3 _ hy => ?_))
    refine a_lconst (x := 1) dX2_joinPutIn_36 rfl ⟨by decide, by decide⟩ ?_
    refine a_iload dX2_joinPutIn_37 rfl ?_
    refine a_lshl dX2_joinPutIn_39 ?_
    refine a_lconst (x := 1) dX2_joinPutIn_40 rfl ⟨by decide, by decide⟩ ?_
    refine a_lsubW dX2_joinPutIn_41 ?_
    refine a_land dX2_joinPutIn_42 ?_
    refine a_lstore (ls2 := [some (vR 8 (-1)), some (vI p1), some (vI v2), some (vI v3), some (vI (5 * (v2 - v3))), some (vL (land r4 (w64 ((lshl 1 (5 * (v2 - v3))) - 1)))), none, none, none, none, none, none]) dX2_joinPutIn_43 (Nat.le_of_ble_eq_true rfl) rfl ?_
    refine a_aload_n dX2_joinPutIn_45 rfl ?_
    refine a_iload_n dX2_joinPutIn_46 rfl ?_
    refine a_callVl (as := [vI p1]) (st := []) dX2_joinPutIn_47 lk_NewWords_97 sk_8 rfl rfl (Nat.le_of_ble_eq_true rfl) rfl (Call.mono hy (fun r6 h5 _ hy => ?_))
    refine a_iload dX2_joinPutIn_50 rfl ?_
    refine a_lushr dX2_joinPutIn_52 ?_
    refine a_lstore (ls2 := [some (vR 8 (-1)), some (vI p1), some (vI v2), some (vI v3), some (vI (5 * (v2 - v3))), some (vL (land r4 (w64 ((lshl 1 (5 * (v2 - v3))) - 1)))), none, some (vL (lushr r6 (5 * (v2 - v3)))), none, none, none, none]) dX2_joinPutIn_53 (Nat.le_of_ble_eq_true rfl) rfl ?_
    refine a_iconst (x := 0) dX2_joinPutIn_55 rfl ⟨by decide, by decide⟩ ?_
    refine a_istore (ls2 := [some (vR 8 (-1)), some (vI p1), some (vI v2), some (vI v3), some (vI (5 * (v2 - v3))), some (vL (land r4 (w64 ((lshl 1 (5 * (v2 - v3))) - 1)))), none, some (vL (lushr r6 (5 * (v2 - v3)))), none, some (vI 0), none, none]) dX2_joinPutIn_56 (Nat.le_of_ble_eq_true rfl) rfl ?_
    exact hy
theorem s_NewWords_joinPutIn_58 {d : Nat} {Q : Int → AH → Prop} {p1 : Int} {v2 : Int} {v3 : Int} {v4 : Int} {v5 : Int} {v7 : Int} {v9 : Int} {h : AH} (hy : ((26 ≤ v9 → (inI (v3 + 1) ∧ A_NewWords_joinPutIn_19 d Q p1 v2 (v3 + 1) h)) ∧ (v9 < 26 → (inI (v2 + 1) ∧ (Call d M_Words_keyOf [vL (lor (lshl (lor (lshl v7 5) v9) v4) v5), vI (v2 + 1)] h (fun r4 h3 => Call d M_NewWords_join [vR 8 (-1), vL r4, vI p1] h3 (fun _ h5 => inI (v9 + 1) ∧ A_NewWords_joinPutIn_58 d Q p1 v2 v3 v4 v5 v7 (v9 + 1) h5))))))) : A_NewWords_joinPutIn_58 d Q p1 v2 v3 v4 v5 v7 v9 h := by
  show AW d M_NewWords_joinPutIn Q 58 [some (vR 8 (-1)), some (vI p1), some (vI v2), some (vI v3), some (vI v4), some (vL v5), none, some (vL v7), none, some (vI v9), none, none] [] h
  refine a_iload dX2_joinPutIn_58 rfl ?_
  refine a_bipush (x := 26) dX2_joinPutIn_60 (by decide) ⟨by decide, by decide⟩ ?_
  refine a_icmp_ge (tgt := 100) dX2_joinPutIn_62 (by decide) (fun c => ?_) (fun c => ?_)
  · have hy := hy.1 c
    obtain ⟨c1, hy⟩ := hy
    refine a_iinc (y := v3 + 1) (ls2 := [some (vR 8 (-1)), some (vI p1), some (vI v2), some (vI (v3 + 1)), some (vI v4), some (vL v5), none, some (vL v7), none, some (vI v9), none, none]) dX2_joinPutIn_100 rfl rfl c1 rfl ?_
    refine a_goto (tgt := 19) dX2_joinPutIn_103 (by decide) ?_
    refine a_mask [true, true, true, true, false, false, true, false, true, false, true, true] (ls2 := [some (vR 8 (-1)), some (vI p1), some (vI v2), some (vI (v3 + 1)), none, none, none, none, none, none, none, none]) rfl rfl ?_
    exact hy
  · have hy := hy.2 (Int.not_le.mp c)
    refine a_lload dX2_joinPutIn_65 rfl ?_
    refine a_iconst (x := 5) dX2_joinPutIn_67 rfl ⟨by decide, by decide⟩ ?_
    refine a_lshl dX2_joinPutIn_68 ?_
    refine a_iload dX2_joinPutIn_69 rfl ?_
    refine a_i2l dX2_joinPutIn_71 ?_
    refine a_lor dX2_joinPutIn_72 ?_
    refine a_iload dX2_joinPutIn_73 rfl ?_
    refine a_lshl dX2_joinPutIn_75 ?_
    refine a_lload dX2_joinPutIn_76 rfl ?_
    refine a_lor dX2_joinPutIn_78 ?_
    refine a_lstore (ls2 := [some (vR 8 (-1)), some (vI p1), some (vI v2), some (vI v3), some (vI v4), some (vL v5), none, some (vL v7), none, some (vI v9), some (vL (lor (lshl (lor (lshl v7 5) v9) v4) v5)), none]) dX2_joinPutIn_79 (Nat.le_of_ble_eq_true rfl) rfl ?_
    refine a_aload_n dX2_joinPutIn_81 rfl ?_
    refine a_lload dX2_joinPutIn_82 rfl ?_
    refine a_iload_n dX2_joinPutIn_84 rfl ?_
    refine a_iconst (x := 1) dX2_joinPutIn_85 rfl ⟨by decide, by decide⟩ ?_
    obtain ⟨c2, hy⟩ := hy
    refine a_iadd dX2_joinPutIn_86 c2 ?_
    refine a_callSl (as := [vL (lor (lshl (lor (lshl v7 5) v9) v4) v5), vI (v2 + 1)]) (st := [vR 8 (-1)]) dX2_joinPutIn_87 lk_NewWords_101 rfl rfl (Nat.le_of_ble_eq_true rfl) rfl (Call.mono hy (fun r4 h3 _ hy => ?_))
    refine a_iload_n dX2_joinPutIn_90 rfl ?_
    refine a_callVv (as := [vL r4, vI p1]) (st := []) dX2_joinPutIn_91 lk_NewWords_93 sk_8 rfl rfl (Nat.le_of_ble_eq_true rfl) rfl (Call.mono hy (fun _ h5 _ hy => ?_))
    obtain ⟨c6, hy⟩ := hy
    refine a_iinc (y := v9 + 1) (ls2 := [some (vR 8 (-1)), some (vI p1), some (vI v2), some (vI v3), some (vI v4), some (vL v5), none, some (vL v7), none, some (vI (v9 + 1)), some (vL (lor (lshl (lor (lshl v7 5) v9) v4) v5)), none]) dX2_joinPutIn_94 rfl rfl c6 rfl ?_
    refine a_goto (tgt := 58) dX2_joinPutIn_97 (by decide) ?_
    refine a_mask [true, true, true, true, true, true, true, true, true, true, false, true] (ls2 := [some (vR 8 (-1)), some (vI p1), some (vI v2), some (vI v3), some (vI v4), some (vL v5), none, some (vL v7), none, some (vI (v9 + 1)), none, none]) rfl rfl ?_
    exact hy
theorem c_NewWords_joinPutIn {d : Nat} (d0 : Nat) (hd : d0 < d) {p1 : Int} {h : AH} {Q : Int → AH → Prop} (hy : inb p1 40 ∧ (((h.1 15 p1) < 8 → A_NewWords_joinPutIn_19 d0 Q p1 (h.1 15 p1) 0 h) ∧ (8 ≤ (h.1 15 p1) → Q 0 h))) : Call d M_NewWords_joinPutIn [vR 8 (-1), vI p1] h Q := by
  refine ⟨d0, hd, Big.of rfl (Nat.le_of_ble_eq_true rfl) ?_⟩
  show AW d0 M_NewWords_joinPutIn Q 0 [some (vR 8 (-1)), some (vI p1), none, none, none, none, none, none, none, none, none, none] [] h
  refine a_aload_n dX2_joinPutIn_0 rfl ?_
  refine a_getR dX2_joinPutIn_1 fl_NewWords_30 sk_8 rfl ?_
  refine a_getR dX2_joinPutIn_4 fl_NewWords_85 sk_2 rfl ?_
  refine a_iload_n dX2_joinPutIn_7 rfl ?_
  obtain ⟨c1, hy⟩ := hy
  refine a_iald' dX2_joinPutIn_8 sk_15 c1 (rfl) ?_
  refine a_istore_n (i := 2) (ls2 := [some (vR 8 (-1)), some (vI p1), some (vI (h.1 15 p1)), none, none, none, none, none, none, none, none, none]) dX2_joinPutIn_9 rfl (Nat.le_of_ble_eq_true rfl) rfl ?_
  refine a_iload_n dX2_joinPutIn_10 rfl ?_
  refine a_bipush (x := 8) dX2_joinPutIn_11 (by decide) ⟨by decide, by decide⟩ ?_
  refine a_icmp_lt (tgt := 17) dX2_joinPutIn_13 (by decide) (fun c => ?_) (fun c => ?_)
  · have hy := hy.1 c
    refine a_iconst (x := 0) dX2_joinPutIn_17 rfl ⟨by decide, by decide⟩ ?_
    refine a_istore_n (i := 3) (ls2 := [some (vR 8 (-1)), some (vI p1), some (vI (h.1 15 p1)), some (vI 0), none, none, none, none, none, none, none, none]) dX2_joinPutIn_18 rfl (Nat.le_of_ble_eq_true rfl) rfl ?_
    exact hy
  · have hy := hy.2 (Int.not_lt.mp c)
    exact a_vret dX2_joinPutIn_16 rfl hy
def A_NewWords_joinShorterAndChangedAbout_12 (d : Nat) (Q : Int → AH → Prop) (p1 : Int) (v2 : Int) (v3 : Int) (h : AH) : Prop := AW d M_NewWords_joinShorterAndChangedAbout Q 12 [some (vR 8 (-1)), some (vI p1), some (vI v2), some (vI v3), none, none, none, none, none, none, none] [] h
def A_NewWords_joinShorterAndChangedAbout_76 (d : Nat) (Q : Int → AH → Prop) (p1 : Int) (v2 : Int) (v3 : Int) (v4 : Int) (h : AH) : Prop := AW d M_NewWords_joinShorterAndChangedAbout Q 76 [some (vR 8 (-1)), some (vI p1), some (vI v2), some (vI v3), some (vI v4), none, none, none, none, none, none] [] h
theorem s_NewWords_joinShorterAndChangedAbout_12 {d : Nat} {Q : Int → AH → Prop} {p1 : Int} {v2 : Int} {v3 : Int} {h : AH} (hy : ((v2 ≤ v3 → Q 0 h) ∧ (v3 < v2 → (inI (v2 - 1) ∧ (inI ((v2 - 1) - v3) ∧ (inI (5 * ((v2 - 1) - v3)) ∧ (Call d M_NewWords_lettersOf [vR 8 (-1), vI p1] h (fun r5 h4 => Call d M_NewWords_lettersOf [vR 8 (-1), vI p1] h4 (fun r7 h6 => inI ((5 * ((v2 - 1) - v3)) + 5) ∧ ((v2 ≤ 1 → A_NewWords_joinShorterAndChangedAbout_76 d Q p1 v2 v3 (5 * ((v2 - 1) - v3)) h6) ∧ (1 < v2 → (Call d M_Words_keyOf [vL (lor (lshl (lushr r7 ((5 * ((v2 - 1) - v3)) + 5)) (5 * ((v2 - 1) - v3))) (land r5 (w64 ((lshl 1 (5 * ((v2 - 1) - v3))) - 1)))), vI (v2 - 1)] h6 (fun r10 h9 => Call d M_NewWords_join [vR 8 (-1), vL r10, vI p1] h9 (fun _ h11 => A_NewWords_joinShorterAndChangedAbout_76 d Q p1 v2 v3 (5 * ((v2 - 1) - v3)) h11)))))))))))))) : A_NewWords_joinShorterAndChangedAbout_12 d Q p1 v2 v3 h := by
  show AW d M_NewWords_joinShorterAndChangedAbout Q 12 [some (vR 8 (-1)), some (vI p1), some (vI v2), some (vI v3), none, none, none, none, none, none, none] [] h
  refine a_iload_n dX2_joinShorterAndChangedAbout_12 rfl ?_
  refine a_iload_n dX2_joinShorterAndChangedAbout_13 rfl ?_
  refine a_icmp_ge (tgt := 142) dX2_joinShorterAndChangedAbout_14 (by decide) (fun c => ?_) (fun c => ?_)
  · have hy := hy.1 c
    exact a_vret dX2_joinShorterAndChangedAbout_142 rfl hy
  · have hy := hy.2 (Int.not_le.mp c)
    refine a_iconst (x := 5) dX2_joinShorterAndChangedAbout_17 rfl ⟨by decide, by decide⟩ ?_
    refine a_iload_n dX2_joinShorterAndChangedAbout_18 rfl ?_
    refine a_iconst (x := 1) dX2_joinShorterAndChangedAbout_19 rfl ⟨by decide, by decide⟩ ?_
    obtain ⟨c1, hy⟩ := hy
    refine a_isub dX2_joinShorterAndChangedAbout_20 c1 ?_
    refine a_iload_n dX2_joinShorterAndChangedAbout_21 rfl ?_
    obtain ⟨c2, hy⟩ := hy
    refine a_isub dX2_joinShorterAndChangedAbout_22 c2 ?_
    obtain ⟨c3, hy⟩ := hy
    refine a_imul dX2_joinShorterAndChangedAbout_23 c3 ?_
    refine a_istore (ls2 := [some (vR 8 (-1)), some (vI p1), some (vI v2), some (vI v3), some (vI (5 * ((v2 - 1) - v3))), none, none, none, none, none, none]) dX2_joinShorterAndChangedAbout_24 (Nat.le_of_ble_eq_true rfl) rfl ?_
    refine a_aload_n dX2_joinShorterAndChangedAbout_26 rfl ?_
    refine a_iload_n dX2_joinShorterAndChangedAbout_27 rfl ?_
    refine a_callVl (as := [vI p1]) (st := []) dX2_joinShorterAndChangedAbout_28 lk_NewWords_97 sk_8 rfl rfl (Nat.le_of_ble_eq_true rfl) rfl (Call.mono hy (fun r5 h4 _ hy => ?_))
    refine a_lconst (x := 1) dX2_joinShorterAndChangedAbout_31 rfl ⟨by decide, by decide⟩ ?_
    refine a_iload dX2_joinShorterAndChangedAbout_32 rfl ?_
    refine a_lshl dX2_joinShorterAndChangedAbout_34 ?_
    refine a_lconst (x := 1) dX2_joinShorterAndChangedAbout_35 rfl ⟨by decide, by decide⟩ ?_
    refine a_lsubW dX2_joinShorterAndChangedAbout_36 ?_
    refine a_land dX2_joinShorterAndChangedAbout_37 ?_
    refine a_lstore (ls2 := [some (vR 8 (-1)), some (vI p1), some (vI v2), some (vI v3), some (vI (5 * ((v2 - 1) - v3))), some (vL (land r5 (w64 ((lshl 1 (5 * ((v2 - 1) - v3))) - 1)))), none, none, none, none, none]) dX2_joinShorterAndChangedAbout_38 (Nat.le_of_ble_eq_true rfl) rfl ?_
    refine a_aload_n dX2_joinShorterAndChangedAbout_40 rfl ?_
    refine a_iload_n dX2_joinShorterAndChangedAbout_41 rfl ?_
    refine a_callVl (as := [vI p1]) (st := []) dX2_joinShorterAndChangedAbout_42 lk_NewWords_97 sk_8 rfl rfl (Nat.le_of_ble_eq_true rfl) rfl (Call.mono hy (fun r7 h6 _ hy => ?_))
    refine a_iload dX2_joinShorterAndChangedAbout_45 rfl ?_
    refine a_iconst (x := 5) dX2_joinShorterAndChangedAbout_47 rfl ⟨by decide, by decide⟩ ?_
    obtain ⟨c8, hy⟩ := hy
    refine a_iadd dX2_joinShorterAndChangedAbout_48 c8 ?_
    refine a_lushr dX2_joinShorterAndChangedAbout_49 ?_
    refine a_lstore (ls2 := [some (vR 8 (-1)), some (vI p1), some (vI v2), some (vI v3), some (vI (5 * ((v2 - 1) - v3))), some (vL (land r5 (w64 ((lshl 1 (5 * ((v2 - 1) - v3))) - 1)))), none, some (vL (lushr r7 ((5 * ((v2 - 1) - v3)) + 5))), none, none, none]) dX2_joinShorterAndChangedAbout_50 (Nat.le_of_ble_eq_true rfl) rfl ?_
    refine a_iload_n dX2_joinShorterAndChangedAbout_52 rfl ?_
    refine a_iconst (x := 1) dX2_joinShorterAndChangedAbout_53 rfl ⟨by decide, by decide⟩ ?_
    refine a_icmp_le (tgt := 76) dX2_joinShorterAndChangedAbout_54 (by decide) (fun c => ?_) (fun c => ?_)
    · have hy := hy.1 c
      refine a_mask [true, true, true, true, true, false, true, false, true, true, true] (ls2 := [some (vR 8 (-1)), some (vI p1), some (vI v2), some (vI v3), some (vI (5 * ((v2 - 1) - v3))), none, none, none, none, none, none]) rfl rfl ?_
      exact hy
    · have hy := hy.2 (Int.not_le.mp c)
      refine a_aload_n dX2_joinShorterAndChangedAbout_57 rfl ?_
      refine a_lload dX2_joinShorterAndChangedAbout_58 rfl ?_
      refine a_iload dX2_joinShorterAndChangedAbout_60 rfl ?_
      refine a_lshl dX2_joinShorterAndChangedAbout_62 ?_
      refine a_lload dX2_joinShorterAndChangedAbout_63 rfl ?_
      refine a_lor dX2_joinShorterAndChangedAbout_65 ?_
      refine a_iload_n dX2_joinShorterAndChangedAbout_66 rfl ?_
      refine a_iconst (x := 1) dX2_joinShorterAndChangedAbout_67 rfl ⟨by decide, by decide⟩ ?_
      refine a_isub dX2_joinShorterAndChangedAbout_68 c1 ?_
      refine a_callSl (as := [vL (lor (lshl (lushr r7 ((5 * ((v2 - 1) - v3)) + 5)) (5 * ((v2 - 1) - v3))) (land r5 (w64 ((lshl 1 (5 * ((v2 - 1) - v3))) - 1)))), vI (v2 - 1)]) (st := [vR 8 (-1)]) dX2_joinShorterAndChangedAbout_69 lk_NewWords_101 rfl rfl (Nat.le_of_ble_eq_true rfl) rfl (Call.mono hy (fun r10 h9 _ hy => ?_))
      refine a_iload_n dX2_joinShorterAndChangedAbout_72 rfl ?_
      refine a_callVv (as := [vL r10, vI p1]) (st := []) dX2_joinShorterAndChangedAbout_73 lk_NewWords_93 sk_8 rfl rfl (Nat.le_of_ble_eq_true rfl) rfl (Call.mono hy (fun _ h11 _ hy => ?_))
      refine a_mask [true, true, true, true, true, false, true, false, true, true, true] (ls2 := [some (vR 8 (-1)), some (vI p1), some (vI v2), some (vI v3), some (vI (5 * ((v2 - 1) - v3))), none, none, none, none, none, none]) rfl rfl ?_
      exact hy
theorem s_NewWords_joinShorterAndChangedAbout_76 {d : Nat} {Q : Int → AH → Prop} {p1 : Int} {v2 : Int} {v3 : Int} {v4 : Int} {h : AH} (hy : inI (v3 + 1) ∧ ((v2 ≤ (v3 + 1) → A_NewWords_joinShorterAndChangedAbout_12 d Q p1 v2 (v3 + 1) h) ∧ ((v3 + 1) < v2 → (Call d M_NewWords_lettersOf [vR 8 (-1), vI p1] h (fun r3 h2 => Call d M_NewWords_lettersOf [vR 8 (-1), vI p1] h2 (fun r5 h4 => inI (v4 - 5) ∧ (inb p1 40 ∧ (Call d M_NewWords_join [vR 8 (-1), vL (lxor (lxor (h4.2.1 16 p1) (lshl (land (lxor (lushr r3 v4) (lushr r5 (v4 - 5))) 31) v4)) (lshl (land (lxor (lushr r3 v4) (lushr r5 (v4 - 5))) 31) (v4 - 5))), vI p1] h4 (fun _ h8 => A_NewWords_joinShorterAndChangedAbout_12 d Q p1 v2 (v3 + 1) h8))))))))) : A_NewWords_joinShorterAndChangedAbout_76 d Q p1 v2 v3 v4 h := by
  show AW d M_NewWords_joinShorterAndChangedAbout Q 76 [some (vR 8 (-1)), some (vI p1), some (vI v2), some (vI v3), some (vI v4), none, none, none, none, none, none] [] h
  refine a_iload_n dX2_joinShorterAndChangedAbout_76 rfl ?_
  refine a_iconst (x := 1) dX2_joinShorterAndChangedAbout_77 rfl ⟨by decide, by decide⟩ ?_
  obtain ⟨c1, hy⟩ := hy
  refine a_iadd dX2_joinShorterAndChangedAbout_78 c1 ?_
  refine a_iload_n dX2_joinShorterAndChangedAbout_79 rfl ?_
  refine a_icmp_ge (tgt := 136) dX2_joinShorterAndChangedAbout_80 (by decide) (fun c => ?_) (fun c => ?_)
  · have hy := hy.1 c
    refine a_iinc (y := v3 + 1) (ls2 := [some (vR 8 (-1)), some (vI p1), some (vI v2), some (vI (v3 + 1)), some (vI v4), none, none, none, none, none, none]) dX2_joinShorterAndChangedAbout_136 rfl rfl c1 rfl ?_
    refine a_goto (tgt := 12) dX2_joinShorterAndChangedAbout_139 (by decide) ?_
    refine a_mask [true, true, true, true, false, true, true, true, true, true, true] (ls2 := [some (vR 8 (-1)), some (vI p1), some (vI v2), some (vI (v3 + 1)), none, none, none, none, none, none, none]) rfl rfl ?_
    exact hy
  · have hy := hy.2 (Int.not_le.mp c)
    refine a_aload_n dX2_joinShorterAndChangedAbout_83 rfl ?_
    refine a_iload_n dX2_joinShorterAndChangedAbout_84 rfl ?_
    refine a_callVl (as := [vI p1]) (st := []) dX2_joinShorterAndChangedAbout_85 lk_NewWords_97 sk_8 rfl rfl (Nat.le_of_ble_eq_true rfl) rfl (Call.mono hy (fun r3 h2 _ hy => ?_))
    refine a_iload dX2_joinShorterAndChangedAbout_88 rfl ?_
    refine a_lushr dX2_joinShorterAndChangedAbout_90 ?_
    refine a_aload_n dX2_joinShorterAndChangedAbout_91 rfl ?_
    refine a_iload_n dX2_joinShorterAndChangedAbout_92 rfl ?_
    refine a_callVl (as := [vI p1]) (st := [vL (lushr r3 v4)]) dX2_joinShorterAndChangedAbout_93 lk_NewWords_97 sk_8 rfl rfl (Nat.le_of_ble_eq_true rfl) rfl (Call.mono hy (fun r5 h4 _ hy => ?_))
    refine a_iload dX2_joinShorterAndChangedAbout_96 rfl ?_
    refine a_iconst (x := 5) dX2_joinShorterAndChangedAbout_98 rfl ⟨by decide, by decide⟩ ?_
    obtain ⟨c6, hy⟩ := hy
    refine a_isub dX2_joinShorterAndChangedAbout_99 c6 ?_
    refine a_lushr dX2_joinShorterAndChangedAbout_100 ?_
    refine a_lxor dX2_joinShorterAndChangedAbout_101 ?_
    refine a_ldc2 (x := 31) dX2_joinShorterAndChangedAbout_102 kc_NewWords_89 ⟨by decide, by decide⟩ ?_
    refine a_land dX2_joinShorterAndChangedAbout_105 ?_
    refine a_lstore (ls2 := [some (vR 8 (-1)), some (vI p1), some (vI v2), some (vI v3), some (vI v4), none, none, none, none, some (vL (land (lxor (lushr r3 v4) (lushr r5 (v4 - 5))) 31)), none]) dX2_joinShorterAndChangedAbout_106 (Nat.le_of_ble_eq_true rfl) rfl ?_
    refine a_aload_n dX2_joinShorterAndChangedAbout_108 rfl ?_
    refine a_aload_n dX2_joinShorterAndChangedAbout_109 rfl ?_
    refine a_getR dX2_joinShorterAndChangedAbout_110 fl_NewWords_30 sk_8 rfl ?_
    refine a_getR dX2_joinShorterAndChangedAbout_113 fl_NewWords_88 sk_2 rfl ?_
    refine a_iload_n dX2_joinShorterAndChangedAbout_116 rfl ?_
    obtain ⟨c7, hy⟩ := hy
    refine a_lald' dX2_joinShorterAndChangedAbout_117 sk_16 c7 (rfl) ?_
    refine a_lload dX2_joinShorterAndChangedAbout_118 rfl ?_
    refine a_iload dX2_joinShorterAndChangedAbout_120 rfl ?_
    refine a_lshl dX2_joinShorterAndChangedAbout_122 ?_
    refine a_lxor dX2_joinShorterAndChangedAbout_123 ?_
    refine a_lload dX2_joinShorterAndChangedAbout_124 rfl ?_
    refine a_iload dX2_joinShorterAndChangedAbout_126 rfl ?_
    refine a_iconst (x := 5) dX2_joinShorterAndChangedAbout_128 rfl ⟨by decide, by decide⟩ ?_
    refine a_isub dX2_joinShorterAndChangedAbout_129 c6 ?_
    refine a_lshl dX2_joinShorterAndChangedAbout_130 ?_
    refine a_lxor dX2_joinShorterAndChangedAbout_131 ?_
    refine a_iload_n dX2_joinShorterAndChangedAbout_132 rfl ?_
    refine a_callVv (as := [vL (lxor (lxor (h4.2.1 16 p1) (lshl (land (lxor (lushr r3 v4) (lushr r5 (v4 - 5))) 31) v4)) (lshl (land (lxor (lushr r3 v4) (lushr r5 (v4 - 5))) 31) (v4 - 5))), vI p1]) (st := []) dX2_joinShorterAndChangedAbout_133 lk_NewWords_93 sk_8 rfl rfl (Nat.le_of_ble_eq_true rfl) rfl (Call.mono hy (fun _ h8 _ hy => ?_))
    refine a_iinc (y := v3 + 1) (ls2 := [some (vR 8 (-1)), some (vI p1), some (vI v2), some (vI (v3 + 1)), some (vI v4), none, none, none, none, some (vL (land (lxor (lushr r3 v4) (lushr r5 (v4 - 5))) 31)), none]) dX2_joinShorterAndChangedAbout_136 rfl rfl c1 rfl ?_
    refine a_goto (tgt := 12) dX2_joinShorterAndChangedAbout_139 (by decide) ?_
    refine a_mask [true, true, true, true, false, true, true, true, true, false, true] (ls2 := [some (vR 8 (-1)), some (vI p1), some (vI v2), some (vI (v3 + 1)), none, none, none, none, none, none, none]) rfl rfl ?_
    exact hy
theorem c_NewWords_joinShorterAndChangedAbout {d : Nat} (d0 : Nat) (hd : d0 < d) {p1 : Int} {h : AH} {Q : Int → AH → Prop} (hy : inb p1 40 ∧ A_NewWords_joinShorterAndChangedAbout_12 d0 Q p1 (h.1 15 p1) 0 h) : Call d M_NewWords_joinShorterAndChangedAbout [vR 8 (-1), vI p1] h Q := by
  refine ⟨d0, hd, Big.of rfl (Nat.le_of_ble_eq_true rfl) ?_⟩
  show AW d0 M_NewWords_joinShorterAndChangedAbout Q 0 [some (vR 8 (-1)), some (vI p1), none, none, none, none, none, none, none, none, none] [] h
  refine a_aload_n dX2_joinShorterAndChangedAbout_0 rfl ?_
  refine a_getR dX2_joinShorterAndChangedAbout_1 fl_NewWords_30 sk_8 rfl ?_
  refine a_getR dX2_joinShorterAndChangedAbout_4 fl_NewWords_85 sk_2 rfl ?_
  refine a_iload_n dX2_joinShorterAndChangedAbout_7 rfl ?_
  obtain ⟨c1, hy⟩ := hy
  refine a_iald' dX2_joinShorterAndChangedAbout_8 sk_15 c1 (rfl) ?_
  refine a_istore_n (i := 2) (ls2 := [some (vR 8 (-1)), some (vI p1), some (vI (h.1 15 p1)), none, none, none, none, none, none, none, none]) dX2_joinShorterAndChangedAbout_9 rfl (Nat.le_of_ble_eq_true rfl) rfl ?_
  refine a_iconst (x := 0) dX2_joinShorterAndChangedAbout_10 rfl ⟨by decide, by decide⟩ ?_
  refine a_istore_n (i := 3) (ls2 := [some (vR 8 (-1)), some (vI p1), some (vI (h.1 15 p1)), some (vI 0), none, none, none, none, none, none, none]) dX2_joinShorterAndChangedAbout_11 rfl (Nat.le_of_ble_eq_true rfl) rfl ?_
  exact hy
theorem c_NewWords_letterAt {d : Nat} (d0 : Nat) (hd : d0 < d) {p1 : Int} {h : AH} {Q : Int → AH → Prop} (hy : Call d0 M_Words_lengthOfKey [vL (h.2.1 8 10)] h (fun r2 h1 => ((r2 ≤ p1 → Q (-1) h1) ∧ (p1 < r2 → (Call d0 M_Words_letterOfKey [vL (h1.2.1 8 10), vI p1] h1 (fun r4 h3 => Q r4 h3)))))) : Call d M_NewWords_letterAt [vR 8 (-1), vI p1] h Q := by
  refine ⟨d0, hd, Big.of rfl (Nat.le_of_ble_eq_true rfl) ?_⟩
  show AW d0 M_NewWords_letterAt Q 0 [some (vR 8 (-1)), some (vI p1)] [] h
  refine a_iload_n dX2_letterAt_0 rfl ?_
  refine a_aload_n dX2_letterAt_1 rfl ?_
  refine a_getL' (kz := 10) dX2_letterAt_2 fl_NewWords_73 sk_8 rfl rfl (rfl) ?_
  refine a_callSi (as := [vL (h.2.1 8 10)]) (st := [vI p1]) dX2_letterAt_5 lk_NewWords_77 rfl rfl (Nat.le_of_ble_eq_true rfl) (Or.inl rfl) (Call.mono hy (fun r2 h1 _ hy => ?_))
  refine a_icmp_ge (tgt := 22) dX2_letterAt_8 (by decide) (fun c => ?_) (fun c => ?_)
  · have hy := hy.1 c
    refine a_iconst (x := (-1)) dX2_letterAt_22 rfl ⟨by decide, by decide⟩ ?_
    exact a_iret dX2_letterAt_23 rfl hy
  · have hy := hy.2 (Int.not_le.mp c)
    refine a_aload_n dX2_letterAt_11 rfl ?_
    refine a_getL' (kz := 10) dX2_letterAt_12 fl_NewWords_73 sk_8 rfl rfl (rfl) ?_
    refine a_iload_n dX2_letterAt_15 rfl ?_
    refine a_callSi (as := [vL (h1.2.1 8 10), vI p1]) (st := []) dX2_letterAt_16 lk_NewWords_81 rfl rfl (Nat.le_of_ble_eq_true rfl) (Or.inl rfl) (Call.mono hy (fun r4 h3 _ hy => ?_))
    refine a_goto (tgt := 23) dX2_letterAt_19 (by decide) ?_
    exact a_iret dX2_letterAt_23 rfl hy
theorem c_NewWords_lettersOf {d : Nat} (d0 : Nat) (hd : d0 < d) {p1 : Int} {h : AH} {Q : Int → AH → Prop} (hy : inb p1 40 ∧ Q (land (h.2.1 16 p1) 1099511627775) h) : Call d M_NewWords_lettersOf [vR 8 (-1), vI p1] h Q := by
  refine ⟨d0, hd, Big.of rfl (Nat.le_of_ble_eq_true rfl) ?_⟩
  show AW d0 M_NewWords_lettersOf Q 0 [some (vR 8 (-1)), some (vI p1)] [] h
  refine a_aload_n dX2_lettersOf_0 rfl ?_
  refine a_getR dX2_lettersOf_1 fl_NewWords_30 sk_8 rfl ?_
  refine a_getR dX2_lettersOf_4 fl_NewWords_88 sk_2 rfl ?_
  refine a_iload_n dX2_lettersOf_7 rfl ?_
  obtain ⟨c1, hy⟩ := hy
  refine a_lald' dX2_lettersOf_8 sk_16 c1 (rfl) ?_
  refine a_ldc2 (x := 1099511627775) dX2_lettersOf_9 kc_NewWords_105 ⟨by decide, by decide⟩ ?_
  refine a_land dX2_lettersOf_12 ?_
  exact a_lret dX2_lettersOf_13 rfl hy
def A_NewWords_refresh_32 (d : Nat) (Q : Int → AH → Prop) (v1 : Int) (h : AH) : Prop := AW d M_NewWords_refresh Q 32 [some (vR 8 (-1)), some (vI v1)] [] h
theorem s_NewWords_refresh_32 {d : Nat} {Q : Int → AH → Prop} {v1 : Int} {h : AH} (hy : (((h.1 2 6) ≤ v1 → (Call d M_NewWords_findBest [vR 8 (-1)] h (fun _ h1 => Q 0 h1))) ∧ (v1 < (h.1 2 6) → (Call d M_Words_isUsed [vR 2 (-1), vI v1] h (fun r3 h2 => ((r3 = 0 → (inI (v1 + 1) ∧ A_NewWords_refresh_32 d Q (v1 + 1) h2)) ∧ (r3 ≠ 0 → (Call d M_NewWords_joinOtherLetters [vR 8 (-1), vI v1] h2 (fun _ h5 => Call d M_NewWords_joinPutIn [vR 8 (-1), vI v1] h5 (fun _ h6 => Call d M_NewWords_joinShorterAndChangedAbout [vR 8 (-1), vI v1] h6 (fun _ h7 => inI (v1 + 1) ∧ A_NewWords_refresh_32 d Q (v1 + 1) h7))))))))))) : A_NewWords_refresh_32 d Q v1 h := by
  show AW d M_NewWords_refresh Q 32 [some (vR 8 (-1)), some (vI v1)] [] h
  refine a_iload_n dX2_refresh_32 rfl ?_
  refine a_aload_n dX2_refresh_33 rfl ?_
  refine a_getR dX2_refresh_34 fl_NewWords_30 sk_8 rfl ?_
  refine a_getI' (kz := 6) dX2_refresh_37 fl_NewWords_48 sk_2 rfl rfl (rfl) ?_
  refine a_icmp_ge (tgt := 75) dX2_refresh_40 (by decide) (fun c => ?_) (fun c => ?_)
  · have hy := hy.1 c
    refine a_aload_n dX2_refresh_75 rfl ?_
    refine a_callVv (as := []) (st := []) dX2_refresh_76 lk_NewWords_67 sk_8 rfl rfl (Nat.le_of_ble_eq_true rfl) rfl (Call.mono hy (fun _ h1 _ hy => ?_))
    exact a_vret dX2_refresh_79 rfl hy
  · have hy := hy.2 (Int.not_le.mp c)
    refine a_aload_n dX2_refresh_43 rfl ?_
    refine a_getR dX2_refresh_44 fl_NewWords_30 sk_8 rfl ?_
    refine a_iload_n dX2_refresh_47 rfl ?_
    refine a_callVi (as := [vI v1]) (st := []) dX2_refresh_48 lk_NewWords_53 sk_2 rfl rfl (Nat.le_of_ble_eq_true rfl) (Or.inr rfl) (Call.mono hy (fun r3 h2 _ hy => ?_))
    refine a_if_eq (tgt := 69) dX2_refresh_51 (by decide) (fun c => ?_) (fun c => ?_)
    · have hy := hy.1 c
      obtain ⟨c4, hy⟩ := hy
      refine a_iinc (y := v1 + 1) (ls2 := [some (vR 8 (-1)), some (vI (v1 + 1))]) dX2_refresh_69 rfl rfl c4 rfl ?_
      refine a_goto (tgt := 32) dX2_refresh_72 (by decide) ?_
      exact hy
    · have hy := hy.2 (c)
      refine a_aload_n dX2_refresh_54 rfl ?_
      refine a_iload_n dX2_refresh_55 rfl ?_
      refine a_callVv (as := [vI v1]) (st := []) dX2_refresh_56 lk_NewWords_57 sk_8 rfl rfl (Nat.le_of_ble_eq_true rfl) rfl (Call.mono hy (fun _ h5 _ hy => ?_))
      refine a_aload_n dX2_refresh_59 rfl ?_
      refine a_iload_n dX2_refresh_60 rfl ?_
      refine a_callVv (as := [vI v1]) (st := []) dX2_refresh_61 lk_NewWords_61 sk_8 rfl rfl (Nat.le_of_ble_eq_true rfl) rfl (Call.mono hy (fun _ h6 _ hy => ?_))
      refine a_aload_n dX2_refresh_64 rfl ?_
      refine a_iload_n dX2_refresh_65 rfl ?_
      refine a_callVv (as := [vI v1]) (st := []) dX2_refresh_66 lk_NewWords_64 sk_8 rfl rfl (Nat.le_of_ble_eq_true rfl) rfl (Call.mono hy (fun _ h7 _ hy => ?_))
      obtain ⟨c8, hy⟩ := hy
      refine a_iinc (y := v1 + 1) (ls2 := [some (vR 8 (-1)), some (vI (v1 + 1))]) dX2_refresh_69 rfl rfl c8 rfl ?_
      refine a_goto (tgt := 32) dX2_refresh_72 (by decide) ?_
      exact hy
theorem c_NewWords_refresh {d : Nat} (d0 : Nat) (hd : d0 < d)  {h : AH} {Q : Int → AH → Prop} (hy : (((h.1 8 11) ≠ (h.1 6 10) → (Call d0 M_NewWords_emptyRows [vR 8 (-1)] (wI h 8 11 (h.1 6 10)) (fun _ h1 => A_NewWords_refresh_32 d0 Q 0 h1))) ∧ ((h.1 8 11) = (h.1 6 10) → Q 0 h))) : Call d M_NewWords_refresh [vR 8 (-1)] h Q := by
  refine ⟨d0, hd, Big.of rfl (Nat.le_of_ble_eq_true rfl) ?_⟩
  show AW d0 M_NewWords_refresh Q 0 [some (vR 8 (-1)), none] [] h
  refine a_aload_n dX2_refresh_0 rfl ?_
  refine a_getI' (kz := 11) dX2_refresh_1 fl_NewWords_26 sk_8 rfl rfl (rfl) ?_
  refine a_aload_n dX2_refresh_4 rfl ?_
  refine a_getR dX2_refresh_5 fl_NewWords_34 sk_8 rfl ?_
  refine a_getI' (kz := 10) dX2_refresh_8 fl_NewWords_42 sk_6 rfl rfl (rfl) ?_
  refine a_icmp_ne (tgt := 15) dX2_refresh_11 (by decide) (fun c => ?_) (fun c => ?_)
  · have hy := hy.1 c
    refine a_aload_n dX2_refresh_15 rfl ?_
    refine a_aload_n dX2_refresh_16 rfl ?_
    refine a_getR dX2_refresh_17 fl_NewWords_34 sk_8 rfl ?_
    refine a_getI' (kz := 10) dX2_refresh_20 fl_NewWords_42 sk_6 rfl rfl (rfl) ?_
    refine a_putI (kz := 11) dX2_refresh_23 fp_NewWords_26 sk_8 rfl rfl ?_
    refine a_aload_n dX2_refresh_26 rfl ?_
    refine a_callVv (as := []) (st := []) dX2_refresh_27 lk_NewWords_45 sk_8 rfl rfl (Nat.le_of_ble_eq_true rfl) rfl (Call.mono hy (fun _ h1 _ hy => ?_))
    refine a_iconst (x := 0) dX2_refresh_30 rfl ⟨by decide, by decide⟩ ?_
    refine a_istore_n (i := 1) (ls2 := [some (vR 8 (-1)), some (vI 0)]) dX2_refresh_31 rfl (Nat.le_of_ble_eq_true rfl) rfl ?_
    exact hy
  · have hy := hy.2 (Decidable.not_not.mp c)
    exact a_vret dX2_refresh_14 rfl hy
def A_NewWords_weigh_21 (d : Nat) (Q : Int → AH → Prop) (p1 : Int) (v5 : Int) (s0 : Int) (h : AH) : Prop := AW d M_NewWords_weigh Q 21 [some (vR 8 (-1)), some (vL p1), none, none, none, some (vI v5), none, none] [vI s0] h
theorem s_NewWords_weigh_21 {d : Nat} {Q : Int → AH → Prop} {p1 : Int} {v5 : Int} {s0 : Int} {h : AH} (hy : (((if (h.1 8 8) < s0 then (1 : Int) else if s0 = (h.1 8 8) then (if (h.1 8 9) < v5 then (1 : Int) else if v5 = (h.1 8 9) then (if (h.2.1 8 10) ≤ p1 then (0 : Int) else 1 : Int) else 0 : Int) else 0) = 0 → Q 0 h) ∧ ((if (h.1 8 8) < s0 then (1 : Int) else if s0 = (h.1 8 8) then (if (h.1 8 9) < v5 then (1 : Int) else if v5 = (h.1 8 9) then (if (h.2.1 8 10) ≤ p1 then (0 : Int) else 1 : Int) else 0 : Int) else 0) ≠ 0 → (Call d M_Words_holds [vR 2 (-1), vL p1] h (fun r2 h1 => ((r2 ≠ 0 → Q 0 h1) ∧ (r2 = 0 → Q 0 (wL (wI (wI h1 8 8 s0) 8 9 v5) 8 10 p1)))))))) : A_NewWords_weigh_21 d Q p1 v5 s0 h := by
  show AW d M_NewWords_weigh Q 21 [some (vR 8 (-1)), some (vL p1), none, none, none, some (vI v5), none, none] [vI s0] h
  refine a_istore (ls2 := [some (vR 8 (-1)), some (vL p1), none, none, none, some (vI v5), some (vI s0), none]) dX2_weigh_21 (Nat.le_of_ble_eq_true rfl) rfl ?_
  refine a_iload dX2_weigh_23 rfl ?_
  refine a_aload_n dX2_weigh_25 rfl ?_
  refine a_getI' (kz := 8) dX2_weigh_26 fl_NewWords_113 sk_8 rfl rfl (rfl) ?_
  have J : AW d M_NewWords_weigh Q 82 [some (vR 8 (-1)), some (vL p1), none, none, none, some (vI v5), some (vI s0), none] [vI (if (h.1 8 8) < s0 then (1 : Int) else if s0 = (h.1 8 8) then (if (h.1 8 9) < v5 then (1 : Int) else if v5 = (h.1 8 9) then (if (h.2.1 8 10) ≤ p1 then (0 : Int) else 1 : Int) else 0 : Int) else 0)] h := by
    refine a_istore (ls2 := [some (vR 8 (-1)), some (vL p1), none, none, none, some (vI v5), some (vI s0), some (vI (if (h.1 8 8) < s0 then (1 : Int) else if s0 = (h.1 8 8) then (if (h.1 8 9) < v5 then (1 : Int) else if v5 = (h.1 8 9) then (if (h.2.1 8 10) ≤ p1 then (0 : Int) else 1 : Int) else 0 : Int) else 0))]) dX2_weigh_82 (Nat.le_of_ble_eq_true rfl) rfl ?_
    refine a_iload dX2_weigh_84 rfl ?_
    refine a_if_eq (tgt := 117) dX2_weigh_86 (by decide) (fun c => ?_) (fun c => ?_)
    · have hy := hy.1 c
      exact a_vret dX2_weigh_117 rfl hy
    · have hy := hy.2 (c)
      refine a_aload_n dX2_weigh_89 rfl ?_
      refine a_getR dX2_weigh_90 fl_NewWords_30 sk_8 rfl ?_
      refine a_lload_n dX2_weigh_93 rfl ?_
      refine a_callVi (as := [vL p1]) (st := []) dX2_weigh_94 lk_NewWords_131 sk_2 rfl rfl (Nat.le_of_ble_eq_true rfl) (Or.inr rfl) (Call.mono hy (fun r2 h1 _ hy => ?_))
      refine a_if_ne (tgt := 117) dX2_weigh_97 (by decide) (fun c => ?_) (fun c => ?_)
      · have hy := hy.1 c
        exact a_vret dX2_weigh_117 rfl hy
      · have hy := hy.2 (Decidable.not_not.mp c)
        refine a_aload_n dX2_weigh_100 rfl ?_
        refine a_iload dX2_weigh_101 rfl ?_
        refine a_putI (kz := 8) dX2_weigh_103 fp_NewWords_113 sk_8 rfl rfl ?_
        refine a_aload_n dX2_weigh_106 rfl ?_
        refine a_iload dX2_weigh_107 rfl ?_
        refine a_putI (kz := 9) dX2_weigh_109 fp_NewWords_116 sk_8 rfl rfl ?_
        refine a_aload_n dX2_weigh_112 rfl ?_
        refine a_lload_n dX2_weigh_113 rfl ?_
        refine a_putL (kz := 10) dX2_weigh_114 fp_NewWords_73 sk_8 rfl rfl ?_
        exact a_vret dX2_weigh_117 rfl hy
  refine a_icmp_gt (tgt := 77) dX2_weigh_29 (by decide) (fun e3 => ?_) (fun e3 => ?_)
  · refine a_iconst (x := 1) dX2_weigh_77 rfl ⟨by decide, by decide⟩ ?_
    refine a_goto (tgt := 82) dX2_weigh_78 (by decide) ?_
    exact a_cast (by first | rfl | simp only [if_pos e3]) (by first | rfl | simp only [if_pos e3]) J
  · refine a_iload dX2_weigh_32 rfl ?_
    refine a_aload_n dX2_weigh_34 rfl ?_
    refine a_getI' (kz := 8) dX2_weigh_35 fl_NewWords_113 sk_8 rfl rfl (rfl) ?_
    refine a_icmp_ne (tgt := 50) dX2_weigh_38 (by decide) (fun e4 => ?_) (fun e4 => ?_)
    · refine a_iload dX2_weigh_50 rfl ?_
      refine a_aload_n dX2_weigh_52 rfl ?_
      refine a_getI' (kz := 8) dX2_weigh_53 fl_NewWords_113 sk_8 rfl rfl (rfl) ?_
      refine a_icmp_ne (tgt := 81) dX2_weigh_56 (by decide) (fun e5 => ?_) (fun e5 => ?_)
      · refine a_iconst (x := 0) dX2_weigh_81 rfl ⟨by decide, by decide⟩ ?_
        exact a_cast (by first | rfl | simp only [if_neg e3, if_neg e4, if_neg e5]) (by first | rfl | simp only [if_neg e3, if_neg e4, if_neg e5]) J
      · exfalso
        omega
    · refine a_iload dX2_weigh_41 rfl ?_
      refine a_aload_n dX2_weigh_43 rfl ?_
      refine a_getI' (kz := 9) dX2_weigh_44 fl_NewWords_116 sk_8 rfl rfl (rfl) ?_
      refine a_icmp_gt (tgt := 77) dX2_weigh_47 (by decide) (fun e6 => ?_) (fun e6 => ?_)
      · refine a_iconst (x := 1) dX2_weigh_77 rfl ⟨by decide, by decide⟩ ?_
        refine a_goto (tgt := 82) dX2_weigh_78 (by decide) ?_
        exact a_cast (by first | rfl | simp only [if_neg e3, if_pos (Decidable.not_not.mp e4), if_pos e6]) (by first | rfl | simp only [if_neg e3, if_pos (Decidable.not_not.mp e4), if_pos e6]) J
      · refine a_iload dX2_weigh_50 rfl ?_
        refine a_aload_n dX2_weigh_52 rfl ?_
        refine a_getI' (kz := 8) dX2_weigh_53 fl_NewWords_113 sk_8 rfl rfl (rfl) ?_
        refine a_icmp_ne (tgt := 81) dX2_weigh_56 (by decide) (fun e7 => ?_) (fun e7 => ?_)
        · exfalso
          omega
        · refine a_iload dX2_weigh_59 rfl ?_
          refine a_aload_n dX2_weigh_61 rfl ?_
          refine a_getI' (kz := 9) dX2_weigh_62 fl_NewWords_116 sk_8 rfl rfl (rfl) ?_
          refine a_icmp_ne (tgt := 81) dX2_weigh_65 (by decide) (fun e8 => ?_) (fun e8 => ?_)
          · refine a_iconst (x := 0) dX2_weigh_81 rfl ⟨by decide, by decide⟩ ?_
            exact a_cast (by first | rfl | simp only [if_neg e3, if_pos (Decidable.not_not.mp e4), if_neg e6, if_pos (Decidable.not_not.mp e7), if_neg e8]) (by first | rfl | simp only [if_neg e3, if_pos (Decidable.not_not.mp e4), if_neg e6, if_pos (Decidable.not_not.mp e7), if_neg e8]) J
          · refine a_lload_n dX2_weigh_68 rfl ?_
            refine a_aload_n dX2_weigh_69 rfl ?_
            refine a_getL' (kz := 10) dX2_weigh_70 fl_NewWords_73 sk_8 rfl rfl (rfl) ?_
            refine a_lc_ge (tgt := 81) dX2_weigh_73 dX2_weigh_74 (by decide) (fun e9 => ?_) (fun e9 => ?_)
            · refine a_iconst (x := 0) dX2_weigh_81 rfl ⟨by decide, by decide⟩ ?_
              exact a_cast (by first | rfl | simp only [if_neg e3, if_pos (Decidable.not_not.mp e4), if_neg e6, if_pos (Decidable.not_not.mp e7), if_pos (Decidable.not_not.mp e8), if_pos e9]) (by first | rfl | simp only [if_neg e3, if_pos (Decidable.not_not.mp e4), if_neg e6, if_pos (Decidable.not_not.mp e7), if_pos (Decidable.not_not.mp e8), if_pos e9]) J
            · refine a_iconst (x := 1) dX2_weigh_77 rfl ⟨by decide, by decide⟩ ?_
              refine a_goto (tgt := 82) dX2_weigh_78 (by decide) ?_
              exact a_cast (by first | rfl | simp only [if_neg e3, if_pos (Decidable.not_not.mp e4), if_neg e6, if_pos (Decidable.not_not.mp e7), if_pos (Decidable.not_not.mp e8), if_neg e9]) (by first | rfl | simp only [if_neg e3, if_pos (Decidable.not_not.mp e4), if_neg e6, if_pos (Decidable.not_not.mp e7), if_pos (Decidable.not_not.mp e8), if_neg e9]) J
theorem c_NewWords_weigh {d : Nat} (d0 : Nat) (hd : d0 < d) {p1 : Int} {p3 : Int} {h : AH} {Q : Int → AH → Prop} (hy : Call d0 M_JLong_bitCount [vL p3] h (fun r2 h1 => ((r2 ≠ 1 → (Call d0 M_NewWords_heapsOf [vR 8 (-1), vL p3] h1 (fun r4 h3 => A_NewWords_weigh_21 d0 Q p1 r2 r4 h3))) ∧ (r2 = 1 → A_NewWords_weigh_21 d0 Q p1 r2 1 h1)))) : Call d M_NewWords_weigh [vR 8 (-1), vL p1, vL p3] h Q := by
  refine ⟨d0, hd, Big.of rfl (Nat.le_of_ble_eq_true rfl) ?_⟩
  show AW d0 M_NewWords_weigh Q 0 [some (vR 8 (-1)), some (vL p1), none, some (vL p3), none, none, none, none] [] h
  refine a_lload_n dX2_weigh_0 rfl ?_
  refine a_callSi (as := [vL p3]) (st := []) dX2_weigh_1 lk_NewWords_119 rfl rfl (Nat.le_of_ble_eq_true rfl) (Or.inl rfl) (Call.mono hy (fun r2 h1 _ hy => ?_))
  refine a_istore (ls2 := [some (vR 8 (-1)), some (vL p1), none, some (vL p3), none, some (vI r2), none, none]) dX2_weigh_4 (Nat.le_of_ble_eq_true rfl) rfl ?_
  refine a_iload dX2_weigh_6 rfl ?_
  refine a_iconst (x := 1) dX2_weigh_8 rfl ⟨by decide, by decide⟩ ?_
  refine a_icmp_ne (tgt := 16) dX2_weigh_9 (by decide) (fun c => ?_) (fun c => ?_)
  · have hy := hy.1 c
    refine a_aload_n dX2_weigh_16 rfl ?_
    refine a_lload_n dX2_weigh_17 rfl ?_
    refine a_callVi (as := [vL p3]) (st := []) dX2_weigh_18 lk_NewWords_128 sk_8 rfl rfl (Nat.le_of_ble_eq_true rfl) (Or.inl rfl) (Call.mono hy (fun r4 h3 _ hy => ?_))
    refine a_mask [true, true, true, false, true, true, true, true] (ls2 := [some (vR 8 (-1)), some (vL p1), none, none, none, some (vI r2), none, none]) rfl rfl ?_
    exact hy
  · have hy := hy.2 (Decidable.not_not.mp c)
    refine a_iconst (x := 1) dX2_weigh_12 rfl ⟨by decide, by decide⟩ ?_
    refine a_goto (tgt := 21) dX2_weigh_13 (by decide) ?_
    refine a_mask [true, true, true, false, true, true, true, true] (ls2 := [some (vR 8 (-1)), some (vL p1), none, none, none, some (vI r2), none, none]) rfl rfl ?_
    exact hy

theorem c_Reader_fails {d : Nat} (d0 : Nat) (hd : d0 < d) {p1 : Int} {h : AH} {Q : Int → AH → Prop} (hy : Q 0 (wI h 4 4 p1)) : Call d M_Reader_fails [vR 4 (-1), vI p1] h Q := by
  refine ⟨d0, hd, Big.of rfl (Nat.le_of_ble_eq_true rfl) ?_⟩
  show AW d0 M_Reader_fails Q 0 [some (vR 4 (-1)), some (vI p1)] [] h
  refine a_aload_n dX1_fails_0 rfl ?_
  refine a_iload_n dX1_fails_1 rfl ?_
  refine a_putI (kz := 4) dX1_fails_2 fp_Reader_29 sk_4 rfl rfl ?_
  refine a_iconst (x := 0) dX1_fails_5 rfl ⟨by decide, by decide⟩ ?_
  exact a_zret dX1_fails_6 rfl (Or.inl rfl) hy
theorem c_Reader_isDigit {d : Nat} (d0 : Nat) (hd : d0 < d) {p0 : Int} {h : AH} {Q : Int → AH → Prop} (hy : ((p0 < 48 → Q 0 h) ∧ (48 ≤ p0 → ((57 < p0 → Q 0 h) ∧ (p0 ≤ 57 → Q 1 h))))) : Call d M_Reader_isDigit [vI p0] h Q := by
  refine ⟨d0, hd, Big.of rfl (Nat.le_of_ble_eq_true rfl) ?_⟩
  show AW d0 M_Reader_isDigit Q 0 [some (vI p0)] [] h
  refine a_iload_n dX1_isDigit_0 rfl ?_
  refine a_bipush (x := 48) dX1_isDigit_1 (by decide) ⟨by decide, by decide⟩ ?_
  refine a_icmp_lt (tgt := 16) dX1_isDigit_3 (by decide) (fun c => ?_) (fun c => ?_)
  · have hy := hy.1 c
    refine a_iconst (x := 0) dX1_isDigit_16 rfl ⟨by decide, by decide⟩ ?_
    exact a_zret dX1_isDigit_17 rfl (Or.inl rfl) hy
  · have hy := hy.2 (Int.not_lt.mp c)
    refine a_iload_n dX1_isDigit_6 rfl ?_
    refine a_bipush (x := 57) dX1_isDigit_7 (by decide) ⟨by decide, by decide⟩ ?_
    refine a_icmp_gt (tgt := 16) dX1_isDigit_9 (by decide) (fun c => ?_) (fun c => ?_)
    · have hy := hy.1 c
      refine a_iconst (x := 0) dX1_isDigit_16 rfl ⟨by decide, by decide⟩ ?_
      exact a_zret dX1_isDigit_17 rfl (Or.inl rfl) hy
    · have hy := hy.2 (Int.not_lt.mp c)
      refine a_iconst (x := 1) dX1_isDigit_12 rfl ⟨by decide, by decide⟩ ?_
      refine a_goto (tgt := 17) dX1_isDigit_13 (by decide) ?_
      exact a_zret dX1_isDigit_17 rfl (Or.inr rfl) hy
theorem c_Reader_next {d : Nat} (d0 : Nat) (hd : d0 < d)  {h : AH} {Q : Int → AH → Prop} (hy : (((h.1 4 2) ≤ (h.1 4 3) → Q (-1) h) ∧ ((h.1 4 3) < (h.1 4 2) → (Call d0 M_Tape_byteAt [vR 1 (-1), vI (h.1 4 3)] h (fun r2 h1 => Q r2 h1))))) : Call d M_Reader_next [vR 4 (-1)] h Q := by
  refine ⟨d0, hd, Big.of rfl (Nat.le_of_ble_eq_true rfl) ?_⟩
  show AW d0 M_Reader_next Q 0 [some (vR 4 (-1))] [] h
  refine a_aload_n dX1_next_0 rfl ?_
  refine a_getI' (kz := 3) dX1_next_1 fl_Reader_26 sk_4 rfl rfl (rfl) ?_
  refine a_aload_n dX1_next_4 rfl ?_
  refine a_getI' (kz := 2) dX1_next_5 fl_Reader_22 sk_4 rfl rfl (rfl) ?_
  refine a_icmp_ge (tgt := 25) dX1_next_8 (by decide) (fun c => ?_) (fun c => ?_)
  · have hy := hy.1 c
    refine a_iconst (x := (-1)) dX1_next_25 rfl ⟨by decide, by decide⟩ ?_
    exact a_iret dX1_next_26 rfl hy
  · have hy := hy.2 (Int.not_le.mp c)
    refine a_aload_n dX1_next_11 rfl ?_
    refine a_getR dX1_next_12 fl_Reader_18 sk_4 rfl ?_
    refine a_aload_n dX1_next_15 rfl ?_
    refine a_getI' (kz := 3) dX1_next_16 fl_Reader_26 sk_4 rfl rfl (rfl) ?_
    refine a_callVi (as := [vI (h.1 4 3)]) (st := []) dX1_next_19 lk_Reader_110 sk_1 rfl rfl (Nat.le_of_ble_eq_true rfl) (Or.inl rfl) (Call.mono hy (fun r2 h1 _ hy => ?_))
    refine a_goto (tgt := 26) dX1_next_22 (by decide) ?_
    exact a_iret dX1_next_26 rfl hy
theorem c_Reader_opens {d : Nat} (d0 : Nat) (hd : d0 < d) {p1 : Int} {h : AH} {Q : Int → AH → Prop} (hy : ((p1 < 6 → (inI ((h.1 4 3) + 1) ∧ Q 1 (wI h 4 3 ((h.1 4 3) + 1)))) ∧ (6 ≤ p1 → (Call d0 M_Reader_fails [vR 4 (-1), vI 5] h (fun r3 h2 => (r3 = 0 ∨ r3 = 1) ∧ Q r3 h2))))) : Call d M_Reader_opens [vR 4 (-1), vI p1] h Q := by
  refine ⟨d0, hd, Big.of rfl (Nat.le_of_ble_eq_true rfl) ?_⟩
  show AW d0 M_Reader_opens Q 0 [some (vR 4 (-1)), some (vI p1)] [] h
  refine a_iload_n dX1_opens_0 rfl ?_
  refine a_bipush (x := 6) dX1_opens_1 (by decide) ⟨by decide, by decide⟩ ?_
  refine a_icmp_lt (tgt := 12) dX1_opens_3 (by decide) (fun c => ?_) (fun c => ?_)
  · have hy := hy.1 c
    refine a_aload_n dX1_opens_12 rfl ?_
    refine a_dupR dX1_opens_13 ?_
    refine a_getI' (kz := 3) dX1_opens_14 fl_Reader_26 sk_4 rfl rfl (rfl) ?_
    refine a_iconst (x := 1) dX1_opens_17 rfl ⟨by decide, by decide⟩ ?_
    obtain ⟨c1, hy⟩ := hy
    refine a_iadd dX1_opens_18 c1 ?_
    refine a_putI (kz := 3) dX1_opens_19 fp_Reader_26 sk_4 rfl rfl ?_
    refine a_iconst (x := 1) dX1_opens_22 rfl ⟨by decide, by decide⟩ ?_
    exact a_zret dX1_opens_23 rfl (Or.inr rfl) hy
  · have hy := hy.2 (Int.not_lt.mp c)
    refine a_aload_n dX1_opens_6 rfl ?_
    refine a_iconst (x := 5) dX1_opens_7 rfl ⟨by decide, by decide⟩ ?_
    refine a_callVi (as := [vI 5]) (st := []) dX1_opens_8 lk_Reader_39 sk_4 rfl rfl (Nat.le_of_ble_eq_true rfl) (Or.inr rfl) (Call.mono hy (fun r3 h2 _ hy => ?_))
    obtain ⟨c4, hy⟩ := hy
    exact a_zret dX1_opens_11 rfl c4 hy
theorem c_Reader_passes {d : Nat} (d0 : Nat) (hd : d0 < d) {p1 : Int} {h : AH} {Q : Int → AH → Prop} (hy : Call d0 M_Reader_next [vR 4 (-1)] h (fun r2 h1 => ((r2 = p1 → (inI ((h1.1 4 3) + 1) ∧ Q 1 (wI h1 4 3 ((h1.1 4 3) + 1)))) ∧ (r2 ≠ p1 → (Call d0 M_Reader_fails [vR 4 (-1), vI 1] h1 (fun r5 h4 => (r5 = 0 ∨ r5 = 1) ∧ Q r5 h4)))))) : Call d M_Reader_passes [vR 4 (-1), vI p1] h Q := by
  refine ⟨d0, hd, Big.of rfl (Nat.le_of_ble_eq_true rfl) ?_⟩
  show AW d0 M_Reader_passes Q 0 [some (vR 4 (-1)), some (vI p1)] [] h
  refine a_aload_n dX1_passes_0 rfl ?_
  refine a_callVi (as := []) (st := []) dX1_passes_1 lk_Reader_35 sk_4 rfl rfl (Nat.le_of_ble_eq_true rfl) (Or.inl rfl) (Call.mono hy (fun r2 h1 _ hy => ?_))
  refine a_iload_n dX1_passes_4 rfl ?_
  refine a_icmp_eq (tgt := 14) dX1_passes_5 (by decide) (fun c => ?_) (fun c => ?_)
  · have hy := hy.1 c
    refine a_aload_n dX1_passes_14 rfl ?_
    refine a_dupR dX1_passes_15 ?_
    refine a_getI' (kz := 3) dX1_passes_16 fl_Reader_26 sk_4 rfl rfl (rfl) ?_
    refine a_iconst (x := 1) dX1_passes_19 rfl ⟨by decide, by decide⟩ ?_
    obtain ⟨c3, hy⟩ := hy
    refine a_iadd dX1_passes_20 c3 ?_
    refine a_putI (kz := 3) dX1_passes_21 fp_Reader_26 sk_4 rfl rfl ?_
    refine a_iconst (x := 1) dX1_passes_24 rfl ⟨by decide, by decide⟩ ?_
    exact a_zret dX1_passes_25 rfl (Or.inr rfl) hy
  · have hy := hy.2 (c)
    refine a_aload_n dX1_passes_8 rfl ?_
    refine a_iconst (x := 1) dX1_passes_9 rfl ⟨by decide, by decide⟩ ?_
    refine a_callVi (as := [vI 1]) (st := []) dX1_passes_10 lk_Reader_39 sk_4 rfl rfl (Nat.le_of_ble_eq_true rfl) (Or.inr rfl) (Call.mono hy (fun r5 h4 _ hy => ?_))
    obtain ⟨c6, hy⟩ := hy
    exact a_zret dX1_passes_13 rfl c6 hy
theorem c_Reader_readBrackets {d : Nat} (d0 : Nat) (hd : d0 < d) {p1 : Int} {h : AH} {Q : Int → AH → Prop} (hy : Call d0 M_Reader_next [vR 4 (-1)] h (fun r2 h1 => ((r2 = 40 → (Call d0 M_Reader_opens [vR 4 (-1), vI p1] h1 (fun r4 h3 => ((r4 = 0 → Q 0 h3) ∧ (r4 ≠ 0 → (inI (p1 + 1) ∧ (Call d0 M_Reader_readParts [vR 4 (-1), vI (p1 + 1)] h3 (fun r7 h6 => ((r7 = 0 → Q 0 h6) ∧ (r7 ≠ 0 → (Call d0 M_Reader_passes [vR 4 (-1), vI 41] h6 (fun r9 h8 => ((r9 = 0 → Q 0 h8) ∧ (r9 ≠ 0 → Q 1 h8)))))))))))))) ∧ (r2 ≠ 40 → (Call d0 M_Reader_fails [vR 4 (-1), vI 1] h1 (fun r11 h10 => (r11 = 0 ∨ r11 = 1) ∧ Q r11 h10)))))) : Call d M_Reader_readBrackets [vR 4 (-1), vI p1] h Q := by
  refine ⟨d0, hd, Big.of rfl (Nat.le_of_ble_eq_true rfl) ?_⟩
  show AW d0 M_Reader_readBrackets Q 0 [some (vR 4 (-1)), some (vI p1)] [] h
  refine a_aload_n dX1_readBrackets_0 rfl ?_
  refine a_callVi (as := []) (st := []) dX1_readBrackets_1 lk_Reader_35 sk_4 rfl rfl (Nat.le_of_ble_eq_true rfl) (Or.inl rfl) (Call.mono hy (fun r2 h1 _ hy => ?_))
  refine a_bipush (x := 40) dX1_readBrackets_4 (by decide) ⟨by decide, by decide⟩ ?_
  refine a_icmp_eq (tgt := 15) dX1_readBrackets_6 (by decide) (fun c => ?_) (fun c => ?_)
  · have hy := hy.1 c
    refine a_aload_n dX1_readBrackets_15 rfl ?_
    refine a_iload_n dX1_readBrackets_16 rfl ?_
    refine a_callVi (as := [vI p1]) (st := []) dX1_readBrackets_17 lk_Reader_67 sk_4 rfl rfl (Nat.le_of_ble_eq_true rfl) (Or.inr rfl) (Call.mono hy (fun r4 h3 _ hy => ?_))
    refine a_if_eq (tgt := 46) dX1_readBrackets_20 (by decide) (fun c => ?_) (fun c => ?_)
    · have hy := hy.1 c
      refine a_iconst (x := 0) dX1_readBrackets_46 rfl ⟨by decide, by decide⟩ ?_
      exact a_zret dX1_readBrackets_47 rfl (Or.inl rfl) hy
    · have hy := hy.2 (c)
      refine a_aload_n dX1_readBrackets_23 rfl ?_
      refine a_iload_n dX1_readBrackets_24 rfl ?_
      refine a_iconst (x := 1) dX1_readBrackets_25 rfl ⟨by decide, by decide⟩ ?_
      obtain ⟨c5, hy⟩ := hy
      refine a_iadd dX1_readBrackets_26 c5 ?_
      refine a_callVi (as := [vI (p1 + 1)]) (st := []) dX1_readBrackets_27 lk_Reader_70 sk_4 rfl rfl (Nat.le_of_ble_eq_true rfl) (Or.inr rfl) (Call.mono hy (fun r7 h6 _ hy => ?_))
      refine a_if_eq (tgt := 46) dX1_readBrackets_30 (by decide) (fun c => ?_) (fun c => ?_)
      · have hy := hy.1 c
        refine a_iconst (x := 0) dX1_readBrackets_46 rfl ⟨by decide, by decide⟩ ?_
        exact a_zret dX1_readBrackets_47 rfl (Or.inl rfl) hy
      · have hy := hy.2 (c)
        refine a_aload_n dX1_readBrackets_33 rfl ?_
        refine a_bipush (x := 41) dX1_readBrackets_34 (by decide) ⟨by decide, by decide⟩ ?_
        refine a_callVi (as := [vI 41]) (st := []) dX1_readBrackets_36 lk_Reader_47 sk_4 rfl rfl (Nat.le_of_ble_eq_true rfl) (Or.inr rfl) (Call.mono hy (fun r9 h8 _ hy => ?_))
        refine a_if_eq (tgt := 46) dX1_readBrackets_39 (by decide) (fun c => ?_) (fun c => ?_)
        · have hy := hy.1 c
          refine a_iconst (x := 0) dX1_readBrackets_46 rfl ⟨by decide, by decide⟩ ?_
          exact a_zret dX1_readBrackets_47 rfl (Or.inl rfl) hy
        · have hy := hy.2 (c)
          refine a_iconst (x := 1) dX1_readBrackets_42 rfl ⟨by decide, by decide⟩ ?_
          refine a_goto (tgt := 47) dX1_readBrackets_43 (by decide) ?_
          exact a_zret dX1_readBrackets_47 rfl (Or.inr rfl) hy
  · have hy := hy.2 (c)
    refine a_aload_n dX1_readBrackets_9 rfl ?_
    refine a_iconst (x := 1) dX1_readBrackets_10 rfl ⟨by decide, by decide⟩ ?_
    refine a_callVi (as := [vI 1]) (st := []) dX1_readBrackets_11 lk_Reader_39 sk_4 rfl rfl (Nat.le_of_ble_eq_true rfl) (Or.inr rfl) (Call.mono hy (fun r11 h10 _ hy => ?_))
    obtain ⟨c12, hy⟩ := hy
    exact a_zret dX1_readBrackets_14 rfl c12 hy
def A_Reader_readClause_34 (d : Nat) (Q : Int → AH → Prop) (v2 : Int) (h : AH) : Prop := AW d M_Reader_readClause Q 34 [some (vR 4 (-1)), none, some (vI v2), none] [] h
theorem s_Reader_readClause_34 {d : Nat} {Q : Int → AH → Prop} {v2 : Int} {h : AH} (hy : Call d M_Reader_readBrackets [vR 4 (-1), vI 0] h (fun r2 h1 => ((r2 ≠ 0 → (Call d M_LawCode_put [vR 5 (-1), vI 0, vI 0] h1 (fun r4 h3 => Call d M_LawCode_addClause [vR 5 (-1), vI v2, vI (h.1 5 5)] h3 (fun _ h5 => Q 1 h5)))) ∧ (r2 = 0 → Q 0 h1)))) : A_Reader_readClause_34 d Q v2 h := by
  show AW d M_Reader_readClause Q 34 [some (vR 4 (-1)), none, some (vI v2), none] [] h
  refine a_aload_n dX1_readClause_34 rfl ?_
  refine a_getR dX1_readClause_35 fl_Reader_12 sk_4 rfl ?_
  refine a_getI' (kz := 5) dX1_readClause_38 fl_Reader_50 sk_5 rfl rfl (rfl) ?_
  refine a_istore_n (i := 3) (ls2 := [some (vR 4 (-1)), none, some (vI v2), some (vI (h.1 5 5))]) dX1_readClause_41 rfl (Nat.le_of_ble_eq_true rfl) rfl ?_
  refine a_aload_n dX1_readClause_42 rfl ?_
  refine a_iconst (x := 0) dX1_readClause_43 rfl ⟨by decide, by decide⟩ ?_
  refine a_callVi (as := [vI 0]) (st := []) dX1_readClause_44 lk_Reader_60 sk_4 rfl rfl (Nat.le_of_ble_eq_true rfl) (Or.inr rfl) (Call.mono hy (fun r2 h1 _ hy => ?_))
  refine a_if_ne (tgt := 52) dX1_readClause_47 (by decide) (fun c => ?_) (fun c => ?_)
  · have hy := hy.1 c
    refine a_aload_n dX1_readClause_52 rfl ?_
    refine a_getR dX1_readClause_53 fl_Reader_12 sk_4 rfl ?_
    refine a_iconst (x := 0) dX1_readClause_56 rfl ⟨by decide, by decide⟩ ?_
    refine a_iconst (x := 0) dX1_readClause_57 rfl ⟨by decide, by decide⟩ ?_
    refine a_callVi (as := [vI 0, vI 0]) (st := []) dX1_readClause_58 lk_Reader_56 sk_5 rfl rfl (Nat.le_of_ble_eq_true rfl) (Or.inl rfl) (Call.mono hy (fun r4 h3 _ hy => ?_))
    refine a_pop dX1_readClause_61 ?_
    refine a_aload_n dX1_readClause_62 rfl ?_
    refine a_getR dX1_readClause_63 fl_Reader_12 sk_4 rfl ?_
    refine a_iload_n dX1_readClause_66 rfl ?_
    refine a_iload_n dX1_readClause_67 rfl ?_
    refine a_callVv (as := [vI v2, vI (h.1 5 5)]) (st := []) dX1_readClause_68 lk_Reader_63 sk_5 rfl rfl (Nat.le_of_ble_eq_true rfl) rfl (Call.mono hy (fun _ h5 _ hy => ?_))
    refine a_iconst (x := 1) dX1_readClause_71 rfl ⟨by decide, by decide⟩ ?_
    exact a_zret dX1_readClause_72 rfl (Or.inr rfl) hy
  · have hy := hy.2 (Decidable.not_not.mp c)
    refine a_iconst (x := 0) dX1_readClause_50 rfl ⟨by decide, by decide⟩ ?_
    exact a_zret dX1_readClause_51 rfl (Or.inl rfl) hy
theorem c_Reader_readClause {d : Nat} (d0 : Nat) (hd : d0 < d) {p1 : Int} {h : AH} {Q : Int → AH → Prop} (hy : ((p1 = 0 → A_Reader_readClause_34 d0 Q (-1) h) ∧ (p1 ≠ 0 → (Call d0 M_Reader_readSum [vR 4 (-1), vI 0] h (fun r2 h1 => ((r2 ≠ 0 → (Call d0 M_LawCode_put [vR 5 (-1), vI 0, vI 0] h1 (fun r4 h3 => A_Reader_readClause_34 d0 Q (h.1 5 5) h3))) ∧ (r2 = 0 → Q 0 h1))))))) : Call d M_Reader_readClause [vR 4 (-1), vI p1] h Q := by
  refine ⟨d0, hd, Big.of rfl (Nat.le_of_ble_eq_true rfl) ?_⟩
  show AW d0 M_Reader_readClause Q 0 [some (vR 4 (-1)), some (vI p1), none, none] [] h
  refine a_iconst (x := (-1)) dX1_readClause_0 rfl ⟨by decide, by decide⟩ ?_
  refine a_istore_n (i := 2) (ls2 := [some (vR 4 (-1)), some (vI p1), some (vI (-1)), none]) dX1_readClause_1 rfl (Nat.le_of_ble_eq_true rfl) rfl ?_
  refine a_iload_n dX1_readClause_2 rfl ?_
  refine a_if_eq (tgt := 34) dX1_readClause_3 (by decide) (fun c => ?_) (fun c => ?_)
  · have hy := hy.1 c
    refine a_mask [true, false, true, true] (ls2 := [some (vR 4 (-1)), none, some (vI (-1)), none]) rfl rfl ?_
    exact hy
  · have hy := hy.2 (c)
    refine a_aload_n dX1_readClause_6 rfl ?_
    refine a_getR dX1_readClause_7 fl_Reader_12 sk_4 rfl ?_
    refine a_getI' (kz := 5) dX1_readClause_10 fl_Reader_50 sk_5 rfl rfl (rfl) ?_
    refine a_istore_n (i := 2) (ls2 := [some (vR 4 (-1)), some (vI p1), some (vI (h.1 5 5)), none]) dX1_readClause_13 rfl (Nat.le_of_ble_eq_true rfl) rfl ?_
    refine a_aload_n dX1_readClause_14 rfl ?_
    refine a_iconst (x := 0) dX1_readClause_15 rfl ⟨by decide, by decide⟩ ?_
    refine a_callVi (as := [vI 0]) (st := []) dX1_readClause_16 lk_Reader_53 sk_4 rfl rfl (Nat.le_of_ble_eq_true rfl) (Or.inr rfl) (Call.mono hy (fun r2 h1 _ hy => ?_))
    refine a_if_ne (tgt := 24) dX1_readClause_19 (by decide) (fun c => ?_) (fun c => ?_)
    · have hy := hy.1 c
      refine a_aload_n dX1_readClause_24 rfl ?_
      refine a_getR dX1_readClause_25 fl_Reader_12 sk_4 rfl ?_
      refine a_iconst (x := 0) dX1_readClause_28 rfl ⟨by decide, by decide⟩ ?_
      refine a_iconst (x := 0) dX1_readClause_29 rfl ⟨by decide, by decide⟩ ?_
      refine a_callVi (as := [vI 0, vI 0]) (st := []) dX1_readClause_30 lk_Reader_56 sk_5 rfl rfl (Nat.le_of_ble_eq_true rfl) (Or.inl rfl) (Call.mono hy (fun r4 h3 _ hy => ?_))
      refine a_pop dX1_readClause_33 ?_
      refine a_mask [true, false, true, true] (ls2 := [some (vR 4 (-1)), none, some (vI (h.1 5 5)), none]) rfl rfl ?_
      exact hy
    · have hy := hy.2 (Decidable.not_not.mp c)
      refine a_iconst (x := 0) dX1_readClause_22 rfl ⟨by decide, by decide⟩ ?_
      exact a_zret dX1_readClause_23 rfl (Or.inl rfl) hy
def A_Reader_readCompared_39 (d : Nat) (Q : Int → AH → Prop) (p1 : Int) (v2 : Int) (h : AH) : Prop := AW d M_Reader_readCompared Q 39 [some (vR 4 (-1)), some (vI p1), some (vI v2)] [] h
theorem s_Reader_readCompared_39 {d : Nat} {Q : Int → AH → Prop} {p1 : Int} {v2 : Int} {h : AH} (hy : inI ((h.1 4 3) + 1) ∧ (Call d M_Reader_readSum [vR 4 (-1), vI p1] (wI h 4 3 ((h.1 4 3) + 1)) (fun r3 h2 => ((r3 ≠ 0 → (Call d M_LawCode_put [vR 5 (-1), vI v2, vI 0] h2 (fun r5 h4 => Q 1 h4))) ∧ (r3 = 0 → Q 0 h2))))) : A_Reader_readCompared_39 d Q p1 v2 h := by
  show AW d M_Reader_readCompared Q 39 [some (vR 4 (-1)), some (vI p1), some (vI v2)] [] h
  refine a_aload_n dX1_readCompared_39 rfl ?_
  refine a_dupR dX1_readCompared_40 ?_
  refine a_getI' (kz := 3) dX1_readCompared_41 fl_Reader_26 sk_4 rfl rfl (rfl) ?_
  refine a_iconst (x := 1) dX1_readCompared_44 rfl ⟨by decide, by decide⟩ ?_
  obtain ⟨c1, hy⟩ := hy
  refine a_iadd dX1_readCompared_45 c1 ?_
  refine a_putI (kz := 3) dX1_readCompared_46 fp_Reader_26 sk_4 rfl rfl ?_
  refine a_aload_n dX1_readCompared_49 rfl ?_
  refine a_iload_n dX1_readCompared_50 rfl ?_
  refine a_callVi (as := [vI p1]) (st := []) dX1_readCompared_51 lk_Reader_53 sk_4 rfl rfl (Nat.le_of_ble_eq_true rfl) (Or.inr rfl) (Call.mono hy (fun r3 h2 _ hy => ?_))
  refine a_if_ne (tgt := 59) dX1_readCompared_54 (by decide) (fun c => ?_) (fun c => ?_)
  · have hy := hy.1 c
    refine a_aload_n dX1_readCompared_59 rfl ?_
    refine a_getR dX1_readCompared_60 fl_Reader_12 sk_4 rfl ?_
    refine a_iload_n dX1_readCompared_63 rfl ?_
    refine a_iconst (x := 0) dX1_readCompared_64 rfl ⟨by decide, by decide⟩ ?_
    refine a_callVi (as := [vI v2, vI 0]) (st := []) dX1_readCompared_65 lk_Reader_56 sk_5 rfl rfl (Nat.le_of_ble_eq_true rfl) (Or.inl rfl) (Call.mono hy (fun r5 h4 _ hy => ?_))
    refine a_pop dX1_readCompared_68 ?_
    refine a_iconst (x := 1) dX1_readCompared_69 rfl ⟨by decide, by decide⟩ ?_
    exact a_zret dX1_readCompared_70 rfl (Or.inr rfl) hy
  · have hy := hy.2 (Decidable.not_not.mp c)
    refine a_iconst (x := 0) dX1_readCompared_57 rfl ⟨by decide, by decide⟩ ?_
    exact a_zret dX1_readCompared_58 rfl (Or.inl rfl) hy
theorem c_Reader_readCompared {d : Nat} (d0 : Nat) (hd : d0 < d) {p1 : Int} {h : AH} {Q : Int → AH → Prop} (hy : Call d0 M_Reader_readSum [vR 4 (-1), vI p1] h (fun r2 h1 => ((r2 ≠ 0 → (Call d0 M_Reader_next [vR 4 (-1)] h1 (fun r4 h3 => ((r4 = 60 → A_Reader_readCompared_39 d0 Q p1 r4 h3) ∧ (r4 ≠ 60 → ((r4 = 62 → A_Reader_readCompared_39 d0 Q p1 r4 h3) ∧ (r4 ≠ 62 → ((r4 = 61 → A_Reader_readCompared_39 d0 Q p1 r4 h3) ∧ (r4 ≠ 61 → (Call d0 M_Reader_fails [vR 4 (-1), vI 1] h3 (fun r6 h5 => (r6 = 0 ∨ r6 = 1) ∧ Q r6 h5))))))))))) ∧ (r2 = 0 → Q 0 h1)))) : Call d M_Reader_readCompared [vR 4 (-1), vI p1] h Q := by
  refine ⟨d0, hd, Big.of rfl (Nat.le_of_ble_eq_true rfl) ?_⟩
  show AW d0 M_Reader_readCompared Q 0 [some (vR 4 (-1)), some (vI p1), none] [] h
  refine a_aload_n dX1_readCompared_0 rfl ?_
  refine a_iload_n dX1_readCompared_1 rfl ?_
  refine a_callVi (as := [vI p1]) (st := []) dX1_readCompared_2 lk_Reader_53 sk_4 rfl rfl (Nat.le_of_ble_eq_true rfl) (Or.inr rfl) (Call.mono hy (fun r2 h1 _ hy => ?_))
  refine a_if_ne (tgt := 10) dX1_readCompared_5 (by decide) (fun c => ?_) (fun c => ?_)
  · have hy := hy.1 c
    refine a_aload_n dX1_readCompared_10 rfl ?_
    refine a_callVi (as := []) (st := []) dX1_readCompared_11 lk_Reader_35 sk_4 rfl rfl (Nat.le_of_ble_eq_true rfl) (Or.inl rfl) (Call.mono hy (fun r4 h3 _ hy => ?_))
    refine a_istore_n (i := 2) (ls2 := [some (vR 4 (-1)), some (vI p1), some (vI r4)]) dX1_readCompared_14 rfl (Nat.le_of_ble_eq_true rfl) rfl ?_
    refine a_iload_n dX1_readCompared_15 rfl ?_
    refine a_bipush (x := 60) dX1_readCompared_16 (by decide) ⟨by decide, by decide⟩ ?_
    refine a_icmp_eq (tgt := 39) dX1_readCompared_18 (by decide) (fun c => ?_) (fun c => ?_)
    · have hy := hy.1 c
      exact hy
    · have hy := hy.2 (c)
      refine a_iload_n dX1_readCompared_21 rfl ?_
      refine a_bipush (x := 62) dX1_readCompared_22 (by decide) ⟨by decide, by decide⟩ ?_
      refine a_icmp_eq (tgt := 39) dX1_readCompared_24 (by decide) (fun c => ?_) (fun c => ?_)
      · have hy := hy.1 c
        exact hy
      · have hy := hy.2 (c)
        refine a_iload_n dX1_readCompared_27 rfl ?_
        refine a_bipush (x := 61) dX1_readCompared_28 (by decide) ⟨by decide, by decide⟩ ?_
        refine a_icmp_eq (tgt := 39) dX1_readCompared_30 (by decide) (fun c => ?_) (fun c => ?_)
        · have hy := hy.1 c
          exact hy
        · have hy := hy.2 (c)
          refine a_aload_n dX1_readCompared_33 rfl ?_
          refine a_iconst (x := 1) dX1_readCompared_34 rfl ⟨by decide, by decide⟩ ?_
          refine a_callVi (as := [vI 1]) (st := []) dX1_readCompared_35 lk_Reader_39 sk_4 rfl rfl (Nat.le_of_ble_eq_true rfl) (Or.inr rfl) (Call.mono hy (fun r6 h5 _ hy => ?_))
          obtain ⟨c7, hy⟩ := hy
          exact a_zret dX1_readCompared_38 rfl c7 hy
  · have hy := hy.2 (Decidable.not_not.mp c)
    refine a_iconst (x := 0) dX1_readCompared_8 rfl ⟨by decide, by decide⟩ ?_
    exact a_zret dX1_readCompared_9 rfl (Or.inl rfl) hy
theorem c_Reader_readDenied {d : Nat} (d0 : Nat) (hd : d0 < d) {p1 : Int} {h : AH} {Q : Int → AH → Prop} (hy : Call d0 M_Reader_opens [vR 4 (-1), vI p1] h (fun r2 h1 => ((r2 = 0 → Q 0 h1) ∧ (r2 ≠ 0 → (inI (p1 + 1) ∧ (Call d0 M_Reader_readPiece [vR 4 (-1), vI (p1 + 1)] h1 (fun r5 h4 => ((r5 ≠ 0 → (Call d0 M_LawCode_put [vR 5 (-1), vI 3, vI 0] h4 (fun r7 h6 => Q 1 h6))) ∧ (r5 = 0 → Q 0 h4))))))))) : Call d M_Reader_readDenied [vR 4 (-1), vI p1] h Q := by
  refine ⟨d0, hd, Big.of rfl (Nat.le_of_ble_eq_true rfl) ?_⟩
  show AW d0 M_Reader_readDenied Q 0 [some (vR 4 (-1)), some (vI p1)] [] h
  refine a_aload_n dX1_readDenied_0 rfl ?_
  refine a_iload_n dX1_readDenied_1 rfl ?_
  refine a_callVi (as := [vI p1]) (st := []) dX1_readDenied_2 lk_Reader_67 sk_4 rfl rfl (Nat.le_of_ble_eq_true rfl) (Or.inr rfl) (Call.mono hy (fun r2 h1 _ hy => ?_))
  refine a_if_eq (tgt := 18) dX1_readDenied_5 (by decide) (fun c => ?_) (fun c => ?_)
  · have hy := hy.1 c
    refine a_iconst (x := 0) dX1_readDenied_18 rfl ⟨by decide, by decide⟩ ?_
    exact a_zret dX1_readDenied_19 rfl (Or.inl rfl) hy
  · have hy := hy.2 (c)
    refine a_aload_n dX1_readDenied_8 rfl ?_
    refine a_iload_n dX1_readDenied_9 rfl ?_
    refine a_iconst (x := 1) dX1_readDenied_10 rfl ⟨by decide, by decide⟩ ?_
    obtain ⟨c3, hy⟩ := hy
    refine a_iadd dX1_readDenied_11 c3 ?_
    refine a_callVi (as := [vI (p1 + 1)]) (st := []) dX1_readDenied_12 lk_Reader_80 sk_4 rfl rfl (Nat.le_of_ble_eq_true rfl) (Or.inr rfl) (Call.mono hy (fun r5 h4 _ hy => ?_))
    refine a_if_ne (tgt := 20) dX1_readDenied_15 (by decide) (fun c => ?_) (fun c => ?_)
    · have hy := hy.1 c
      refine a_aload_n dX1_readDenied_20 rfl ?_
      refine a_getR dX1_readDenied_21 fl_Reader_12 sk_4 rfl ?_
      refine a_iconst (x := 3) dX1_readDenied_24 rfl ⟨by decide, by decide⟩ ?_
      refine a_iconst (x := 0) dX1_readDenied_25 rfl ⟨by decide, by decide⟩ ?_
      refine a_callVi (as := [vI 3, vI 0]) (st := []) dX1_readDenied_26 lk_Reader_56 sk_5 rfl rfl (Nat.le_of_ble_eq_true rfl) (Or.inl rfl) (Call.mono hy (fun r7 h6 _ hy => ?_))
      refine a_pop dX1_readDenied_29 ?_
      refine a_iconst (x := 1) dX1_readDenied_30 rfl ⟨by decide, by decide⟩ ?_
      exact a_zret dX1_readDenied_31 rfl (Or.inr rfl) hy
    · have hy := hy.2 (Decidable.not_not.mp c)
      refine a_iconst (x := 0) dX1_readDenied_18 rfl ⟨by decide, by decide⟩ ?_
      exact a_zret dX1_readDenied_19 rfl (Or.inl rfl) hy
def A_Reader_readFactor_68 (d : Nat) (Q : Int → AH → Prop)  (h : AH) : Prop := AW d M_Reader_readFactor Q 68 [some (vR 4 (-1)), none, none, none] [] h
def A_Reader_readFactor_79 (d : Nat) (Q : Int → AH → Prop) (s0 : Int) (h : AH) : Prop := AW d M_Reader_readFactor Q 79 [some (vR 4 (-1)), none, none, none] [vI s0] h
theorem s_Reader_readFactor_68 {d : Nat} {Q : Int → AH → Prop}  {h : AH} (hy : A_Reader_readFactor_79 d Q (-1) h) : A_Reader_readFactor_68 d Q  h := by
  show AW d M_Reader_readFactor Q 68 [some (vR 4 (-1)), none, none, none] [] h
  refine a_iconst (x := (-1)) dX1_readFactor_68 rfl ⟨by decide, by decide⟩ ?_
  refine a_goto (tgt := 79) dX1_readFactor_69 (by decide) ?_
  exact hy
theorem s_Reader_readFactor_79 {d : Nat} {Q : Int → AH → Prop} {s0 : Int} {h : AH} (hy : ((0 ≤ s0 → (inI ((h.1 4 3) + 1) ∧ (Call d M_LawCode_put [vR 5 (-1), vI 2, vI s0] (wI h 4 3 ((h.1 4 3) + 1)) (fun r3 h2 => Q 1 h2)))) ∧ (s0 < 0 → (Call d M_Reader_fails [vR 4 (-1), vI 1] h (fun r5 h4 => (r5 = 0 ∨ r5 = 1) ∧ Q r5 h4))))) : A_Reader_readFactor_79 d Q s0 h := by
  show AW d M_Reader_readFactor Q 79 [some (vR 4 (-1)), none, none, none] [vI s0] h
  refine a_istore_n (i := 3) (ls2 := [some (vR 4 (-1)), none, none, some (vI s0)]) dX1_readFactor_79 rfl (Nat.le_of_ble_eq_true rfl) rfl ?_
  refine a_iload_n dX1_readFactor_80 rfl ?_
  refine a_if_ge (tgt := 90) dX1_readFactor_81 (by decide) (fun c => ?_) (fun c => ?_)
  · have hy := hy.1 c
    refine a_aload_n dX1_readFactor_90 rfl ?_
    refine a_dupR dX1_readFactor_91 ?_
    refine a_getI' (kz := 3) dX1_readFactor_92 fl_Reader_26 sk_4 rfl rfl (rfl) ?_
    refine a_iconst (x := 1) dX1_readFactor_95 rfl ⟨by decide, by decide⟩ ?_
    obtain ⟨c1, hy⟩ := hy
    refine a_iadd dX1_readFactor_96 c1 ?_
    refine a_putI (kz := 3) dX1_readFactor_97 fp_Reader_26 sk_4 rfl rfl ?_
    refine a_aload_n dX1_readFactor_100 rfl ?_
    refine a_getR dX1_readFactor_101 fl_Reader_12 sk_4 rfl ?_
    refine a_iconst (x := 2) dX1_readFactor_104 rfl ⟨by decide, by decide⟩ ?_
    refine a_iload_n dX1_readFactor_105 rfl ?_
    refine a_callVi (as := [vI 2, vI s0]) (st := []) dX1_readFactor_106 lk_Reader_56 sk_5 rfl rfl (Nat.le_of_ble_eq_true rfl) (Or.inl rfl) (Call.mono hy (fun r3 h2 _ hy => ?_))
    refine a_pop dX1_readFactor_109 ?_
    refine a_iconst (x := 1) dX1_readFactor_110 rfl ⟨by decide, by decide⟩ ?_
    exact a_zret dX1_readFactor_111 rfl (Or.inr rfl) hy
  · have hy := hy.2 (Int.not_le.mp c)
    refine a_aload_n dX1_readFactor_84 rfl ?_
    refine a_iconst (x := 1) dX1_readFactor_85 rfl ⟨by decide, by decide⟩ ?_
    refine a_callVi (as := [vI 1]) (st := []) dX1_readFactor_86 lk_Reader_39 sk_4 rfl rfl (Nat.le_of_ble_eq_true rfl) (Or.inr rfl) (Call.mono hy (fun r5 h4 _ hy => ?_))
    obtain ⟨c6, hy⟩ := hy
    exact a_zret dX1_readFactor_89 rfl c6 hy
theorem c_Reader_readFactor {d : Nat} (d0 : Nat) (hd : d0 < d) {p1 : Int} {h : AH} {Q : Int → AH → Prop} (hy : Call d0 M_Reader_next [vR 4 (-1)] h (fun r2 h1 => ((r2 ≠ 91 → (Call d0 M_Reader_isDigit [vI r2] h1 (fun r4 h3 => ((r4 = 0 → ((r2 < 97 → A_Reader_readFactor_68 d0 Q  h3) ∧ (97 ≤ r2 → ((r2 ≤ 122 → (((97 ≤ r2 ∧ r2 ≤ 122) ∧ 4 ≤ d0) ∧ A_Reader_readFactor_79 d0 Q (nameAt r2) h3)) ∧ (122 < r2 → A_Reader_readFactor_68 d0 Q  h3))))) ∧ (r4 ≠ 0 → (Call d0 M_Reader_readNumber [vR 4 (-1)] h3 (fun r7 h6 => (r7 = 0 ∨ r7 = 1) ∧ Q r7 h6))))))) ∧ (r2 = 91 → (Call d0 M_Reader_opens [vR 4 (-1), vI p1] h1 (fun r10 h9 => ((r10 = 0 → Q 0 h9) ∧ (r10 ≠ 0 → (inI (p1 + 1) ∧ (Call d0 M_Reader_readSum [vR 4 (-1), vI (p1 + 1)] h9 (fun r13 h12 => ((r13 = 0 → Q 0 h12) ∧ (r13 ≠ 0 → (Call d0 M_Reader_passes [vR 4 (-1), vI 93] h12 (fun r15 h14 => ((r15 = 0 → Q 0 h14) ∧ (r15 ≠ 0 → Q 1 h14))))))))))))))))) : Call d M_Reader_readFactor [vR 4 (-1), vI p1] h Q := by
  refine ⟨d0, hd, Big.of rfl (Nat.le_of_ble_eq_true rfl) ?_⟩
  show AW d0 M_Reader_readFactor Q 0 [some (vR 4 (-1)), some (vI p1), none, none] [] h
  refine a_aload_n dX1_readFactor_0 rfl ?_
  refine a_callVi (as := []) (st := []) dX1_readFactor_1 lk_Reader_35 sk_4 rfl rfl (Nat.le_of_ble_eq_true rfl) (Or.inl rfl) (Call.mono hy (fun r2 h1 _ hy => ?_))
  refine a_istore_n (i := 2) (ls2 := [some (vR 4 (-1)), some (vI p1), some (vI r2), none]) dX1_readFactor_4 rfl (Nat.le_of_ble_eq_true rfl) rfl ?_
  refine a_iload_n dX1_readFactor_5 rfl ?_
  refine a_bipush (x := 91) dX1_readFactor_6 (by decide) ⟨by decide, by decide⟩ ?_
  refine a_icmp_ne (tgt := 44) dX1_readFactor_8 (by decide) (fun c => ?_) (fun c => ?_)
  · have hy := hy.1 c
    refine a_iload_n dX1_readFactor_44 rfl ?_
    refine a_callSi (as := [vI r2]) (st := []) dX1_readFactor_45 lk_Reader_95 rfl rfl (Nat.le_of_ble_eq_true rfl) (Or.inr rfl) (Call.mono hy (fun r4 h3 _ hy => ?_))
    refine a_if_eq (tgt := 56) dX1_readFactor_48 (by decide) (fun c => ?_) (fun c => ?_)
    · have hy := hy.1 c
      refine a_iload_n dX1_readFactor_56 rfl ?_
      refine a_bipush (x := 97) dX1_readFactor_57 (by decide) ⟨by decide, by decide⟩ ?_
      refine a_icmp_lt (tgt := 68) dX1_readFactor_59 (by decide) (fun c => ?_) (fun c => ?_)
      · have hy := hy.1 c
        refine a_mask [true, false, false, true] (ls2 := [some (vR 4 (-1)), none, none, none]) rfl rfl ?_
        exact hy
      · have hy := hy.2 (Int.not_lt.mp c)
        refine a_iload_n dX1_readFactor_62 rfl ?_
        refine a_bipush (x := 122) dX1_readFactor_63 (by decide) ⟨by decide, by decide⟩ ?_
        refine a_icmp_le (tgt := 72) dX1_readFactor_65 (by decide) (fun c => ?_) (fun c => ?_)
        · have hy := hy.1 c
          obtain ⟨c5, hy⟩ := hy
          refine a_strindex_72 c5 rfl rfl ?_
          refine a_mask [true, false, false, true] (ls2 := [some (vR 4 (-1)), none, none, none]) rfl rfl ?_
          exact hy
        · have hy := hy.2 (Int.not_le.mp c)
          refine a_mask [true, false, false, true] (ls2 := [some (vR 4 (-1)), none, none, none]) rfl rfl ?_
          exact hy
    · have hy := hy.2 (c)
      refine a_aload_n dX1_readFactor_51 rfl ?_
      refine a_callVi (as := []) (st := []) dX1_readFactor_52 lk_Reader_98 sk_4 rfl rfl (Nat.le_of_ble_eq_true rfl) (Or.inr rfl) (Call.mono hy (fun r7 h6 _ hy => ?_))
      obtain ⟨c8, hy⟩ := hy
      exact a_zret dX1_readFactor_55 rfl c8 hy
  · have hy := hy.2 (Decidable.not_not.mp c)
    refine a_aload_n dX1_readFactor_11 rfl ?_
    refine a_iload_n dX1_readFactor_12 rfl ?_
    refine a_callVi (as := [vI p1]) (st := []) dX1_readFactor_13 lk_Reader_67 sk_4 rfl rfl (Nat.le_of_ble_eq_true rfl) (Or.inr rfl) (Call.mono hy (fun r10 h9 _ hy => ?_))
    refine a_if_eq (tgt := 42) dX1_readFactor_16 (by decide) (fun c => ?_) (fun c => ?_)
    · have hy := hy.1 c
      refine a_iconst (x := 0) dX1_readFactor_42 rfl ⟨by decide, by decide⟩ ?_
      exact a_zret dX1_readFactor_43 rfl (Or.inl rfl) hy
    · have hy := hy.2 (c)
      refine a_aload_n dX1_readFactor_19 rfl ?_
      refine a_iload_n dX1_readFactor_20 rfl ?_
      refine a_iconst (x := 1) dX1_readFactor_21 rfl ⟨by decide, by decide⟩ ?_
      obtain ⟨c11, hy⟩ := hy
      refine a_iadd dX1_readFactor_22 c11 ?_
      refine a_callVi (as := [vI (p1 + 1)]) (st := []) dX1_readFactor_23 lk_Reader_53 sk_4 rfl rfl (Nat.le_of_ble_eq_true rfl) (Or.inr rfl) (Call.mono hy (fun r13 h12 _ hy => ?_))
      refine a_if_eq (tgt := 42) dX1_readFactor_26 (by decide) (fun c => ?_) (fun c => ?_)
      · have hy := hy.1 c
        refine a_iconst (x := 0) dX1_readFactor_42 rfl ⟨by decide, by decide⟩ ?_
        exact a_zret dX1_readFactor_43 rfl (Or.inl rfl) hy
      · have hy := hy.2 (c)
        refine a_aload_n dX1_readFactor_29 rfl ?_
        refine a_bipush (x := 93) dX1_readFactor_30 (by decide) ⟨by decide, by decide⟩ ?_
        refine a_callVi (as := [vI 93]) (st := []) dX1_readFactor_32 lk_Reader_47 sk_4 rfl rfl (Nat.le_of_ble_eq_true rfl) (Or.inr rfl) (Call.mono hy (fun r15 h14 _ hy => ?_))
        refine a_if_eq (tgt := 42) dX1_readFactor_35 (by decide) (fun c => ?_) (fun c => ?_)
        · have hy := hy.1 c
          refine a_iconst (x := 0) dX1_readFactor_42 rfl ⟨by decide, by decide⟩ ?_
          exact a_zret dX1_readFactor_43 rfl (Or.inl rfl) hy
        · have hy := hy.2 (c)
          refine a_iconst (x := 1) dX1_readFactor_38 rfl ⟨by decide, by decide⟩ ?_
          refine a_goto (tgt := 43) dX1_readFactor_39 (by decide) ?_
          exact a_zret dX1_readFactor_43 rfl (Or.inr rfl) hy
def A_Reader_readNumber_4 (d : Nat) (Q : Int → AH → Prop) (v1 : Int) (v2 : Int) (h : AH) : Prop := AW d M_Reader_readNumber Q 4 [some (vR 4 (-1)), some (vI v1), some (vI v2)] [] h
def A_Reader_readNumber_51 (d : Nat) (Q : Int → AH → Prop) (v1 : Int) (h : AH) : Prop := AW d M_Reader_readNumber Q 51 [some (vR 4 (-1)), some (vI v1), none] [] h
theorem s_Reader_readNumber_4 {d : Nat} {Q : Int → AH → Prop} {v1 : Int} {v2 : Int} {h : AH} (hy : ((5 ≤ v2 → A_Reader_readNumber_51 d Q v1 h) ∧ (v2 < 5 → (Call d M_Reader_next [vR 4 (-1)] h (fun r2 h1 => Call d M_Reader_isDigit [vI r2] h1 (fun r4 h3 => ((r4 ≠ 0 → (inI (10 * v1) ∧ (Call d M_Reader_next [vR 4 (-1)] h3 (fun r7 h6 => inI ((10 * v1) + r7) ∧ (inI (((10 * v1) + r7) - 48) ∧ (inI ((h6.1 4 3) + 1) ∧ (inI (v2 + 1) ∧ A_Reader_readNumber_4 d Q (((10 * v1) + r7) - 48) (v2 + 1) (wI h6 4 3 ((h6.1 4 3) + 1))))))))) ∧ (r4 = 0 → A_Reader_readNumber_51 d Q v1 h3)))))))) : A_Reader_readNumber_4 d Q v1 v2 h := by
  show AW d M_Reader_readNumber Q 4 [some (vR 4 (-1)), some (vI v1), some (vI v2)] [] h
  refine a_iload_n dX1_readNumber_4 rfl ?_
  refine a_iconst (x := 5) dX1_readNumber_5 rfl ⟨by decide, by decide⟩ ?_
  refine a_icmp_ge (tgt := 51) dX1_readNumber_6 (by decide) (fun c => ?_) (fun c => ?_)
  · have hy := hy.1 c
    refine a_mask [true, true, false] (ls2 := [some (vR 4 (-1)), some (vI v1), none]) rfl rfl ?_
    exact hy
  · have hy := hy.2 (Int.not_le.mp c)
    refine a_aload_n dX1_readNumber_9 rfl ?_
    refine a_callVi (as := []) (st := []) dX1_readNumber_10 lk_Reader_35 sk_4 rfl rfl (Nat.le_of_ble_eq_true rfl) (Or.inl rfl) (Call.mono hy (fun r2 h1 _ hy => ?_))
    refine a_callSi (as := [vI r2]) (st := []) dX1_readNumber_13 lk_Reader_95 rfl rfl (Nat.le_of_ble_eq_true rfl) (Or.inr rfl) (Call.mono hy (fun r4 h3 _ hy => ?_))
    refine a_if_ne (tgt := 22) dX1_readNumber_16 (by decide) (fun c => ?_) (fun c => ?_)
    · have hy := hy.1 c
      refine a_bipush (x := 10) dX1_readNumber_22 (by decide) ⟨by decide, by decide⟩ ?_
      refine a_iload_n dX1_readNumber_24 rfl ?_
      obtain ⟨c5, hy⟩ := hy
      refine a_imul dX1_readNumber_25 c5 ?_
      refine a_aload_n dX1_readNumber_26 rfl ?_
      refine a_callVi (as := []) (st := [vI (10 * v1)]) dX1_readNumber_27 lk_Reader_35 sk_4 rfl rfl (Nat.le_of_ble_eq_true rfl) (Or.inl rfl) (Call.mono hy (fun r7 h6 _ hy => ?_))
      obtain ⟨c8, hy⟩ := hy
      refine a_iadd dX1_readNumber_30 c8 ?_
      refine a_bipush (x := 48) dX1_readNumber_31 (by decide) ⟨by decide, by decide⟩ ?_
      obtain ⟨c9, hy⟩ := hy
      refine a_isub dX1_readNumber_33 c9 ?_
      refine a_istore_n (i := 1) (ls2 := [some (vR 4 (-1)), some (vI (((10 * v1) + r7) - 48)), some (vI v2)]) dX1_readNumber_34 rfl (Nat.le_of_ble_eq_true rfl) rfl ?_
      refine a_aload_n dX1_readNumber_35 rfl ?_
      refine a_dupR dX1_readNumber_36 ?_
      refine a_getI' (kz := 3) dX1_readNumber_37 fl_Reader_26 sk_4 rfl rfl (rfl) ?_
      refine a_iconst (x := 1) dX1_readNumber_40 rfl ⟨by decide, by decide⟩ ?_
      obtain ⟨c10, hy⟩ := hy
      refine a_iadd dX1_readNumber_41 c10 ?_
      refine a_putI (kz := 3) dX1_readNumber_42 fp_Reader_26 sk_4 rfl rfl ?_
      obtain ⟨c11, hy⟩ := hy
      refine a_iinc (y := v2 + 1) (ls2 := [some (vR 4 (-1)), some (vI (((10 * v1) + r7) - 48)), some (vI (v2 + 1))]) dX1_readNumber_45 rfl rfl c11 rfl ?_
      refine a_goto (tgt := 4) dX1_readNumber_48 (by decide) ?_
      exact hy
    · have hy := hy.2 (Decidable.not_not.mp c)
      refine a_goto (tgt := 51) dX1_readNumber_19 (by decide) ?_
      refine a_mask [true, true, false] (ls2 := [some (vR 4 (-1)), some (vI v1), none]) rfl rfl ?_
      exact hy
theorem s_Reader_readNumber_51 {d : Nat} {Q : Int → AH → Prop} {v1 : Int} {h : AH} (hy : Call d M_Reader_next [vR 4 (-1)] h (fun r2 h1 => Call d M_Reader_isDigit [vI r2] h1 (fun r4 h3 => ((r4 = 0 → (Call d M_LawCode_put [vR 5 (-1), vI 1, vI v1] h3 (fun r6 h5 => Q 1 h5))) ∧ (r4 ≠ 0 → (Call d M_Reader_fails [vR 4 (-1), vI 2] h3 (fun r8 h7 => (r8 = 0 ∨ r8 = 1) ∧ Q r8 h7))))))) : A_Reader_readNumber_51 d Q v1 h := by
  show AW d M_Reader_readNumber Q 51 [some (vR 4 (-1)), some (vI v1), none] [] h
  refine a_aload_n dX1_readNumber_51 rfl ?_
  refine a_callVi (as := []) (st := []) dX1_readNumber_52 lk_Reader_35 sk_4 rfl rfl (Nat.le_of_ble_eq_true rfl) (Or.inl rfl) (Call.mono hy (fun r2 h1 _ hy => ?_))
  refine a_callSi (as := [vI r2]) (st := []) dX1_readNumber_55 lk_Reader_95 rfl rfl (Nat.le_of_ble_eq_true rfl) (Or.inr rfl) (Call.mono hy (fun r4 h3 _ hy => ?_))
  refine a_if_eq (tgt := 67) dX1_readNumber_58 (by decide) (fun c => ?_) (fun c => ?_)
  · have hy := hy.1 c
    refine a_aload_n dX1_readNumber_67 rfl ?_
    refine a_getR dX1_readNumber_68 fl_Reader_12 sk_4 rfl ?_
    refine a_iconst (x := 1) dX1_readNumber_71 rfl ⟨by decide, by decide⟩ ?_
    refine a_iload_n dX1_readNumber_72 rfl ?_
    refine a_callVi (as := [vI 1, vI v1]) (st := []) dX1_readNumber_73 lk_Reader_56 sk_5 rfl rfl (Nat.le_of_ble_eq_true rfl) (Or.inl rfl) (Call.mono hy (fun r6 h5 _ hy => ?_))
    refine a_pop dX1_readNumber_76 ?_
    refine a_iconst (x := 1) dX1_readNumber_77 rfl ⟨by decide, by decide⟩ ?_
    exact a_zret dX1_readNumber_78 rfl (Or.inr rfl) hy
  · have hy := hy.2 (c)
    refine a_aload_n dX1_readNumber_61 rfl ?_
    refine a_iconst (x := 2) dX1_readNumber_62 rfl ⟨by decide, by decide⟩ ?_
    refine a_callVi (as := [vI 2]) (st := []) dX1_readNumber_63 lk_Reader_39 sk_4 rfl rfl (Nat.le_of_ble_eq_true rfl) (Or.inr rfl) (Call.mono hy (fun r8 h7 _ hy => ?_))
    obtain ⟨c9, hy⟩ := hy
    exact a_zret dX1_readNumber_66 rfl c9 hy
theorem c_Reader_readNumber {d : Nat} (d0 : Nat) (hd : d0 < d)  {h : AH} {Q : Int → AH → Prop} (hy : A_Reader_readNumber_4 d0 Q 0 0 h) : Call d M_Reader_readNumber [vR 4 (-1)] h Q := by
  refine ⟨d0, hd, Big.of rfl (Nat.le_of_ble_eq_true rfl) ?_⟩
  show AW d0 M_Reader_readNumber Q 0 [some (vR 4 (-1)), none, none] [] h
  refine a_iconst (x := 0) dX1_readNumber_0 rfl ⟨by decide, by decide⟩ ?_
  refine a_istore_n (i := 1) (ls2 := [some (vR 4 (-1)), some (vI 0), none]) dX1_readNumber_1 rfl (Nat.le_of_ble_eq_true rfl) rfl ?_
  refine a_iconst (x := 0) dX1_readNumber_2 rfl ⟨by decide, by decide⟩ ?_
  refine a_istore_n (i := 2) (ls2 := [some (vR 4 (-1)), some (vI 0), some (vI 0)]) dX1_readNumber_3 rfl (Nat.le_of_ble_eq_true rfl) rfl ?_
  exact hy
def A_Reader_readParts_4 (d : Nat) (Q : Int → AH → Prop) (p1 : Int) (v2 : Int) (v3 : Int) (h : AH) : Prop := AW d M_Reader_readParts Q 4 [some (vR 4 (-1)), some (vI p1), some (vI v2), some (vI v3)] [] h
theorem s_Reader_readParts_4 {d : Nat} {Q : Int → AH → Prop} {p1 : Int} {v2 : Int} {v3 : Int} {h : AH} (hy : ((160 < v3 → (Call d M_Reader_fails [vR 4 (-1), vI 1] h (fun r2 h1 => (r2 = 0 ∨ r2 = 1) ∧ Q r2 h1))) ∧ (v3 ≤ 160 → (Call d M_Reader_readPieces [vR 4 (-1), vI p1] h (fun r5 h4 => ((r5 ≠ 0 → (Call d M_Reader_next [vR 4 (-1)] h4 (fun r7 h6 => ((r7 = 124 → (inI ((h6.1 4 3) + 1) ∧ (Call d M_LawCode_put [vR 5 (-1), vI 4, vI v2] (wI h6 4 3 ((h6.1 4 3) + 1)) (fun r10 h9 => inI (v3 + 1) ∧ A_Reader_readParts_4 d Q p1 r10 (v3 + 1) h9)))) ∧ (r7 ≠ 124 → (Call d M_LawCode_landHere [vR 5 (-1), vI v2] h6 (fun _ h12 => Q 1 h12))))))) ∧ (r5 = 0 → Q 0 h4))))))) : A_Reader_readParts_4 d Q p1 v2 v3 h := by
  show AW d M_Reader_readParts Q 4 [some (vR 4 (-1)), some (vI p1), some (vI v2), some (vI v3)] [] h
  refine a_iload_n dX1_readParts_4 rfl ?_
  refine a_sipush (x := 160) dX1_readParts_5 (by decide) ⟨by decide, by decide⟩ ?_
  refine a_icmp_gt (tgt := 66) dX1_readParts_8 (by decide) (fun c => ?_) (fun c => ?_)
  · have hy := hy.1 c
    refine a_aload_n dX1_readParts_66 rfl ?_
    refine a_iconst (x := 1) dX1_readParts_67 rfl ⟨by decide, by decide⟩ ?_
    refine a_callVi (as := [vI 1]) (st := []) dX1_readParts_68 lk_Reader_39 sk_4 rfl rfl (Nat.le_of_ble_eq_true rfl) (Or.inr rfl) (Call.mono hy (fun r2 h1 _ hy => ?_))
    obtain ⟨c3, hy⟩ := hy
    exact a_zret dX1_readParts_71 rfl c3 hy
  · have hy := hy.2 (Int.not_lt.mp c)
    refine a_aload_n dX1_readParts_11 rfl ?_
    refine a_iload_n dX1_readParts_12 rfl ?_
    refine a_callVi (as := [vI p1]) (st := []) dX1_readParts_13 lk_Reader_73 sk_4 rfl rfl (Nat.le_of_ble_eq_true rfl) (Or.inr rfl) (Call.mono hy (fun r5 h4 _ hy => ?_))
    refine a_if_ne (tgt := 21) dX1_readParts_16 (by decide) (fun c => ?_) (fun c => ?_)
    · have hy := hy.1 c
      refine a_aload_n dX1_readParts_21 rfl ?_
      refine a_callVi (as := []) (st := []) dX1_readParts_22 lk_Reader_35 sk_4 rfl rfl (Nat.le_of_ble_eq_true rfl) (Or.inl rfl) (Call.mono hy (fun r7 h6 _ hy => ?_))
      refine a_bipush (x := 124) dX1_readParts_25 (by decide) ⟨by decide, by decide⟩ ?_
      refine a_icmp_eq (tgt := 40) dX1_readParts_27 (by decide) (fun c => ?_) (fun c => ?_)
      · have hy := hy.1 c
        refine a_aload_n dX1_readParts_40 rfl ?_
        refine a_dupR dX1_readParts_41 ?_
        refine a_getI' (kz := 3) dX1_readParts_42 fl_Reader_26 sk_4 rfl rfl (rfl) ?_
        refine a_iconst (x := 1) dX1_readParts_45 rfl ⟨by decide, by decide⟩ ?_
        obtain ⟨c8, hy⟩ := hy
        refine a_iadd dX1_readParts_46 c8 ?_
        refine a_putI (kz := 3) dX1_readParts_47 fp_Reader_26 sk_4 rfl rfl ?_
        refine a_aload_n dX1_readParts_50 rfl ?_
        refine a_getR dX1_readParts_51 fl_Reader_12 sk_4 rfl ?_
        refine a_iconst (x := 4) dX1_readParts_54 rfl ⟨by decide, by decide⟩ ?_
        refine a_iload_n dX1_readParts_55 rfl ?_
        refine a_callVi (as := [vI 4, vI v2]) (st := []) dX1_readParts_56 lk_Reader_56 sk_5 rfl rfl (Nat.le_of_ble_eq_true rfl) (Or.inl rfl) (Call.mono hy (fun r10 h9 _ hy => ?_))
        refine a_istore_n (i := 2) (ls2 := [some (vR 4 (-1)), some (vI p1), some (vI r10), some (vI v3)]) dX1_readParts_59 rfl (Nat.le_of_ble_eq_true rfl) rfl ?_
        obtain ⟨c11, hy⟩ := hy
        refine a_iinc (y := v3 + 1) (ls2 := [some (vR 4 (-1)), some (vI p1), some (vI r10), some (vI (v3 + 1))]) dX1_readParts_60 rfl rfl c11 rfl ?_
        refine a_goto (tgt := 4) dX1_readParts_63 (by decide) ?_
        exact hy
      · have hy := hy.2 (c)
        refine a_aload_n dX1_readParts_30 rfl ?_
        refine a_getR dX1_readParts_31 fl_Reader_12 sk_4 rfl ?_
        refine a_iload_n dX1_readParts_34 rfl ?_
        refine a_callVv (as := [vI v2]) (st := []) dX1_readParts_35 lk_Reader_76 sk_5 rfl rfl (Nat.le_of_ble_eq_true rfl) rfl (Call.mono hy (fun _ h12 _ hy => ?_))
        refine a_iconst (x := 1) dX1_readParts_38 rfl ⟨by decide, by decide⟩ ?_
        exact a_zret dX1_readParts_39 rfl (Or.inr rfl) hy
    · have hy := hy.2 (Decidable.not_not.mp c)
      refine a_iconst (x := 0) dX1_readParts_19 rfl ⟨by decide, by decide⟩ ?_
      exact a_zret dX1_readParts_20 rfl (Or.inl rfl) hy
theorem c_Reader_readParts {d : Nat} (d0 : Nat) (hd : d0 < d) {p1 : Int} {h : AH} {Q : Int → AH → Prop} (hy : A_Reader_readParts_4 d0 Q p1 (-1) 0 h) : Call d M_Reader_readParts [vR 4 (-1), vI p1] h Q := by
  refine ⟨d0, hd, Big.of rfl (Nat.le_of_ble_eq_true rfl) ?_⟩
  show AW d0 M_Reader_readParts Q 0 [some (vR 4 (-1)), some (vI p1), none, none] [] h
  refine a_iconst (x := (-1)) dX1_readParts_0 rfl ⟨by decide, by decide⟩ ?_
  refine a_istore_n (i := 2) (ls2 := [some (vR 4 (-1)), some (vI p1), some (vI (-1)), none]) dX1_readParts_1 rfl (Nat.le_of_ble_eq_true rfl) rfl ?_
  refine a_iconst (x := 0) dX1_readParts_2 rfl ⟨by decide, by decide⟩ ?_
  refine a_istore_n (i := 3) (ls2 := [some (vR 4 (-1)), some (vI p1), some (vI (-1)), some (vI 0)]) dX1_readParts_3 rfl (Nat.le_of_ble_eq_true rfl) rfl ?_
  exact hy
theorem c_Reader_readPiece {d : Nat} (d0 : Nat) (hd : d0 < d) {p1 : Int} {h : AH} {Q : Int → AH → Prop} (hy : Call d0 M_Reader_next [vR 4 (-1)] h (fun r2 h1 => ((r2 ≠ 40 → ((r2 ≠ 33 → (Call d0 M_Reader_readCompared [vR 4 (-1), vI p1] h1 (fun r4 h3 => (r4 = 0 ∨ r4 = 1) ∧ Q r4 h3))) ∧ (r2 = 33 → (Call d0 M_Reader_readDenied [vR 4 (-1), vI p1] h1 (fun r7 h6 => (r7 = 0 ∨ r7 = 1) ∧ Q r7 h6))))) ∧ (r2 = 40 → (Call d0 M_Reader_readBrackets [vR 4 (-1), vI p1] h1 (fun r10 h9 => (r10 = 0 ∨ r10 = 1) ∧ Q r10 h9)))))) : Call d M_Reader_readPiece [vR 4 (-1), vI p1] h Q := by
  refine ⟨d0, hd, Big.of rfl (Nat.le_of_ble_eq_true rfl) ?_⟩
  show AW d0 M_Reader_readPiece Q 0 [some (vR 4 (-1)), some (vI p1), none] [] h
  refine a_aload_n dX1_readPiece_0 rfl ?_
  refine a_callVi (as := []) (st := []) dX1_readPiece_1 lk_Reader_35 sk_4 rfl rfl (Nat.le_of_ble_eq_true rfl) (Or.inl rfl) (Call.mono hy (fun r2 h1 _ hy => ?_))
  refine a_istore_n (i := 2) (ls2 := [some (vR 4 (-1)), some (vI p1), some (vI r2)]) dX1_readPiece_4 rfl (Nat.le_of_ble_eq_true rfl) rfl ?_
  refine a_iload_n dX1_readPiece_5 rfl ?_
  refine a_bipush (x := 40) dX1_readPiece_6 (by decide) ⟨by decide, by decide⟩ ?_
  refine a_icmp_ne (tgt := 17) dX1_readPiece_8 (by decide) (fun c => ?_) (fun c => ?_)
  · have hy := hy.1 c
    refine a_iload_n dX1_readPiece_17 rfl ?_
    refine a_bipush (x := 33) dX1_readPiece_18 (by decide) ⟨by decide, by decide⟩ ?_
    refine a_icmp_ne (tgt := 31) dX1_readPiece_20 (by decide) (fun c => ?_) (fun c => ?_)
    · have hy := hy.1 c
      refine a_aload_n dX1_readPiece_31 rfl ?_
      refine a_iload_n dX1_readPiece_32 rfl ?_
      refine a_callVi (as := [vI p1]) (st := []) dX1_readPiece_33 lk_Reader_86 sk_4 rfl rfl (Nat.le_of_ble_eq_true rfl) (Or.inr rfl) (Call.mono hy (fun r4 h3 _ hy => ?_))
      obtain ⟨c5, hy⟩ := hy
      exact a_zret dX1_readPiece_36 rfl c5 hy
    · have hy := hy.2 (Decidable.not_not.mp c)
      refine a_aload_n dX1_readPiece_23 rfl ?_
      refine a_iload_n dX1_readPiece_24 rfl ?_
      refine a_callVi (as := [vI p1]) (st := []) dX1_readPiece_25 lk_Reader_83 sk_4 rfl rfl (Nat.le_of_ble_eq_true rfl) (Or.inr rfl) (Call.mono hy (fun r7 h6 _ hy => ?_))
      refine a_goto (tgt := 36) dX1_readPiece_28 (by decide) ?_
      obtain ⟨c8, hy⟩ := hy
      exact a_zret dX1_readPiece_36 rfl c8 hy
  · have hy := hy.2 (Decidable.not_not.mp c)
    refine a_aload_n dX1_readPiece_11 rfl ?_
    refine a_iload_n dX1_readPiece_12 rfl ?_
    refine a_callVi (as := [vI p1]) (st := []) dX1_readPiece_13 lk_Reader_60 sk_4 rfl rfl (Nat.le_of_ble_eq_true rfl) (Or.inr rfl) (Call.mono hy (fun r10 h9 _ hy => ?_))
    obtain ⟨c11, hy⟩ := hy
    exact a_zret dX1_readPiece_16 rfl c11 hy
def A_Reader_readPieces_4 (d : Nat) (Q : Int → AH → Prop) (p1 : Int) (v2 : Int) (v3 : Int) (h : AH) : Prop := AW d M_Reader_readPieces Q 4 [some (vR 4 (-1)), some (vI p1), some (vI v2), some (vI v3)] [] h
theorem s_Reader_readPieces_4 {d : Nat} {Q : Int → AH → Prop} {p1 : Int} {v2 : Int} {v3 : Int} {h : AH} (hy : ((160 < v3 → (Call d M_Reader_fails [vR 4 (-1), vI 1] h (fun r2 h1 => (r2 = 0 ∨ r2 = 1) ∧ Q r2 h1))) ∧ (v3 ≤ 160 → (Call d M_Reader_readPiece [vR 4 (-1), vI p1] h (fun r5 h4 => ((r5 ≠ 0 → (Call d M_Reader_next [vR 4 (-1)] h4 (fun r7 h6 => ((r7 = 38 → (inI ((h6.1 4 3) + 1) ∧ (Call d M_LawCode_put [vR 5 (-1), vI 5, vI v2] (wI h6 4 3 ((h6.1 4 3) + 1)) (fun r10 h9 => inI (v3 + 1) ∧ A_Reader_readPieces_4 d Q p1 r10 (v3 + 1) h9)))) ∧ (r7 ≠ 38 → (Call d M_LawCode_landHere [vR 5 (-1), vI v2] h6 (fun _ h12 => Q 1 h12))))))) ∧ (r5 = 0 → Q 0 h4))))))) : A_Reader_readPieces_4 d Q p1 v2 v3 h := by
  show AW d M_Reader_readPieces Q 4 [some (vR 4 (-1)), some (vI p1), some (vI v2), some (vI v3)] [] h
  refine a_iload_n dX1_readPieces_4 rfl ?_
  refine a_sipush (x := 160) dX1_readPieces_5 (by decide) ⟨by decide, by decide⟩ ?_
  refine a_icmp_gt (tgt := 66) dX1_readPieces_8 (by decide) (fun c => ?_) (fun c => ?_)
  · have hy := hy.1 c
    refine a_aload_n dX1_readPieces_66 rfl ?_
    refine a_iconst (x := 1) dX1_readPieces_67 rfl ⟨by decide, by decide⟩ ?_
    refine a_callVi (as := [vI 1]) (st := []) dX1_readPieces_68 lk_Reader_39 sk_4 rfl rfl (Nat.le_of_ble_eq_true rfl) (Or.inr rfl) (Call.mono hy (fun r2 h1 _ hy => ?_))
    obtain ⟨c3, hy⟩ := hy
    exact a_zret dX1_readPieces_71 rfl c3 hy
  · have hy := hy.2 (Int.not_lt.mp c)
    refine a_aload_n dX1_readPieces_11 rfl ?_
    refine a_iload_n dX1_readPieces_12 rfl ?_
    refine a_callVi (as := [vI p1]) (st := []) dX1_readPieces_13 lk_Reader_80 sk_4 rfl rfl (Nat.le_of_ble_eq_true rfl) (Or.inr rfl) (Call.mono hy (fun r5 h4 _ hy => ?_))
    refine a_if_ne (tgt := 21) dX1_readPieces_16 (by decide) (fun c => ?_) (fun c => ?_)
    · have hy := hy.1 c
      refine a_aload_n dX1_readPieces_21 rfl ?_
      refine a_callVi (as := []) (st := []) dX1_readPieces_22 lk_Reader_35 sk_4 rfl rfl (Nat.le_of_ble_eq_true rfl) (Or.inl rfl) (Call.mono hy (fun r7 h6 _ hy => ?_))
      refine a_bipush (x := 38) dX1_readPieces_25 (by decide) ⟨by decide, by decide⟩ ?_
      refine a_icmp_eq (tgt := 40) dX1_readPieces_27 (by decide) (fun c => ?_) (fun c => ?_)
      · have hy := hy.1 c
        refine a_aload_n dX1_readPieces_40 rfl ?_
        refine a_dupR dX1_readPieces_41 ?_
        refine a_getI' (kz := 3) dX1_readPieces_42 fl_Reader_26 sk_4 rfl rfl (rfl) ?_
        refine a_iconst (x := 1) dX1_readPieces_45 rfl ⟨by decide, by decide⟩ ?_
        obtain ⟨c8, hy⟩ := hy
        refine a_iadd dX1_readPieces_46 c8 ?_
        refine a_putI (kz := 3) dX1_readPieces_47 fp_Reader_26 sk_4 rfl rfl ?_
        refine a_aload_n dX1_readPieces_50 rfl ?_
        refine a_getR dX1_readPieces_51 fl_Reader_12 sk_4 rfl ?_
        refine a_iconst (x := 5) dX1_readPieces_54 rfl ⟨by decide, by decide⟩ ?_
        refine a_iload_n dX1_readPieces_55 rfl ?_
        refine a_callVi (as := [vI 5, vI v2]) (st := []) dX1_readPieces_56 lk_Reader_56 sk_5 rfl rfl (Nat.le_of_ble_eq_true rfl) (Or.inl rfl) (Call.mono hy (fun r10 h9 _ hy => ?_))
        refine a_istore_n (i := 2) (ls2 := [some (vR 4 (-1)), some (vI p1), some (vI r10), some (vI v3)]) dX1_readPieces_59 rfl (Nat.le_of_ble_eq_true rfl) rfl ?_
        obtain ⟨c11, hy⟩ := hy
        refine a_iinc (y := v3 + 1) (ls2 := [some (vR 4 (-1)), some (vI p1), some (vI r10), some (vI (v3 + 1))]) dX1_readPieces_60 rfl rfl c11 rfl ?_
        refine a_goto (tgt := 4) dX1_readPieces_63 (by decide) ?_
        exact hy
      · have hy := hy.2 (c)
        refine a_aload_n dX1_readPieces_30 rfl ?_
        refine a_getR dX1_readPieces_31 fl_Reader_12 sk_4 rfl ?_
        refine a_iload_n dX1_readPieces_34 rfl ?_
        refine a_callVv (as := [vI v2]) (st := []) dX1_readPieces_35 lk_Reader_76 sk_5 rfl rfl (Nat.le_of_ble_eq_true rfl) rfl (Call.mono hy (fun _ h12 _ hy => ?_))
        refine a_iconst (x := 1) dX1_readPieces_38 rfl ⟨by decide, by decide⟩ ?_
        exact a_zret dX1_readPieces_39 rfl (Or.inr rfl) hy
    · have hy := hy.2 (Decidable.not_not.mp c)
      refine a_iconst (x := 0) dX1_readPieces_19 rfl ⟨by decide, by decide⟩ ?_
      exact a_zret dX1_readPieces_20 rfl (Or.inl rfl) hy
theorem c_Reader_readPieces {d : Nat} (d0 : Nat) (hd : d0 < d) {p1 : Int} {h : AH} {Q : Int → AH → Prop} (hy : A_Reader_readPieces_4 d0 Q p1 (-1) 0 h) : Call d M_Reader_readPieces [vR 4 (-1), vI p1] h Q := by
  refine ⟨d0, hd, Big.of rfl (Nat.le_of_ble_eq_true rfl) ?_⟩
  show AW d0 M_Reader_readPieces Q 0 [some (vR 4 (-1)), some (vI p1), none, none] [] h
  refine a_iconst (x := (-1)) dX1_readPieces_0 rfl ⟨by decide, by decide⟩ ?_
  refine a_istore_n (i := 2) (ls2 := [some (vR 4 (-1)), some (vI p1), some (vI (-1)), none]) dX1_readPieces_1 rfl (Nat.le_of_ble_eq_true rfl) rfl ?_
  refine a_iconst (x := 0) dX1_readPieces_2 rfl ⟨by decide, by decide⟩ ?_
  refine a_istore_n (i := 3) (ls2 := [some (vR 4 (-1)), some (vI p1), some (vI (-1)), some (vI 0)]) dX1_readPieces_3 rfl (Nat.le_of_ble_eq_true rfl) rfl ?_
  exact hy
def A_Reader_readProduct_4 (d : Nat) (Q : Int → AH → Prop) (p1 : Int) (v2 : Int) (v3 : Int) (h : AH) : Prop := AW d M_Reader_readProduct Q 4 [some (vR 4 (-1)), some (vI p1), some (vI v2), some (vI v3)] [] h
def A_Reader_readProduct_35 (d : Nat) (Q : Int → AH → Prop) (p1 : Int) (v3 : Int) (h : AH) : Prop := AW d M_Reader_readProduct Q 35 [some (vR 4 (-1)), some (vI p1), none, some (vI v3)] [] h
def A_Reader_readProduct_60 (d : Nat) (Q : Int → AH → Prop) (p1 : Int) (v2 : Int) (v3 : Int) (h : AH) : Prop := AW d M_Reader_readProduct Q 60 [some (vR 4 (-1)), some (vI p1), some (vI v2), some (vI v3)] [] h
theorem s_Reader_readProduct_4 {d : Nat} {Q : Int → AH → Prop} {p1 : Int} {v2 : Int} {v3 : Int} {h : AH} (hy : ((160 < v3 → (Call d M_Reader_fails [vR 4 (-1), vI 1] h (fun r2 h1 => (r2 = 0 ∨ r2 = 1) ∧ Q r2 h1))) ∧ (v3 ≤ 160 → (Call d M_Reader_readFactor [vR 4 (-1), vI p1] h (fun r5 h4 => ((r5 ≠ 0 → ((v2 = 0 → A_Reader_readProduct_35 d Q p1 v3 h4) ∧ (v2 ≠ 0 → (Call d M_LawCode_put [vR 5 (-1), vI v2, vI 0] h4 (fun r7 h6 => A_Reader_readProduct_35 d Q p1 v3 h6))))) ∧ (r5 = 0 → Q 0 h4))))))) : A_Reader_readProduct_4 d Q p1 v2 v3 h := by
  show AW d M_Reader_readProduct Q 4 [some (vR 4 (-1)), some (vI p1), some (vI v2), some (vI v3)] [] h
  refine a_iload_n dX1_readProduct_4 rfl ?_
  refine a_sipush (x := 160) dX1_readProduct_5 (by decide) ⟨by decide, by decide⟩ ?_
  refine a_icmp_gt (tgt := 76) dX1_readProduct_8 (by decide) (fun c => ?_) (fun c => ?_)
  · have hy := hy.1 c
    refine a_aload_n dX1_readProduct_76 rfl ?_
    refine a_iconst (x := 1) dX1_readProduct_77 rfl ⟨by decide, by decide⟩ ?_
    refine a_callVi (as := [vI 1]) (st := []) dX1_readProduct_78 lk_Reader_39 sk_4 rfl rfl (Nat.le_of_ble_eq_true rfl) (Or.inr rfl) (Call.mono hy (fun r2 h1 _ hy => ?_))
    obtain ⟨c3, hy⟩ := hy
    exact a_zret dX1_readProduct_81 rfl c3 hy
  · have hy := hy.2 (Int.not_lt.mp c)
    refine a_aload_n dX1_readProduct_11 rfl ?_
    refine a_iload_n dX1_readProduct_12 rfl ?_
    refine a_callVi (as := [vI p1]) (st := []) dX1_readProduct_13 lk_Reader_92 sk_4 rfl rfl (Nat.le_of_ble_eq_true rfl) (Or.inr rfl) (Call.mono hy (fun r5 h4 _ hy => ?_))
    refine a_if_ne (tgt := 21) dX1_readProduct_16 (by decide) (fun c => ?_) (fun c => ?_)
    · have hy := hy.1 c
      refine a_iload_n dX1_readProduct_21 rfl ?_
      refine a_if_eq (tgt := 35) dX1_readProduct_22 (by decide) (fun c => ?_) (fun c => ?_)
      · have hy := hy.1 c
        refine a_mask [true, true, false, true] (ls2 := [some (vR 4 (-1)), some (vI p1), none, some (vI v3)]) rfl rfl ?_
        exact hy
      · have hy := hy.2 (c)
        refine a_aload_n dX1_readProduct_25 rfl ?_
        refine a_getR dX1_readProduct_26 fl_Reader_12 sk_4 rfl ?_
        refine a_iload_n dX1_readProduct_29 rfl ?_
        refine a_iconst (x := 0) dX1_readProduct_30 rfl ⟨by decide, by decide⟩ ?_
        refine a_callVi (as := [vI v2, vI 0]) (st := []) dX1_readProduct_31 lk_Reader_56 sk_5 rfl rfl (Nat.le_of_ble_eq_true rfl) (Or.inl rfl) (Call.mono hy (fun r7 h6 _ hy => ?_))
        refine a_pop dX1_readProduct_34 ?_
        refine a_mask [true, true, false, true] (ls2 := [some (vR 4 (-1)), some (vI p1), none, some (vI v3)]) rfl rfl ?_
        exact hy
    · have hy := hy.2 (Decidable.not_not.mp c)
      refine a_iconst (x := 0) dX1_readProduct_19 rfl ⟨by decide, by decide⟩ ?_
      exact a_zret dX1_readProduct_20 rfl (Or.inl rfl) hy
theorem s_Reader_readProduct_35 {d : Nat} {Q : Int → AH → Prop} {p1 : Int} {v3 : Int} {h : AH} (hy : Call d M_Reader_next [vR 4 (-1)] h (fun r2 h1 => ((r2 = 42 → A_Reader_readProduct_60 d Q p1 r2 v3 h1) ∧ (r2 ≠ 42 → ((r2 = 47 → A_Reader_readProduct_60 d Q p1 r2 v3 h1) ∧ (r2 ≠ 47 → ((r2 = 37 → A_Reader_readProduct_60 d Q p1 r2 v3 h1) ∧ (r2 ≠ 37 → Q 1 h1)))))))) : A_Reader_readProduct_35 d Q p1 v3 h := by
  show AW d M_Reader_readProduct Q 35 [some (vR 4 (-1)), some (vI p1), none, some (vI v3)] [] h
  refine a_aload_n dX1_readProduct_35 rfl ?_
  refine a_callVi (as := []) (st := []) dX1_readProduct_36 lk_Reader_35 sk_4 rfl rfl (Nat.le_of_ble_eq_true rfl) (Or.inl rfl) (Call.mono hy (fun r2 h1 _ hy => ?_))
  refine a_istore_n (i := 2) (ls2 := [some (vR 4 (-1)), some (vI p1), some (vI r2), some (vI v3)]) dX1_readProduct_39 rfl (Nat.le_of_ble_eq_true rfl) rfl ?_
  refine a_iload_n dX1_readProduct_40 rfl ?_
  refine a_bipush (x := 42) dX1_readProduct_41 (by decide) ⟨by decide, by decide⟩ ?_
  refine a_icmp_eq (tgt := 60) dX1_readProduct_43 (by decide) (fun c => ?_) (fun c => ?_)
  · have hy := hy.1 c
    exact hy
  · have hy := hy.2 (c)
    refine a_iload_n dX1_readProduct_46 rfl ?_
    refine a_bipush (x := 47) dX1_readProduct_47 (by decide) ⟨by decide, by decide⟩ ?_
    refine a_icmp_eq (tgt := 60) dX1_readProduct_49 (by decide) (fun c => ?_) (fun c => ?_)
    · have hy := hy.1 c
      exact hy
    · have hy := hy.2 (c)
      refine a_iload_n dX1_readProduct_52 rfl ?_
      refine a_bipush (x := 37) dX1_readProduct_53 (by decide) ⟨by decide, by decide⟩ ?_
      refine a_icmp_eq (tgt := 60) dX1_readProduct_55 (by decide) (fun c => ?_) (fun c => ?_)
      · have hy := hy.1 c
        exact hy
      · have hy := hy.2 (c)
        refine a_iconst (x := 1) dX1_readProduct_58 rfl ⟨by decide, by decide⟩ ?_
        exact a_zret dX1_readProduct_59 rfl (Or.inr rfl) hy
theorem s_Reader_readProduct_60 {d : Nat} {Q : Int → AH → Prop} {p1 : Int} {v2 : Int} {v3 : Int} {h : AH} (hy : inI ((h.1 4 3) + 1) ∧ (inI (v3 + 1) ∧ A_Reader_readProduct_4 d Q p1 v2 (v3 + 1) (wI h 4 3 ((h.1 4 3) + 1)))) : A_Reader_readProduct_60 d Q p1 v2 v3 h := by
  show AW d M_Reader_readProduct Q 60 [some (vR 4 (-1)), some (vI p1), some (vI v2), some (vI v3)] [] h
  refine a_aload_n dX1_readProduct_60 rfl ?_
  refine a_dupR dX1_readProduct_61 ?_
  refine a_getI' (kz := 3) dX1_readProduct_62 fl_Reader_26 sk_4 rfl rfl (rfl) ?_
  refine a_iconst (x := 1) dX1_readProduct_65 rfl ⟨by decide, by decide⟩ ?_
  obtain ⟨c1, hy⟩ := hy
  refine a_iadd dX1_readProduct_66 c1 ?_
  refine a_putI (kz := 3) dX1_readProduct_67 fp_Reader_26 sk_4 rfl rfl ?_
  obtain ⟨c2, hy⟩ := hy
  refine a_iinc (y := v3 + 1) (ls2 := [some (vR 4 (-1)), some (vI p1), some (vI v2), some (vI (v3 + 1))]) dX1_readProduct_70 rfl rfl c2 rfl ?_
  refine a_goto (tgt := 4) dX1_readProduct_73 (by decide) ?_
  exact hy
theorem c_Reader_readProduct {d : Nat} (d0 : Nat) (hd : d0 < d) {p1 : Int} {h : AH} {Q : Int → AH → Prop} (hy : A_Reader_readProduct_4 d0 Q p1 0 0 h) : Call d M_Reader_readProduct [vR 4 (-1), vI p1] h Q := by
  refine ⟨d0, hd, Big.of rfl (Nat.le_of_ble_eq_true rfl) ?_⟩
  show AW d0 M_Reader_readProduct Q 0 [some (vR 4 (-1)), some (vI p1), none, none] [] h
  refine a_iconst (x := 0) dX1_readProduct_0 rfl ⟨by decide, by decide⟩ ?_
  refine a_istore_n (i := 2) (ls2 := [some (vR 4 (-1)), some (vI p1), some (vI 0), none]) dX1_readProduct_1 rfl (Nat.le_of_ble_eq_true rfl) rfl ?_
  refine a_iconst (x := 0) dX1_readProduct_2 rfl ⟨by decide, by decide⟩ ?_
  refine a_istore_n (i := 3) (ls2 := [some (vR 4 (-1)), some (vI p1), some (vI 0), some (vI 0)]) dX1_readProduct_3 rfl (Nat.le_of_ble_eq_true rfl) rfl ?_
  exact hy
def A_Reader_readSum_4 (d : Nat) (Q : Int → AH → Prop) (p1 : Int) (v2 : Int) (v3 : Int) (h : AH) : Prop := AW d M_Reader_readSum Q 4 [some (vR 4 (-1)), some (vI p1), some (vI v2), some (vI v3)] [] h
def A_Reader_readSum_35 (d : Nat) (Q : Int → AH → Prop) (p1 : Int) (v3 : Int) (h : AH) : Prop := AW d M_Reader_readSum Q 35 [some (vR 4 (-1)), some (vI p1), none, some (vI v3)] [] h
def A_Reader_readSum_54 (d : Nat) (Q : Int → AH → Prop) (p1 : Int) (v2 : Int) (v3 : Int) (h : AH) : Prop := AW d M_Reader_readSum Q 54 [some (vR 4 (-1)), some (vI p1), some (vI v2), some (vI v3)] [] h
theorem s_Reader_readSum_4 {d : Nat} {Q : Int → AH → Prop} {p1 : Int} {v2 : Int} {v3 : Int} {h : AH} (hy : ((160 < v3 → (Call d M_Reader_fails [vR 4 (-1), vI 1] h (fun r2 h1 => (r2 = 0 ∨ r2 = 1) ∧ Q r2 h1))) ∧ (v3 ≤ 160 → (Call d M_Reader_readProduct [vR 4 (-1), vI p1] h (fun r5 h4 => ((r5 ≠ 0 → ((v2 = 0 → A_Reader_readSum_35 d Q p1 v3 h4) ∧ (v2 ≠ 0 → (Call d M_LawCode_put [vR 5 (-1), vI v2, vI 0] h4 (fun r7 h6 => A_Reader_readSum_35 d Q p1 v3 h6))))) ∧ (r5 = 0 → Q 0 h4))))))) : A_Reader_readSum_4 d Q p1 v2 v3 h := by
  show AW d M_Reader_readSum Q 4 [some (vR 4 (-1)), some (vI p1), some (vI v2), some (vI v3)] [] h
  refine a_iload_n dX1_readSum_4 rfl ?_
  refine a_sipush (x := 160) dX1_readSum_5 (by decide) ⟨by decide, by decide⟩ ?_
  refine a_icmp_gt (tgt := 70) dX1_readSum_8 (by decide) (fun c => ?_) (fun c => ?_)
  · have hy := hy.1 c
    refine a_aload_n dX1_readSum_70 rfl ?_
    refine a_iconst (x := 1) dX1_readSum_71 rfl ⟨by decide, by decide⟩ ?_
    refine a_callVi (as := [vI 1]) (st := []) dX1_readSum_72 lk_Reader_39 sk_4 rfl rfl (Nat.le_of_ble_eq_true rfl) (Or.inr rfl) (Call.mono hy (fun r2 h1 _ hy => ?_))
    obtain ⟨c3, hy⟩ := hy
    exact a_zret dX1_readSum_75 rfl c3 hy
  · have hy := hy.2 (Int.not_lt.mp c)
    refine a_aload_n dX1_readSum_11 rfl ?_
    refine a_iload_n dX1_readSum_12 rfl ?_
    refine a_callVi (as := [vI p1]) (st := []) dX1_readSum_13 lk_Reader_89 sk_4 rfl rfl (Nat.le_of_ble_eq_true rfl) (Or.inr rfl) (Call.mono hy (fun r5 h4 _ hy => ?_))
    refine a_if_ne (tgt := 21) dX1_readSum_16 (by decide) (fun c => ?_) (fun c => ?_)
    · have hy := hy.1 c
      refine a_iload_n dX1_readSum_21 rfl ?_
      refine a_if_eq (tgt := 35) dX1_readSum_22 (by decide) (fun c => ?_) (fun c => ?_)
      · have hy := hy.1 c
        refine a_mask [true, true, false, true] (ls2 := [some (vR 4 (-1)), some (vI p1), none, some (vI v3)]) rfl rfl ?_
        exact hy
      · have hy := hy.2 (c)
        refine a_aload_n dX1_readSum_25 rfl ?_
        refine a_getR dX1_readSum_26 fl_Reader_12 sk_4 rfl ?_
        refine a_iload_n dX1_readSum_29 rfl ?_
        refine a_iconst (x := 0) dX1_readSum_30 rfl ⟨by decide, by decide⟩ ?_
        refine a_callVi (as := [vI v2, vI 0]) (st := []) dX1_readSum_31 lk_Reader_56 sk_5 rfl rfl (Nat.le_of_ble_eq_true rfl) (Or.inl rfl) (Call.mono hy (fun r7 h6 _ hy => ?_))
        refine a_pop dX1_readSum_34 ?_
        refine a_mask [true, true, false, true] (ls2 := [some (vR 4 (-1)), some (vI p1), none, some (vI v3)]) rfl rfl ?_
        exact hy
    · have hy := hy.2 (Decidable.not_not.mp c)
      refine a_iconst (x := 0) dX1_readSum_19 rfl ⟨by decide, by decide⟩ ?_
      exact a_zret dX1_readSum_20 rfl (Or.inl rfl) hy
theorem s_Reader_readSum_35 {d : Nat} {Q : Int → AH → Prop} {p1 : Int} {v3 : Int} {h : AH} (hy : Call d M_Reader_next [vR 4 (-1)] h (fun r2 h1 => ((r2 = 43 → A_Reader_readSum_54 d Q p1 r2 v3 h1) ∧ (r2 ≠ 43 → ((r2 = 45 → A_Reader_readSum_54 d Q p1 r2 v3 h1) ∧ (r2 ≠ 45 → Q 1 h1)))))) : A_Reader_readSum_35 d Q p1 v3 h := by
  show AW d M_Reader_readSum Q 35 [some (vR 4 (-1)), some (vI p1), none, some (vI v3)] [] h
  refine a_aload_n dX1_readSum_35 rfl ?_
  refine a_callVi (as := []) (st := []) dX1_readSum_36 lk_Reader_35 sk_4 rfl rfl (Nat.le_of_ble_eq_true rfl) (Or.inl rfl) (Call.mono hy (fun r2 h1 _ hy => ?_))
  refine a_istore_n (i := 2) (ls2 := [some (vR 4 (-1)), some (vI p1), some (vI r2), some (vI v3)]) dX1_readSum_39 rfl (Nat.le_of_ble_eq_true rfl) rfl ?_
  refine a_iload_n dX1_readSum_40 rfl ?_
  refine a_bipush (x := 43) dX1_readSum_41 (by decide) ⟨by decide, by decide⟩ ?_
  refine a_icmp_eq (tgt := 54) dX1_readSum_43 (by decide) (fun c => ?_) (fun c => ?_)
  · have hy := hy.1 c
    exact hy
  · have hy := hy.2 (c)
    refine a_iload_n dX1_readSum_46 rfl ?_
    refine a_bipush (x := 45) dX1_readSum_47 (by decide) ⟨by decide, by decide⟩ ?_
    refine a_icmp_eq (tgt := 54) dX1_readSum_49 (by decide) (fun c => ?_) (fun c => ?_)
    · have hy := hy.1 c
      exact hy
    · have hy := hy.2 (c)
      refine a_iconst (x := 1) dX1_readSum_52 rfl ⟨by decide, by decide⟩ ?_
      exact a_zret dX1_readSum_53 rfl (Or.inr rfl) hy
theorem s_Reader_readSum_54 {d : Nat} {Q : Int → AH → Prop} {p1 : Int} {v2 : Int} {v3 : Int} {h : AH} (hy : inI ((h.1 4 3) + 1) ∧ (inI (v3 + 1) ∧ A_Reader_readSum_4 d Q p1 v2 (v3 + 1) (wI h 4 3 ((h.1 4 3) + 1)))) : A_Reader_readSum_54 d Q p1 v2 v3 h := by
  show AW d M_Reader_readSum Q 54 [some (vR 4 (-1)), some (vI p1), some (vI v2), some (vI v3)] [] h
  refine a_aload_n dX1_readSum_54 rfl ?_
  refine a_dupR dX1_readSum_55 ?_
  refine a_getI' (kz := 3) dX1_readSum_56 fl_Reader_26 sk_4 rfl rfl (rfl) ?_
  refine a_iconst (x := 1) dX1_readSum_59 rfl ⟨by decide, by decide⟩ ?_
  obtain ⟨c1, hy⟩ := hy
  refine a_iadd dX1_readSum_60 c1 ?_
  refine a_putI (kz := 3) dX1_readSum_61 fp_Reader_26 sk_4 rfl rfl ?_
  obtain ⟨c2, hy⟩ := hy
  refine a_iinc (y := v3 + 1) (ls2 := [some (vR 4 (-1)), some (vI p1), some (vI v2), some (vI (v3 + 1))]) dX1_readSum_64 rfl rfl c2 rfl ?_
  refine a_goto (tgt := 4) dX1_readSum_67 (by decide) ?_
  exact hy
theorem c_Reader_readSum {d : Nat} (d0 : Nat) (hd : d0 < d) {p1 : Int} {h : AH} {Q : Int → AH → Prop} (hy : A_Reader_readSum_4 d0 Q p1 0 0 h) : Call d M_Reader_readSum [vR 4 (-1), vI p1] h Q := by
  refine ⟨d0, hd, Big.of rfl (Nat.le_of_ble_eq_true rfl) ?_⟩
  show AW d0 M_Reader_readSum Q 0 [some (vR 4 (-1)), some (vI p1), none, none] [] h
  refine a_iconst (x := 0) dX1_readSum_0 rfl ⟨by decide, by decide⟩ ?_
  refine a_istore_n (i := 2) (ls2 := [some (vR 4 (-1)), some (vI p1), some (vI 0), none]) dX1_readSum_1 rfl (Nat.le_of_ble_eq_true rfl) rfl ?_
  refine a_iconst (x := 0) dX1_readSum_2 rfl ⟨by decide, by decide⟩ ?_
  refine a_istore_n (i := 3) (ls2 := [some (vR 4 (-1)), some (vI p1), some (vI 0), some (vI 0)]) dX1_readSum_3 rfl (Nat.le_of_ble_eq_true rfl) rfl ?_
  exact hy
def A_Reader_readText_24 (d : Nat) (Q : Int → AH → Prop) (v2 : Int) (h : AH) : Prop := AW d M_Reader_readText Q 24 [some (vR 4 (-1)), none, some (vI v2), none] [] h
def A_Reader_readText_53 (d : Nat) (Q : Int → AH → Prop) (v2 : Int) (v3 : Int) (h : AH) : Prop := AW d M_Reader_readText Q 53 [some (vR 4 (-1)), none, some (vI v2), some (vI v3)] [] h
theorem s_Reader_readText_24 {d : Nat} {Q : Int → AH → Prop} {v2 : Int} {h : AH} (hy : ((12 < v2 → (Call d M_Reader_fails [vR 4 (-1), vI 1] h (fun r2 h1 => (r2 = 0 ∨ r2 = 1) ∧ Q r2 h1))) ∧ (v2 ≤ 12 → (Call d M_Reader_next [vR 4 (-1)] h (fun r5 h4 => ((r5 = 110 → A_Reader_readText_53 d Q v2 r5 h4) ∧ (r5 ≠ 110 → ((r5 = 99 → A_Reader_readText_53 d Q v2 r5 h4) ∧ (r5 ≠ 99 → (Call d M_Reader_fails [vR 4 (-1), vI 1] h4 (fun r7 h6 => (r7 = 0 ∨ r7 = 1) ∧ Q r7 h6))))))))))) : A_Reader_readText_24 d Q v2 h := by
  show AW d M_Reader_readText Q 24 [some (vR 4 (-1)), none, some (vI v2), none] [] h
  refine a_iload_n dX1_readText_24 rfl ?_
  refine a_bipush (x := 12) dX1_readText_25 (by decide) ⟨by decide, by decide⟩ ?_
  refine a_icmp_gt (tgt := 125) dX1_readText_27 (by decide) (fun c => ?_) (fun c => ?_)
  · have hy := hy.1 c
    refine a_aload_n dX1_readText_125 rfl ?_
    refine a_iconst (x := 1) dX1_readText_126 rfl ⟨by decide, by decide⟩ ?_
    refine a_callVi (as := [vI 1]) (st := []) dX1_readText_127 lk_Reader_39 sk_4 rfl rfl (Nat.le_of_ble_eq_true rfl) (Or.inr rfl) (Call.mono hy (fun r2 h1 _ hy => ?_))
    obtain ⟨c3, hy⟩ := hy
    exact a_zret dX1_readText_130 rfl c3 hy
  · have hy := hy.2 (Int.not_lt.mp c)
    refine a_aload_n dX1_readText_30 rfl ?_
    refine a_callVi (as := []) (st := []) dX1_readText_31 lk_Reader_35 sk_4 rfl rfl (Nat.le_of_ble_eq_true rfl) (Or.inl rfl) (Call.mono hy (fun r5 h4 _ hy => ?_))
    refine a_istore_n (i := 3) (ls2 := [some (vR 4 (-1)), none, some (vI v2), some (vI r5)]) dX1_readText_34 rfl (Nat.le_of_ble_eq_true rfl) rfl ?_
    refine a_iload_n dX1_readText_35 rfl ?_
    refine a_bipush (x := 110) dX1_readText_36 (by decide) ⟨by decide, by decide⟩ ?_
    refine a_icmp_eq (tgt := 53) dX1_readText_38 (by decide) (fun c => ?_) (fun c => ?_)
    · have hy := hy.1 c
      exact hy
    · have hy := hy.2 (c)
      refine a_iload_n dX1_readText_41 rfl ?_
      refine a_bipush (x := 99) dX1_readText_42 (by decide) ⟨by decide, by decide⟩ ?_
      refine a_icmp_eq (tgt := 53) dX1_readText_44 (by decide) (fun c => ?_) (fun c => ?_)
      · have hy := hy.1 c
        exact hy
      · have hy := hy.2 (c)
        refine a_aload_n dX1_readText_47 rfl ?_
        refine a_iconst (x := 1) dX1_readText_48 rfl ⟨by decide, by decide⟩ ?_
        refine a_callVi (as := [vI 1]) (st := []) dX1_readText_49 lk_Reader_39 sk_4 rfl rfl (Nat.le_of_ble_eq_true rfl) (Or.inr rfl) (Call.mono hy (fun r7 h6 _ hy => ?_))
        obtain ⟨c8, hy⟩ := hy
        exact a_zret dX1_readText_52 rfl c8 hy
theorem s_Reader_readText_53 {d : Nat} {Q : Int → AH → Prop} {v2 : Int} {v3 : Int} {h : AH} (hy : ((v2 ≠ 12 → (inI ((h.1 4 3) + 1) ∧ (Call d M_Reader_readClause [vR 4 (-1), vI (if v3 = 99 then (1 : Int) else 0)] (wI h 4 3 ((h.1 4 3) + 1)) (fun r3 h2 => ((r3 ≠ 0 → (((h2.1 4 3) < (h2.1 4 2) → (Call d M_Reader_passes [vR 4 (-1), vI 59] h2 (fun r5 h4 => ((r5 ≠ 0 → (inI (v2 + 1) ∧ A_Reader_readText_24 d Q (v2 + 1) h4)) ∧ (r5 = 0 → Q 0 h4))))) ∧ ((h2.1 4 2) ≤ (h2.1 4 3) → Q 1 h2))) ∧ (r3 = 0 → Q 0 h2)))))) ∧ (v2 = 12 → (Call d M_Reader_fails [vR 4 (-1), vI 4] h (fun r9 h8 => (r9 = 0 ∨ r9 = 1) ∧ Q r9 h8))))) : A_Reader_readText_53 d Q v2 v3 h := by
  show AW d M_Reader_readText Q 53 [some (vR 4 (-1)), none, some (vI v2), some (vI v3)] [] h
  refine a_iload_n dX1_readText_53 rfl ?_
  refine a_bipush (x := 12) dX1_readText_54 (by decide) ⟨by decide, by decide⟩ ?_
  refine a_icmp_ne (tgt := 65) dX1_readText_56 (by decide) (fun c => ?_) (fun c => ?_)
  · have hy := hy.1 c
    refine a_aload_n dX1_readText_65 rfl ?_
    refine a_dupR dX1_readText_66 ?_
    refine a_getI' (kz := 3) dX1_readText_67 fl_Reader_26 sk_4 rfl rfl (rfl) ?_
    refine a_iconst (x := 1) dX1_readText_70 rfl ⟨by decide, by decide⟩ ?_
    obtain ⟨c1, hy⟩ := hy
    refine a_iadd dX1_readText_71 c1 ?_
    refine a_putI (kz := 3) dX1_readText_72 fp_Reader_26 sk_4 rfl rfl ?_
    refine a_aload_n dX1_readText_75 rfl ?_
    refine a_iload_n dX1_readText_76 rfl ?_
    refine a_bipush (x := 99) dX1_readText_77 (by decide) ⟨by decide, by decide⟩ ?_
    have J : AW d M_Reader_readText Q 87 [some (vR 4 (-1)), none, some (vI v2), some (vI v3)] [vI (if v3 = 99 then (1 : Int) else 0), vR 4 (-1)] (wI h 4 3 ((h.1 4 3) + 1)) := by
      refine a_callVi (as := [vI (if v3 = 99 then (1 : Int) else 0)]) (st := []) dX1_readText_87 lk_Reader_43 sk_4 rfl rfl (Nat.le_of_ble_eq_true rfl) (Or.inr rfl) (Call.mono hy (fun r3 h2 _ hy => ?_))
      refine a_if_ne (tgt := 95) dX1_readText_90 (by decide) (fun c => ?_) (fun c => ?_)
      · have hy := hy.1 c
        refine a_aload_n dX1_readText_95 rfl ?_
        refine a_getI' (kz := 3) dX1_readText_96 fl_Reader_26 sk_4 rfl rfl (rfl) ?_
        refine a_aload_n dX1_readText_99 rfl ?_
        refine a_getI' (kz := 2) dX1_readText_100 fl_Reader_22 sk_4 rfl rfl (rfl) ?_
        refine a_icmp_lt (tgt := 108) dX1_readText_103 (by decide) (fun c => ?_) (fun c => ?_)
        · have hy := hy.1 c
          refine a_aload_n dX1_readText_108 rfl ?_
          refine a_bipush (x := 59) dX1_readText_109 (by decide) ⟨by decide, by decide⟩ ?_
          refine a_callVi (as := [vI 59]) (st := []) dX1_readText_111 lk_Reader_47 sk_4 rfl rfl (Nat.le_of_ble_eq_true rfl) (Or.inr rfl) (Call.mono hy (fun r5 h4 _ hy => ?_))
          refine a_if_ne (tgt := 119) dX1_readText_114 (by decide) (fun c => ?_) (fun c => ?_)
          · have hy := hy.1 c
            obtain ⟨c6, hy⟩ := hy
            refine a_iinc (y := v2 + 1) (ls2 := [some (vR 4 (-1)), none, some (vI (v2 + 1)), some (vI v3)]) dX1_readText_119 rfl rfl c6 rfl ?_
            refine a_goto (tgt := 24) dX1_readText_122 (by decide) ?_
            refine a_mask [true, true, true, false] (ls2 := [some (vR 4 (-1)), none, some (vI (v2 + 1)), none]) rfl rfl ?_
            exact hy
          · have hy := hy.2 (Decidable.not_not.mp c)
            refine a_iconst (x := 0) dX1_readText_117 rfl ⟨by decide, by decide⟩ ?_
            exact a_zret dX1_readText_118 rfl (Or.inl rfl) hy
        · have hy := hy.2 (Int.not_lt.mp c)
          refine a_iconst (x := 1) dX1_readText_106 rfl ⟨by decide, by decide⟩ ?_
          exact a_zret dX1_readText_107 rfl (Or.inr rfl) hy
      · have hy := hy.2 (Decidable.not_not.mp c)
        refine a_iconst (x := 0) dX1_readText_93 rfl ⟨by decide, by decide⟩ ?_
        exact a_zret dX1_readText_94 rfl (Or.inl rfl) hy
    refine a_icmp_ne (tgt := 86) dX1_readText_79 (by decide) (fun e7 => ?_) (fun e7 => ?_)
    · refine a_iconst (x := 0) dX1_readText_86 rfl ⟨by decide, by decide⟩ ?_
      exact a_cast (by first | rfl | simp only [if_neg e7]) (by first | rfl | simp only [if_neg e7]) J
    · refine a_iconst (x := 1) dX1_readText_82 rfl ⟨by decide, by decide⟩ ?_
      refine a_goto (tgt := 87) dX1_readText_83 (by decide) ?_
      exact a_cast (by first | rfl | simp only [if_pos (Decidable.not_not.mp e7)]) (by first | rfl | simp only [if_pos (Decidable.not_not.mp e7)]) J
  · have hy := hy.2 (Decidable.not_not.mp c)
    refine a_aload_n dX1_readText_59 rfl ?_
    refine a_iconst (x := 4) dX1_readText_60 rfl ⟨by decide, by decide⟩ ?_
    refine a_callVi (as := [vI 4]) (st := []) dX1_readText_61 lk_Reader_39 sk_4 rfl rfl (Nat.le_of_ble_eq_true rfl) (Or.inr rfl) (Call.mono hy (fun r9 h8 _ hy => ?_))
    obtain ⟨c10, hy⟩ := hy
    exact a_zret dX1_readText_64 rfl c10 hy
theorem c_Reader_readText {d : Nat} (d0 : Nat) (hd : d0 < d) {p1 : Int} {h : AH} {Q : Int → AH → Prop} (hy : Call d0 M_LawCode_restart [vR 5 (-1)] (wI (wI (wI h 4 2 p1) 4 3 0) 4 4 0) (fun _ h1 => A_Reader_readText_24 d0 Q 0 h1)) : Call d M_Reader_readText [vR 4 (-1), vI p1] h Q := by
  refine ⟨d0, hd, Big.of rfl (Nat.le_of_ble_eq_true rfl) ?_⟩
  show AW d0 M_Reader_readText Q 0 [some (vR 4 (-1)), some (vI p1), none, none] [] h
  refine a_aload_n dX1_readText_0 rfl ?_
  refine a_iload_n dX1_readText_1 rfl ?_
  refine a_putI (kz := 2) dX1_readText_2 fp_Reader_22 sk_4 rfl rfl ?_
  refine a_aload_n dX1_readText_5 rfl ?_
  refine a_iconst (x := 0) dX1_readText_6 rfl ⟨by decide, by decide⟩ ?_
  refine a_putI (kz := 3) dX1_readText_7 fp_Reader_26 sk_4 rfl rfl ?_
  refine a_aload_n dX1_readText_10 rfl ?_
  refine a_iconst (x := 0) dX1_readText_11 rfl ⟨by decide, by decide⟩ ?_
  refine a_putI (kz := 4) dX1_readText_12 fp_Reader_29 sk_4 rfl rfl ?_
  refine a_aload_n dX1_readText_15 rfl ?_
  refine a_getR dX1_readText_16 fl_Reader_12 sk_4 rfl ?_
  refine a_callVv (as := []) (st := []) dX1_readText_19 lk_Reader_32 sk_5 rfl rfl (Nat.le_of_ble_eq_true rfl) rfl (Call.mono hy (fun _ h1 _ hy => ?_))
  refine a_iconst (x := 0) dX1_readText_22 rfl ⟨by decide, by decide⟩ ?_
  refine a_istore_n (i := 2) (ls2 := [some (vR 4 (-1)), some (vI p1), some (vI 0), none]) dX1_readText_23 rfl (Nat.le_of_ble_eq_true rfl) rfl ?_
  refine a_mask [true, false, true, true] (ls2 := [some (vR 4 (-1)), none, some (vI 0), none]) rfl rfl ?_
  exact hy

def A_M_readsFactor_0 (d : Nat) (Q : Int → AH → Prop)  (h : AH) : Prop := AW d M_M_readsFactor Q 0 [some (vR 12 (-1)), none] [] h
theorem s_M_readsFactor_0 {d : Nat} {Q : Int → AH → Prop}  {h : AH} (hy : Call d M_M_here [vR 12 (-1)] h (fun r2 h1 => ((r2 ≠ 91 → (Call d M_M_isDigit [vR 12 (-1)] h1 (fun r4 h3 => ((r4 = 0 → (Call d M_M_here [vR 12 (-1)] h3 (fun r6 h5 => Call d M_M_factOf [vI r6] h5 (fun r8 h7 => ((r8 ≠ (-1) → (Call d M_M_notes [vR 12 (-1), vI 1, vI r8] h7 (fun _ h9 => inI ((h9.1 12 12) + 1) ∧ Q 1 (wI h9 12 12 ((h9.1 12 12) + 1))))) ∧ (r8 = (-1) → (Call d M_M_wrongAt [vR 12 (-1), vI 1, vI (h7.1 12 12)] h7 (fun r12 h11 => (r12 = 0 ∨ r12 = 1) ∧ Q r12 h11)))))))) ∧ (r4 ≠ 0 → (Call d M_M_readsNumber [vR 12 (-1)] h3 (fun r15 h14 => ((r15 ≠ 0 → (Call d M_M_notes [vR 12 (-1), vI 0, vI (h14.1 12 19)] h14 (fun _ h16 => Q 1 h16))) ∧ (r15 = 0 → Q 0 h14))))))))) ∧ (r2 = 91 → (Call d M_M_opens [vR 12 (-1), vI 14] h1 (fun r18 h17 => ((r18 ≠ 0 → A_M_readsFactor_0 d Q  h17) ∧ (r18 = 0 → Q 0 h17)))))))) : A_M_readsFactor_0 d Q  h := by
  show AW d M_M_readsFactor Q 0 [some (vR 12 (-1)), none] [] h
  refine a_aload_n dX11_readsFactor_0 rfl ?_
  refine a_callVi (as := []) (st := []) dX11_readsFactor_1 lk_M_167 sk_12 rfl rfl (Nat.le_of_ble_eq_true rfl) (Or.inl rfl) (Call.mono hy (fun r2 h1 _ hy => ?_))
  refine a_bipush (x := 91) dX11_readsFactor_4 (by decide) ⟨by decide, by decide⟩ ?_
  refine a_icmp_ne (tgt := 20) dX11_readsFactor_6 (by decide) (fun c => ?_) (fun c => ?_)
  · have hy := hy.1 c
    refine a_aload_n dX11_readsFactor_20 rfl ?_
    refine a_callVi (as := []) (st := []) dX11_readsFactor_21 lk_M_181 sk_12 rfl rfl (Nat.le_of_ble_eq_true rfl) (Or.inr rfl) (Call.mono hy (fun r4 h3 _ hy => ?_))
    refine a_if_eq (tgt := 47) dX11_readsFactor_24 (by decide) (fun c => ?_) (fun c => ?_)
    · have hy := hy.1 c
      refine a_aload_n dX11_readsFactor_47 rfl ?_
      refine a_callVi (as := []) (st := []) dX11_readsFactor_48 lk_M_167 sk_12 rfl rfl (Nat.le_of_ble_eq_true rfl) (Or.inl rfl) (Call.mono hy (fun r6 h5 _ hy => ?_))
      refine a_callSi (as := [vI r6]) (st := []) dX11_readsFactor_51 lk_M_207 rfl rfl (Nat.le_of_ble_eq_true rfl) (Or.inl rfl) (Call.mono hy (fun r8 h7 _ hy => ?_))
      refine a_istore_n (i := 1) (ls2 := [some (vR 12 (-1)), some (vI r8)]) dX11_readsFactor_54 rfl (Nat.le_of_ble_eq_true rfl) rfl ?_
      refine a_iload_n dX11_readsFactor_55 rfl ?_
      refine a_iconst (x := (-1)) dX11_readsFactor_56 rfl ⟨by decide, by decide⟩ ?_
      refine a_icmp_ne (tgt := 70) dX11_readsFactor_57 (by decide) (fun c => ?_) (fun c => ?_)
      · have hy := hy.1 c
        refine a_aload_n dX11_readsFactor_70 rfl ?_
        refine a_iconst (x := 1) dX11_readsFactor_71 rfl ⟨by decide, by decide⟩ ?_
        refine a_iload_n dX11_readsFactor_72 rfl ?_
        refine a_callVv (as := [vI 1, vI r8]) (st := []) dX11_readsFactor_73 lk_M_197 sk_12 rfl rfl (Nat.le_of_ble_eq_true rfl) rfl (Call.mono hy (fun _ h9 _ hy => ?_))
        refine a_aload_n dX11_readsFactor_76 rfl ?_
        refine a_aload_n dX11_readsFactor_77 rfl ?_
        refine a_getI' (kz := 12) dX11_readsFactor_78 fl_M_161 sk_12 rfl rfl (rfl) ?_
        refine a_iconst (x := 1) dX11_readsFactor_81 rfl ⟨by decide, by decide⟩ ?_
        obtain ⟨c10, hy⟩ := hy
        refine a_iadd dX11_readsFactor_82 c10 ?_
        refine a_putI (kz := 12) dX11_readsFactor_83 fp_M_161 sk_12 rfl rfl ?_
        refine a_iconst (x := 1) dX11_readsFactor_86 rfl ⟨by decide, by decide⟩ ?_
        exact a_zret dX11_readsFactor_87 rfl (Or.inr rfl) hy
      · have hy := hy.2 (Decidable.not_not.mp c)
        refine a_aload_n dX11_readsFactor_60 rfl ?_
        refine a_iconst (x := 1) dX11_readsFactor_61 rfl ⟨by decide, by decide⟩ ?_
        refine a_aload_n dX11_readsFactor_62 rfl ?_
        refine a_getI' (kz := 12) dX11_readsFactor_63 fl_M_161 sk_12 rfl rfl (rfl) ?_
        refine a_callVi (as := [vI 1, vI (h7.1 12 12)]) (st := []) dX11_readsFactor_66 lk_M_174 sk_12 rfl rfl (Nat.le_of_ble_eq_true rfl) (Or.inr rfl) (Call.mono hy (fun r12 h11 _ hy => ?_))
        obtain ⟨c13, hy⟩ := hy
        exact a_zret dX11_readsFactor_69 rfl c13 hy
    · have hy := hy.2 (c)
      refine a_aload_n dX11_readsFactor_27 rfl ?_
      refine a_callVi (as := []) (st := []) dX11_readsFactor_28 lk_M_204 sk_12 rfl rfl (Nat.le_of_ble_eq_true rfl) (Or.inr rfl) (Call.mono hy (fun r15 h14 _ hy => ?_))
      refine a_if_ne (tgt := 36) dX11_readsFactor_31 (by decide) (fun c => ?_) (fun c => ?_)
      · have hy := hy.1 c
        refine a_aload_n dX11_readsFactor_36 rfl ?_
        refine a_iconst (x := 0) dX11_readsFactor_37 rfl ⟨by decide, by decide⟩ ?_
        refine a_aload_n dX11_readsFactor_38 rfl ?_
        refine a_getI' (kz := 19) dX11_readsFactor_39 fl_M_178 sk_12 rfl rfl (rfl) ?_
        refine a_callVv (as := [vI 0, vI (h14.1 12 19)]) (st := []) dX11_readsFactor_42 lk_M_197 sk_12 rfl rfl (Nat.le_of_ble_eq_true rfl) rfl (Call.mono hy (fun _ h16 _ hy => ?_))
        refine a_iconst (x := 1) dX11_readsFactor_45 rfl ⟨by decide, by decide⟩ ?_
        exact a_zret dX11_readsFactor_46 rfl (Or.inr rfl) hy
      · have hy := hy.2 (Decidable.not_not.mp c)
        refine a_iconst (x := 0) dX11_readsFactor_34 rfl ⟨by decide, by decide⟩ ?_
        exact a_zret dX11_readsFactor_35 rfl (Or.inl rfl) hy
  · have hy := hy.2 (Decidable.not_not.mp c)
    refine a_aload_n dX11_readsFactor_9 rfl ?_
    refine a_bipush (x := 14) dX11_readsFactor_10 (by decide) ⟨by decide, by decide⟩ ?_
    refine a_callVi (as := [vI 14]) (st := []) dX11_readsFactor_12 lk_M_201 sk_12 rfl rfl (Nat.le_of_ble_eq_true rfl) (Or.inr rfl) (Call.mono hy (fun r18 h17 _ hy => ?_))
    refine a_if_ne (tgt := 0) dX11_readsFactor_15 (by decide) (fun c => ?_) (fun c => ?_)
    · have hy := hy.1 c
      exact hy
    · have hy := hy.2 (Decidable.not_not.mp c)
      refine a_iconst (x := 0) dX11_readsFactor_18 rfl ⟨by decide, by decide⟩ ?_
      exact a_zret dX11_readsFactor_19 rfl (Or.inl rfl) hy
theorem c_M_readsFactor {d : Nat} (d0 : Nat) (hd : d0 < d)  {h : AH} {Q : Int → AH → Prop} (hy : A_M_readsFactor_0 d0 Q  h) : Call d M_M_readsFactor [vR 12 (-1)] h Q := by
  refine ⟨d0, hd, Big.of rfl (Nat.le_of_ble_eq_true rfl) ?_⟩
  show AW d0 M_M_readsFactor Q 0 [some (vR 12 (-1)), none] [] h
  exact hy
def A_M_readsNumber_10 (d : Nat) (Q : Int → AH → Prop) (v1 : Int) (h : AH) : Prop := AW d M_M_readsNumber Q 10 [some (vR 12 (-1)), some (vI v1)] [] h
theorem s_M_readsNumber_10 {d : Nat} {Q : Int → AH → Prop} {v1 : Int} {h : AH} (hy : Call d M_M_isDigit [vR 12 (-1)] h (fun r2 h1 => ((r2 = 0 → Q 1 h1) ∧ (r2 ≠ 0 → (inI (v1 + 5) ∧ (((h1.1 12 12) ≠ (v1 + 5) → (inI (10 * (h1.1 12 19)) ∧ (Call d M_M_here [vR 12 (-1)] h1 (fun r6 h5 => inI ((10 * (h1.1 12 19)) + r6) ∧ (inI (((10 * (h1.1 12 19)) + r6) - 48) ∧ (inI ((h5.1 12 12) + 1) ∧ A_M_readsNumber_10 d Q v1 (wI (wI h5 12 19 (((10 * (h1.1 12 19)) + r6) - 48)) 12 12 ((h5.1 12 12) + 1)))))))) ∧ ((h1.1 12 12) = (v1 + 5) → (Call d M_M_wrongAt [vR 12 (-1), vI 2, vI (h1.1 12 12)] h1 (fun r11 h10 => (r11 = 0 ∨ r11 = 1) ∧ Q r11 h10))))))))) : A_M_readsNumber_10 d Q v1 h := by
  show AW d M_M_readsNumber Q 10 [some (vR 12 (-1)), some (vI v1)] [] h
  refine a_aload_n dX11_readsNumber_10 rfl ?_
  refine a_callVi (as := []) (st := []) dX11_readsNumber_11 lk_M_181 sk_12 rfl rfl (Nat.le_of_ble_eq_true rfl) (Or.inr rfl) (Call.mono hy (fun r2 h1 _ hy => ?_))
  refine a_if_eq (tgt := 69) dX11_readsNumber_14 (by decide) (fun c => ?_) (fun c => ?_)
  · have hy := hy.1 c
    refine a_iconst (x := 1) dX11_readsNumber_69 rfl ⟨by decide, by decide⟩ ?_
    exact a_zret dX11_readsNumber_70 rfl (Or.inr rfl) hy
  · have hy := hy.2 (c)
    refine a_aload_n dX11_readsNumber_17 rfl ?_
    refine a_getI' (kz := 12) dX11_readsNumber_18 fl_M_161 sk_12 rfl rfl (rfl) ?_
    refine a_iload_n dX11_readsNumber_21 rfl ?_
    refine a_iconst (x := 5) dX11_readsNumber_22 rfl ⟨by decide, by decide⟩ ?_
    obtain ⟨c3, hy⟩ := hy
    refine a_iadd dX11_readsNumber_23 c3 ?_
    refine a_icmp_ne (tgt := 37) dX11_readsNumber_24 (by decide) (fun c => ?_) (fun c => ?_)
    · have hy := hy.1 c
      refine a_aload_n dX11_readsNumber_37 rfl ?_
      refine a_bipush (x := 10) dX11_readsNumber_38 (by decide) ⟨by decide, by decide⟩ ?_
      refine a_aload_n dX11_readsNumber_40 rfl ?_
      refine a_getI' (kz := 19) dX11_readsNumber_41 fl_M_178 sk_12 rfl rfl (rfl) ?_
      obtain ⟨c4, hy⟩ := hy
      refine a_imul dX11_readsNumber_44 c4 ?_
      refine a_aload_n dX11_readsNumber_45 rfl ?_
      refine a_callVi (as := []) (st := [vI (10 * (h1.1 12 19)), vR 12 (-1)]) dX11_readsNumber_46 lk_M_167 sk_12 rfl rfl (Nat.le_of_ble_eq_true rfl) (Or.inl rfl) (Call.mono hy (fun r6 h5 _ hy => ?_))
      obtain ⟨c7, hy⟩ := hy
      refine a_iadd dX11_readsNumber_49 c7 ?_
      refine a_bipush (x := 48) dX11_readsNumber_50 (by decide) ⟨by decide, by decide⟩ ?_
      obtain ⟨c8, hy⟩ := hy
      refine a_isub dX11_readsNumber_52 c8 ?_
      refine a_putI (kz := 19) dX11_readsNumber_53 fp_M_178 sk_12 rfl rfl ?_
      refine a_aload_n dX11_readsNumber_56 rfl ?_
      refine a_aload_n dX11_readsNumber_57 rfl ?_
      refine a_getI' (kz := 12) dX11_readsNumber_58 fl_M_161 sk_12 rfl rfl (rI_nk (by decide)) ?_
      refine a_iconst (x := 1) dX11_readsNumber_61 rfl ⟨by decide, by decide⟩ ?_
      obtain ⟨c9, hy⟩ := hy
      refine a_iadd dX11_readsNumber_62 c9 ?_
      refine a_putI (kz := 12) dX11_readsNumber_63 fp_M_161 sk_12 rfl rfl ?_
      refine a_goto (tgt := 10) dX11_readsNumber_66 (by decide) ?_
      exact hy
    · have hy := hy.2 (Decidable.not_not.mp c)
      refine a_aload_n dX11_readsNumber_27 rfl ?_
      refine a_iconst (x := 2) dX11_readsNumber_28 rfl ⟨by decide, by decide⟩ ?_
      refine a_aload_n dX11_readsNumber_29 rfl ?_
      refine a_getI' (kz := 12) dX11_readsNumber_30 fl_M_161 sk_12 rfl rfl (rfl) ?_
      refine a_callVi (as := [vI 2, vI (h1.1 12 12)]) (st := []) dX11_readsNumber_33 lk_M_174 sk_12 rfl rfl (Nat.le_of_ble_eq_true rfl) (Or.inr rfl) (Call.mono hy (fun r11 h10 _ hy => ?_))
      obtain ⟨c12, hy⟩ := hy
      exact a_zret dX11_readsNumber_36 rfl c12 hy
theorem c_M_readsNumber {d : Nat} (d0 : Nat) (hd : d0 < d)  {h : AH} {Q : Int → AH → Prop} (hy : A_M_readsNumber_10 d0 Q (h.1 12 12) (wI h 12 19 0)) : Call d M_M_readsNumber [vR 12 (-1)] h Q := by
  refine ⟨d0, hd, Big.of rfl (Nat.le_of_ble_eq_true rfl) ?_⟩
  show AW d0 M_M_readsNumber Q 0 [some (vR 12 (-1)), none] [] h
  refine a_aload_n dX11_readsNumber_0 rfl ?_
  refine a_getI' (kz := 12) dX11_readsNumber_1 fl_M_161 sk_12 rfl rfl (rfl) ?_
  refine a_istore_n (i := 1) (ls2 := [some (vR 12 (-1)), some (vI (h.1 12 12))]) dX11_readsNumber_4 rfl (Nat.le_of_ble_eq_true rfl) rfl ?_
  refine a_aload_n dX11_readsNumber_5 rfl ?_
  refine a_iconst (x := 0) dX11_readsNumber_6 rfl ⟨by decide, by decide⟩ ?_
  refine a_putI (kz := 19) dX11_readsNumber_7 fp_M_178 sk_12 rfl rfl ?_
  exact hy
def A_M_readsSum_14 (d : Nat) (Q : Int → AH → Prop) (v1 : Int) (h : AH) : Prop := AW d M_M_readsSum Q 14 [some (vR 12 (-1)), some (vI v1), none] [] h
def A_M_readsSum_138 (d : Nat) (Q : Int → AH → Prop) (v1 : Int) (h : AH) : Prop := AW d M_M_readsSum Q 138 [some (vR 12 (-1)), some (vI v1), none] [] h
theorem s_M_readsSum_14 {d : Nat} {Q : Int → AH → Prop} {v1 : Int} {h : AH} (hy : Call d M_M_here [vR 12 (-1)] h (fun r2 h1 => Call d M_M_sumSign [vI r2] h1 (fun r4 h3 => ((r4 = (-1) → (Call d M_M_here [vR 12 (-1)] h3 (fun r6 h5 => ((r6 ≠ 93 → A_M_readsSum_138 d Q v1 h5) ∧ (r6 = 93 → (Call d M_M_hasOpenSum [vR 12 (-1), vI v1] h5 (fun r8 h7 => ((r8 = 0 → A_M_readsSum_138 d Q v1 h7) ∧ (r8 ≠ 0 → (Call d M_M_closesSums [vR 12 (-1), vI 1] h7 (fun _ h9 => inI ((h9.1 12 17) - 1) ∧ (inI ((h9.1 12 15) - 1) ∧ (inI ((h9.1 12 12) + 1) ∧ A_M_readsSum_14 d Q v1 (wI (wI (wI h9 12 17 ((h9.1 12 17) - 1)) 12 15 ((h9.1 12 15) - 1)) 12 12 ((h9.1 12 12) + 1))))))))))))))) ∧ (r4 ≠ (-1) → (Call d M_M_closesSums [vR 12 (-1), vI (if 4 ≤ r4 then (0 : Int) else 1)] h3 (fun _ h13 => inI (1048576 * r4) ∧ (inb (h13.1 12 17) 180 ∧ (inI ((h13.1 12 17) + 1) ∧ (inI ((h13.1 12 12) + 1) ∧ (Call d M_M_readsFactor [vR 12 (-1)] (wI (wI (wI h13 66 (h13.1 12 17) (1048576 * r4)) 12 17 ((h13.1 12 17) + 1)) 12 12 ((h13.1 12 12) + 1)) (fun r19 h18 => ((r19 ≠ 0 → A_M_readsSum_14 d Q v1 h18) ∧ (r19 = 0 → Q 0 h18)))))))))))))) : A_M_readsSum_14 d Q v1 h := by
  show AW d M_M_readsSum Q 14 [some (vR 12 (-1)), some (vI v1), none] [] h
  refine a_aload_n dX11_readsSum_14 rfl ?_
  refine a_callVi (as := []) (st := []) dX11_readsSum_15 lk_M_167 sk_12 rfl rfl (Nat.le_of_ble_eq_true rfl) (Or.inl rfl) (Call.mono hy (fun r2 h1 _ hy => ?_))
  refine a_callSi (as := [vI r2]) (st := []) dX11_readsSum_18 lk_M_214 rfl rfl (Nat.le_of_ble_eq_true rfl) (Or.inl rfl) (Call.mono hy (fun r4 h3 _ hy => ?_))
  refine a_istore_n (i := 2) (ls2 := [some (vR 12 (-1)), some (vI v1), some (vI r4)]) dX11_readsSum_21 rfl (Nat.le_of_ble_eq_true rfl) rfl ?_
  refine a_iload_n dX11_readsSum_22 rfl ?_
  refine a_iconst (x := (-1)) dX11_readsSum_23 rfl ⟨by decide, by decide⟩ ?_
  refine a_icmp_eq (tgt := 83) dX11_readsSum_24 (by decide) (fun c => ?_) (fun c => ?_)
  · have hy := hy.1 c
    refine a_aload_n dX11_readsSum_83 rfl ?_
    refine a_callVi (as := []) (st := []) dX11_readsSum_84 lk_M_167 sk_12 rfl rfl (Nat.le_of_ble_eq_true rfl) (Or.inl rfl) (Call.mono hy (fun r6 h5 _ hy => ?_))
    refine a_bipush (x := 93) dX11_readsSum_87 (by decide) ⟨by decide, by decide⟩ ?_
    refine a_icmp_ne (tgt := 138) dX11_readsSum_89 (by decide) (fun c => ?_) (fun c => ?_)
    · have hy := hy.1 c
      refine a_mask [true, true, false] (ls2 := [some (vR 12 (-1)), some (vI v1), none]) rfl rfl ?_
      exact hy
    · have hy := hy.2 (Decidable.not_not.mp c)
      refine a_aload_n dX11_readsSum_92 rfl ?_
      refine a_iload_n dX11_readsSum_93 rfl ?_
      refine a_callVi (as := [vI v1]) (st := []) dX11_readsSum_94 lk_M_221 sk_12 rfl rfl (Nat.le_of_ble_eq_true rfl) (Or.inr rfl) (Call.mono hy (fun r8 h7 _ hy => ?_))
      refine a_if_eq (tgt := 138) dX11_readsSum_97 (by decide) (fun c => ?_) (fun c => ?_)
      · have hy := hy.1 c
        refine a_mask [true, true, false] (ls2 := [some (vR 12 (-1)), some (vI v1), none]) rfl rfl ?_
        exact hy
      · have hy := hy.2 (c)
        refine a_aload_n dX11_readsSum_100 rfl ?_
        refine a_iconst (x := 1) dX11_readsSum_101 rfl ⟨by decide, by decide⟩ ?_
        refine a_callVv (as := [vI 1]) (st := []) dX11_readsSum_102 lk_M_217 sk_12 rfl rfl (Nat.le_of_ble_eq_true rfl) rfl (Call.mono hy (fun _ h9 _ hy => ?_))
        refine a_aload_n dX11_readsSum_105 rfl ?_
        refine a_aload_n dX11_readsSum_106 rfl ?_
        refine a_getI' (kz := 17) dX11_readsSum_107 fl_M_191 sk_12 rfl rfl (rfl) ?_
        refine a_iconst (x := 1) dX11_readsSum_110 rfl ⟨by decide, by decide⟩ ?_
        obtain ⟨c10, hy⟩ := hy
        refine a_isub dX11_readsSum_111 c10 ?_
        refine a_putI (kz := 17) dX11_readsSum_112 fp_M_191 sk_12 rfl rfl ?_
        refine a_aload_n dX11_readsSum_115 rfl ?_
        refine a_aload_n dX11_readsSum_116 rfl ?_
        refine a_getI' (kz := 15) dX11_readsSum_117 fl_M_188 sk_12 rfl rfl (rI_nk (by decide)) ?_
        refine a_iconst (x := 1) dX11_readsSum_120 rfl ⟨by decide, by decide⟩ ?_
        obtain ⟨c11, hy⟩ := hy
        refine a_isub dX11_readsSum_121 c11 ?_
        refine a_putI (kz := 15) dX11_readsSum_122 fp_M_188 sk_12 rfl rfl ?_
        refine a_aload_n dX11_readsSum_125 rfl ?_
        refine a_aload_n dX11_readsSum_126 rfl ?_
        refine a_getI' (kz := 12) dX11_readsSum_127 fl_M_161 sk_12 rfl rfl ((rI_nk (by decide)).trans (rI_nk (by decide))) ?_
        refine a_iconst (x := 1) dX11_readsSum_130 rfl ⟨by decide, by decide⟩ ?_
        obtain ⟨c12, hy⟩ := hy
        refine a_iadd dX11_readsSum_131 c12 ?_
        refine a_putI (kz := 12) dX11_readsSum_132 fp_M_161 sk_12 rfl rfl ?_
        refine a_goto (tgt := 163) dX11_readsSum_135 (by decide) ?_
        refine a_goto (tgt := 14) dX11_readsSum_163 (by decide) ?_
        refine a_mask [true, true, false] (ls2 := [some (vR 12 (-1)), some (vI v1), none]) rfl rfl ?_
        exact hy
  · have hy := hy.2 (c)
    refine a_aload_n dX11_readsSum_27 rfl ?_
    refine a_iload_n dX11_readsSum_28 rfl ?_
    refine a_iconst (x := 4) dX11_readsSum_29 rfl ⟨by decide, by decide⟩ ?_
    have J : AW d M_M_readsSum Q 38 [some (vR 12 (-1)), some (vI v1), some (vI r4)] [vI (if 4 ≤ r4 then (0 : Int) else 1), vR 12 (-1)] h3 := by
      refine a_callVv (as := [vI (if 4 ≤ r4 then (0 : Int) else 1)]) (st := []) dX11_readsSum_38 lk_M_217 sk_12 rfl rfl (Nat.le_of_ble_eq_true rfl) rfl (Call.mono hy (fun _ h13 _ hy => ?_))
      refine a_aload_n dX11_readsSum_41 rfl ?_
      refine a_getR dX11_readsSum_42 fl_M_36 sk_12 rfl ?_
      refine a_aload_n dX11_readsSum_45 rfl ?_
      refine a_getI' (kz := 17) dX11_readsSum_46 fl_M_191 sk_12 rfl rfl (rfl) ?_
      refine a_ldc (x := 1048576) dX11_readsSum_49 kc_M_187 ⟨by decide, by decide⟩ ?_
      refine a_iload_n dX11_readsSum_51 rfl ?_
      obtain ⟨c14, hy⟩ := hy
      refine a_imul dX11_readsSum_52 c14 ?_
      obtain ⟨c15, hy⟩ := hy
      refine a_iast dX11_readsSum_53 sk_66 c15 ?_
      refine a_aload_n dX11_readsSum_54 rfl ?_
      refine a_aload_n dX11_readsSum_55 rfl ?_
      refine a_getI' (kz := 17) dX11_readsSum_56 fl_M_191 sk_12 rfl rfl (rI_ne (by decide)) ?_
      refine a_iconst (x := 1) dX11_readsSum_59 rfl ⟨by decide, by decide⟩ ?_
      obtain ⟨c16, hy⟩ := hy
      refine a_iadd dX11_readsSum_60 c16 ?_
      refine a_putI (kz := 17) dX11_readsSum_61 fp_M_191 sk_12 rfl rfl ?_
      refine a_aload_n dX11_readsSum_64 rfl ?_
      refine a_aload_n dX11_readsSum_65 rfl ?_
      refine a_getI' (kz := 12) dX11_readsSum_66 fl_M_161 sk_12 rfl rfl ((rI_nk (by decide)).trans (rI_ne (by decide))) ?_
      refine a_iconst (x := 1) dX11_readsSum_69 rfl ⟨by decide, by decide⟩ ?_
      obtain ⟨c17, hy⟩ := hy
      refine a_iadd dX11_readsSum_70 c17 ?_
      refine a_putI (kz := 12) dX11_readsSum_71 fp_M_161 sk_12 rfl rfl ?_
      refine a_aload_n dX11_readsSum_74 rfl ?_
      refine a_callVi (as := []) (st := []) dX11_readsSum_75 lk_M_211 sk_12 rfl rfl (Nat.le_of_ble_eq_true rfl) (Or.inr rfl) (Call.mono hy (fun r19 h18 _ hy => ?_))
      refine a_if_ne (tgt := 163) dX11_readsSum_78 (by decide) (fun c => ?_) (fun c => ?_)
      · have hy := hy.1 c
        refine a_goto (tgt := 14) dX11_readsSum_163 (by decide) ?_
        refine a_mask [true, true, false] (ls2 := [some (vR 12 (-1)), some (vI v1), none]) rfl rfl ?_
        exact hy
      · have hy := hy.2 (Decidable.not_not.mp c)
        refine a_iconst (x := 0) dX11_readsSum_81 rfl ⟨by decide, by decide⟩ ?_
        exact a_zret dX11_readsSum_82 rfl (Or.inl rfl) hy
    refine a_icmp_ge (tgt := 37) dX11_readsSum_30 (by decide) (fun e20 => ?_) (fun e20 => ?_)
    · refine a_iconst (x := 0) dX11_readsSum_37 rfl ⟨by decide, by decide⟩ ?_
      exact a_cast (by first | rfl | simp only [if_pos e20]) (by first | rfl | simp only [if_pos e20]) J
    · refine a_iconst (x := 1) dX11_readsSum_33 rfl ⟨by decide, by decide⟩ ?_
      refine a_goto (tgt := 38) dX11_readsSum_34 (by decide) ?_
      exact a_cast (by first | rfl | simp only [if_neg e20]) (by first | rfl | simp only [if_neg e20]) J
theorem s_M_readsSum_138 {d : Nat} {Q : Int → AH → Prop} {v1 : Int} {h : AH} (hy : Call d M_M_hasOpenSum [vR 12 (-1), vI v1] h (fun r2 h1 => ((r2 = 0 → (Call d M_M_closesSums [vR 12 (-1), vI 1] h1 (fun _ h3 => Q 1 h3))) ∧ (r2 ≠ 0 → (Call d M_M_wrongAt [vR 12 (-1), vI 1, vI (h1.1 12 12)] h1 (fun r5 h4 => (r5 = 0 ∨ r5 = 1) ∧ Q r5 h4)))))) : A_M_readsSum_138 d Q v1 h := by
  show AW d M_M_readsSum Q 138 [some (vR 12 (-1)), some (vI v1), none] [] h
  refine a_aload_n dX11_readsSum_138 rfl ?_
  refine a_iload_n dX11_readsSum_139 rfl ?_
  refine a_callVi (as := [vI v1]) (st := []) dX11_readsSum_140 lk_M_221 sk_12 rfl rfl (Nat.le_of_ble_eq_true rfl) (Or.inr rfl) (Call.mono hy (fun r2 h1 _ hy => ?_))
  refine a_if_eq (tgt := 156) dX11_readsSum_143 (by decide) (fun c => ?_) (fun c => ?_)
  · have hy := hy.1 c
    refine a_aload_n dX11_readsSum_156 rfl ?_
    refine a_iconst (x := 1) dX11_readsSum_157 rfl ⟨by decide, by decide⟩ ?_
    refine a_callVv (as := [vI 1]) (st := []) dX11_readsSum_158 lk_M_217 sk_12 rfl rfl (Nat.le_of_ble_eq_true rfl) rfl (Call.mono hy (fun _ h3 _ hy => ?_))
    refine a_iconst (x := 1) dX11_readsSum_161 rfl ⟨by decide, by decide⟩ ?_
    exact a_zret dX11_readsSum_162 rfl (Or.inr rfl) hy
  · have hy := hy.2 (c)
    refine a_aload_n dX11_readsSum_146 rfl ?_
    refine a_iconst (x := 1) dX11_readsSum_147 rfl ⟨by decide, by decide⟩ ?_
    refine a_aload_n dX11_readsSum_148 rfl ?_
    refine a_getI' (kz := 12) dX11_readsSum_149 fl_M_161 sk_12 rfl rfl (rfl) ?_
    refine a_callVi (as := [vI 1, vI (h1.1 12 12)]) (st := []) dX11_readsSum_152 lk_M_174 sk_12 rfl rfl (Nat.le_of_ble_eq_true rfl) (Or.inr rfl) (Call.mono hy (fun r5 h4 _ hy => ?_))
    obtain ⟨c6, hy⟩ := hy
    exact a_zret dX11_readsSum_155 rfl c6 hy
theorem c_M_readsSum {d : Nat} (d0 : Nat) (hd : d0 < d)  {h : AH} {Q : Int → AH → Prop} (hy : Call d0 M_M_readsFactor [vR 12 (-1)] h (fun r2 h1 => ((r2 ≠ 0 → A_M_readsSum_14 d0 Q (h.1 12 17) h1) ∧ (r2 = 0 → Q 0 h1)))) : Call d M_M_readsSum [vR 12 (-1)] h Q := by
  refine ⟨d0, hd, Big.of rfl (Nat.le_of_ble_eq_true rfl) ?_⟩
  show AW d0 M_M_readsSum Q 0 [some (vR 12 (-1)), none, none] [] h
  refine a_aload_n dX11_readsSum_0 rfl ?_
  refine a_getI' (kz := 17) dX11_readsSum_1 fl_M_191 sk_12 rfl rfl (rfl) ?_
  refine a_istore_n (i := 1) (ls2 := [some (vR 12 (-1)), some (vI (h.1 12 17)), none]) dX11_readsSum_4 rfl (Nat.le_of_ble_eq_true rfl) rfl ?_
  refine a_aload_n dX11_readsSum_5 rfl ?_
  refine a_callVi (as := []) (st := []) dX11_readsSum_6 lk_M_211 sk_12 rfl rfl (Nat.le_of_ble_eq_true rfl) (Or.inr rfl) (Call.mono hy (fun r2 h1 _ hy => ?_))
  refine a_if_ne (tgt := 14) dX11_readsSum_9 (by decide) (fun c => ?_) (fun c => ?_)
  · have hy := hy.1 c
    exact hy
  · have hy := hy.2 (Decidable.not_not.mp c)
    refine a_iconst (x := 0) dX11_readsSum_12 rfl ⟨by decide, by decide⟩ ?_
    exact a_zret dX11_readsSum_13 rfl (Or.inl rfl) hy
theorem c_M_reckon {d : Nat} (d0 : Nat) (hd : d0 < d) {p0 : Int} {p1 : Int} {p2 : Int} {h : AH} {Q : Int → AH → Prop} (hy : ((p0 = 2 → Q (w32 (p1 + p2)) h) ∧ (p0 = 3 → Q (w32 (p1 - p2)) h) ∧ (p0 = 4 → Q (w32 (p1 * p2)) h) ∧ (p0 = 5 → (p2 ≠ 0 ∧ Q (w32 (Int.tdiv p1 p2)) h)) ∧ (p0 = 6 → (p2 ≠ 0 ∧ Q (Int.tmod p1 p2) h)) ∧ (p0 = 7 → ((p2 ≤ p1 → Q 0 h) ∧ (p1 < p2 → Q 1 h))) ∧ (p0 = 8 → ((p1 ≤ p2 → Q 0 h) ∧ (p2 < p1 → Q 1 h))) ∧ ((p0 < 2 ∨ 8 < p0) → ((p1 ≠ p2 → Q 0 h) ∧ (p1 = p2 → Q 1 h))))) : Call d M_M_reckon [vI p0, vI p1, vI p2] h Q := by
  refine ⟨d0, hd, Big.of rfl (Nat.le_of_ble_eq_true rfl) ?_⟩
  show AW d0 M_M_reckon Q 0 [some (vI p0), some (vI p1), some (vI p2)] [] h
  refine a_iload_n dX11_reckon_0 rfl ?_
  obtain ⟨hy0, hy1, hy2, hy3, hy4, hy5, hy6, hyd⟩ := hy
  by_cases e0 : p0 = 2
  · have hy := hy0 e0
    refine a_tsw (i := 0) (tgt := 44) dX11_reckon_1 (e0.trans (by decide)) (by decide) rfl (by decide) ?_
    refine a_iload_n dX11_reckon_44 rfl ?_
    refine a_iload_n dX11_reckon_45 rfl ?_
    refine a_iaddW dX11_reckon_46 ?_
    exact a_iret dX11_reckon_47 rfl hy
  by_cases e1 : p0 = 3
  · have hy := hy1 e1
    refine a_tsw (i := 1) (tgt := 48) dX11_reckon_1 (e1.trans (by decide)) (by decide) rfl (by decide) ?_
    refine a_iload_n dX11_reckon_48 rfl ?_
    refine a_iload_n dX11_reckon_49 rfl ?_
    refine a_isubW dX11_reckon_50 ?_
    exact a_iret dX11_reckon_51 rfl hy
  by_cases e2 : p0 = 4
  · have hy := hy2 e2
    refine a_tsw (i := 2) (tgt := 52) dX11_reckon_1 (e2.trans (by decide)) (by decide) rfl (by decide) ?_
    refine a_iload_n dX11_reckon_52 rfl ?_
    refine a_iload_n dX11_reckon_53 rfl ?_
    refine a_imulW dX11_reckon_54 ?_
    exact a_iret dX11_reckon_55 rfl hy
  by_cases e3 : p0 = 5
  · have hy := hy3 e3
    refine a_tsw (i := 3) (tgt := 56) dX11_reckon_1 (e3.trans (by decide)) (by decide) rfl (by decide) ?_
    refine a_iload_n dX11_reckon_56 rfl ?_
    refine a_iload_n dX11_reckon_57 rfl ?_
    obtain ⟨c1, hy⟩ := hy
    refine a_idivW dX11_reckon_58 c1 ?_
    exact a_iret dX11_reckon_59 rfl hy
  by_cases e4 : p0 = 6
  · have hy := hy4 e4
    refine a_tsw (i := 4) (tgt := 60) dX11_reckon_1 (e4.trans (by decide)) (by decide) rfl (by decide) ?_
    refine a_iload_n dX11_reckon_60 rfl ?_
    refine a_iload_n dX11_reckon_61 rfl ?_
    obtain ⟨c2, hy⟩ := hy
    refine a_irem dX11_reckon_62 c2 ?_
    exact a_iret dX11_reckon_63 rfl hy
  by_cases e5 : p0 = 7
  · have hy := hy5 e5
    refine a_tsw (i := 5) (tgt := 64) dX11_reckon_1 (e5.trans (by decide)) (by decide) rfl (by decide) ?_
    refine a_iload_n dX11_reckon_64 rfl ?_
    refine a_iload_n dX11_reckon_65 rfl ?_
    refine a_icmp_ge (tgt := 73) dX11_reckon_66 (by decide) (fun c => ?_) (fun c => ?_)
    · have hy := hy.1 c
      refine a_iconst (x := 0) dX11_reckon_73 rfl ⟨by decide, by decide⟩ ?_
      exact a_iret dX11_reckon_74 rfl hy
    · have hy := hy.2 (Int.not_le.mp c)
      refine a_iconst (x := 1) dX11_reckon_69 rfl ⟨by decide, by decide⟩ ?_
      refine a_goto (tgt := 74) dX11_reckon_70 (by decide) ?_
      exact a_iret dX11_reckon_74 rfl hy
  by_cases e6 : p0 = 8
  · have hy := hy6 e6
    refine a_tsw (i := 6) (tgt := 75) dX11_reckon_1 (e6.trans (by decide)) (by decide) rfl (by decide) ?_
    refine a_iload_n dX11_reckon_75 rfl ?_
    refine a_iload_n dX11_reckon_76 rfl ?_
    refine a_icmp_le (tgt := 84) dX11_reckon_77 (by decide) (fun c => ?_) (fun c => ?_)
    · have hy := hy.1 c
      refine a_iconst (x := 0) dX11_reckon_84 rfl ⟨by decide, by decide⟩ ?_
      exact a_iret dX11_reckon_85 rfl hy
    · have hy := hy.2 (Int.not_le.mp c)
      refine a_iconst (x := 1) dX11_reckon_80 rfl ⟨by decide, by decide⟩ ?_
      refine a_goto (tgt := 85) dX11_reckon_81 (by decide) ?_
      exact a_iret dX11_reckon_85 rfl hy
  have ed : (p0 < 2 ∨ 8 < p0) := by omega
  have hy := hyd ed
  refine a_tswD (tgt := 86) dX11_reckon_1 ed (by decide) ?_
  refine a_iload_n dX11_reckon_86 rfl ?_
  refine a_iload_n dX11_reckon_87 rfl ?_
  refine a_icmp_ne (tgt := 95) dX11_reckon_88 (by decide) (fun c => ?_) (fun c => ?_)
  · have hy := hy.1 c
    refine a_iconst (x := 0) dX11_reckon_95 rfl ⟨by decide, by decide⟩ ?_
    exact a_iret dX11_reckon_96 rfl hy
  · have hy := hy.2 (Decidable.not_not.mp c)
    refine a_iconst (x := 1) dX11_reckon_91 rfl ⟨by decide, by decide⟩ ?_
    refine a_goto (tgt := 96) dX11_reckon_92 (by decide) ?_
    exact a_iret dX11_reckon_96 rfl hy
def A_M_row_91 (d : Nat) (Q : Int → AH → Prop) (p1 : Int) (p2 : Int) (v4 : Int) (v5 : Int) (v6 : Int) (h : AH) : Prop := AW d M_M_row Q 91 [some (vR 12 (-1)), some (vI p1), some (vI p2), none, some (vI v4), some (vI v5), some (vI v6), none, none] [] h
def A_M_row_97 (d : Nat) (Q : Int → AH → Prop) (p1 : Int) (p2 : Int) (v4 : Int) (v5 : Int) (v6 : Int) (v7 : Int) (v8 : Int) (h : AH) : Prop := AW d M_M_row Q 97 [some (vR 12 (-1)), some (vI p1), some (vI p2), none, some (vI v4), some (vI v5), some (vI v6), some (vI v7), some (vI v8)] [] h
theorem s_M_row_91 {d : Nat} {Q : Int → AH → Prop} {p1 : Int} {p2 : Int} {v4 : Int} {v5 : Int} {v6 : Int} {h : AH} (hy : A_M_row_97 d Q p1 p2 v4 v5 v6 (-1) 0 h) : A_M_row_91 d Q p1 p2 v4 v5 v6 h := by
  show AW d M_M_row Q 91 [some (vR 12 (-1)), some (vI p1), some (vI p2), none, some (vI v4), some (vI v5), some (vI v6), none, none] [] h
  refine a_iconst (x := (-1)) dX11_row_91 rfl ⟨by decide, by decide⟩ ?_
  refine a_istore (ls2 := [some (vR 12 (-1)), some (vI p1), some (vI p2), none, some (vI v4), some (vI v5), some (vI v6), some (vI (-1)), none]) dX11_row_92 (Nat.le_of_ble_eq_true rfl) rfl ?_
  refine a_iconst (x := 0) dX11_row_94 rfl ⟨by decide, by decide⟩ ?_
  refine a_istore (ls2 := [some (vR 12 (-1)), some (vI p1), some (vI p2), none, some (vI v4), some (vI v5), some (vI v6), some (vI (-1)), some (vI 0)]) dX11_row_95 (Nat.le_of_ble_eq_true rfl) rfl ?_
  exact hy
theorem s_M_row_97 {d : Nat} {Q : Int → AH → Prop} {p1 : Int} {p2 : Int} {v4 : Int} {v5 : Int} {v6 : Int} {v7 : Int} {v8 : Int} {h : AH} (hy : ((p1 ≤ v8 → ((v6 ≠ p2 → (inI (v6 + 1) ∧ A_M_row_91 d Q p1 p2 (ior v4 (ishl 1 v7)) v7 (v6 + 1) h)) ∧ (v6 = p2 → (inb v7 14 ∧ Q (h.1 88 v7) h)))) ∧ (v8 < p1 → (Call d M_M_rowBy [vR 12 (-1), vI p1, vI v4, vI v5, vI v8] h (fun r4 h3 => inI (13 * v4) ∧ (inI ((13 * v4) + v5) ∧ (inb ((13 * v4) + v5) 53248 ∧ ((r4 ≠ (h3.1 89 ((13 * v4) + v5)) → (inI (v8 + 1) ∧ A_M_row_97 d Q p1 p2 v4 v5 v6 v7 (v8 + 1) h3)) ∧ (r4 = (h3.1 89 ((13 * v4) + v5)) → (((iand (ishr v4 v8) 1) ≠ 0 → (inI (v8 + 1) ∧ A_M_row_97 d Q p1 p2 v4 v5 v6 v7 (v8 + 1) h3)) ∧ ((iand (ishr v4 v8) 1) = 0 → ((v7 = (-1) → (inI (v8 + 1) ∧ A_M_row_97 d Q p1 p2 v4 v5 v6 v8 (v8 + 1) h3)) ∧ (v7 ≠ (-1) → (inb v8 14 ∧ (inb v7 14 ∧ (((h3.1 88 v7) ≤ (h3.1 88 v8) → (inI (v8 + 1) ∧ A_M_row_97 d Q p1 p2 v4 v5 v6 v7 (v8 + 1) h3)) ∧ ((h3.1 88 v8) < (h3.1 88 v7) → (inI (v8 + 1) ∧ A_M_row_97 d Q p1 p2 v4 v5 v6 v8 (v8 + 1) h3)))))))))))))))))) : A_M_row_97 d Q p1 p2 v4 v5 v6 v7 v8 h := by
  show AW d M_M_row Q 97 [some (vR 12 (-1)), some (vI p1), some (vI p2), none, some (vI v4), some (vI v5), some (vI v6), some (vI v7), some (vI v8)] [] h
  refine a_iload dX11_row_97 rfl ?_
  refine a_iload_n dX11_row_99 rfl ?_
  refine a_icmp_ge (tgt := 173) dX11_row_100 (by decide) (fun c => ?_) (fun c => ?_)
  · have hy := hy.1 c
    refine a_iload dX11_row_173 rfl ?_
    refine a_iload_n dX11_row_175 rfl ?_
    refine a_icmp_ne (tgt := 187) dX11_row_176 (by decide) (fun c => ?_) (fun c => ?_)
    · have hy := hy.1 c
      refine a_iload dX11_row_187 rfl ?_
      refine a_iconst (x := 1) dX11_row_189 rfl ⟨by decide, by decide⟩ ?_
      refine a_iload dX11_row_190 rfl ?_
      refine a_ishl dX11_row_192 ?_
      refine a_ior dX11_row_193 ?_
      refine a_istore (ls2 := [some (vR 12 (-1)), some (vI p1), some (vI p2), none, some (vI (ior v4 (ishl 1 v7))), some (vI v5), some (vI v6), some (vI v7), some (vI v8)]) dX11_row_194 (Nat.le_of_ble_eq_true rfl) rfl ?_
      refine a_iload dX11_row_196 rfl ?_
      refine a_istore (ls2 := [some (vR 12 (-1)), some (vI p1), some (vI p2), none, some (vI (ior v4 (ishl 1 v7))), some (vI v7), some (vI v6), some (vI v7), some (vI v8)]) dX11_row_198 (Nat.le_of_ble_eq_true rfl) rfl ?_
      obtain ⟨c1, hy⟩ := hy
      refine a_iinc (y := v6 + 1) (ls2 := [some (vR 12 (-1)), some (vI p1), some (vI p2), none, some (vI (ior v4 (ishl 1 v7))), some (vI v7), some (vI (v6 + 1)), some (vI v7), some (vI v8)]) dX11_row_200 rfl rfl c1 rfl ?_
      refine a_goto (tgt := 91) dX11_row_203 (by decide) ?_
      refine a_mask [true, true, true, true, true, true, true, false, false] (ls2 := [some (vR 12 (-1)), some (vI p1), some (vI p2), none, some (vI (ior v4 (ishl 1 v7))), some (vI v7), some (vI (v6 + 1)), none, none]) rfl rfl ?_
      exact hy
    · have hy := hy.2 (Decidable.not_not.mp c)
      refine a_aload_n dX11_row_179 rfl ?_
      refine a_getR dX11_row_180 fl_M_103 sk_12 rfl ?_
      refine a_iload dX11_row_183 rfl ?_
      obtain ⟨c2, hy⟩ := hy
      refine a_iald' dX11_row_185 sk_88 c2 (rfl) ?_
      exact a_iret dX11_row_186 rfl hy
  · have hy := hy.2 (Int.not_le.mp c)
    refine a_aload_n dX11_row_103 rfl ?_
    refine a_iload_n dX11_row_104 rfl ?_
    refine a_iload dX11_row_105 rfl ?_
    refine a_iload dX11_row_107 rfl ?_
    refine a_iload dX11_row_109 rfl ?_
    refine a_callVi (as := [vI p1, vI v4, vI v5, vI v8]) (st := []) dX11_row_111 lk_M_373 sk_12 rfl rfl (Nat.le_of_ble_eq_true rfl) (Or.inl rfl) (Call.mono hy (fun r4 h3 _ hy => ?_))
    refine a_aload_n dX11_row_114 rfl ?_
    refine a_getR dX11_row_115 fl_M_107 sk_12 rfl ?_
    refine a_bipush (x := 13) dX11_row_118 (by decide) ⟨by decide, by decide⟩ ?_
    refine a_iload dX11_row_120 rfl ?_
    obtain ⟨c5, hy⟩ := hy
    refine a_imul dX11_row_122 c5 ?_
    refine a_iload dX11_row_123 rfl ?_
    obtain ⟨c6, hy⟩ := hy
    refine a_iadd dX11_row_125 c6 ?_
    obtain ⟨c7, hy⟩ := hy
    refine a_iald' dX11_row_126 sk_89 c7 (rfl) ?_
    refine a_icmp_ne (tgt := 167) dX11_row_127 (by decide) (fun c => ?_) (fun c => ?_)
    · have hy := hy.1 c
      obtain ⟨c8, hy⟩ := hy
      refine a_iinc (y := v8 + 1) (ls2 := [some (vR 12 (-1)), some (vI p1), some (vI p2), none, some (vI v4), some (vI v5), some (vI v6), some (vI v7), some (vI (v8 + 1))]) dX11_row_167 rfl rfl c8 rfl ?_
      refine a_goto (tgt := 97) dX11_row_170 (by decide) ?_
      exact hy
    · have hy := hy.2 (Decidable.not_not.mp c)
      refine a_iload dX11_row_130 rfl ?_
      refine a_iload dX11_row_132 rfl ?_
      refine a_ishr dX11_row_134 ?_
      refine a_iconst (x := 1) dX11_row_135 rfl ⟨by decide, by decide⟩ ?_
      refine a_iand dX11_row_136 ?_
      refine a_if_ne (tgt := 167) dX11_row_137 (by decide) (fun c => ?_) (fun c => ?_)
      · have hy := hy.1 c
        obtain ⟨c9, hy⟩ := hy
        refine a_iinc (y := v8 + 1) (ls2 := [some (vR 12 (-1)), some (vI p1), some (vI p2), none, some (vI v4), some (vI v5), some (vI v6), some (vI v7), some (vI (v8 + 1))]) dX11_row_167 rfl rfl c9 rfl ?_
        refine a_goto (tgt := 97) dX11_row_170 (by decide) ?_
        exact hy
      · have hy := hy.2 (Decidable.not_not.mp c)
        refine a_iload dX11_row_140 rfl ?_
        refine a_iconst (x := (-1)) dX11_row_142 rfl ⟨by decide, by decide⟩ ?_
        refine a_icmp_eq (tgt := 163) dX11_row_143 (by decide) (fun c => ?_) (fun c => ?_)
        · have hy := hy.1 c
          refine a_iload dX11_row_163 rfl ?_
          refine a_istore (ls2 := [some (vR 12 (-1)), some (vI p1), some (vI p2), none, some (vI v4), some (vI v5), some (vI v6), some (vI v8), some (vI v8)]) dX11_row_165 (Nat.le_of_ble_eq_true rfl) rfl ?_
          obtain ⟨c10, hy⟩ := hy
          refine a_iinc (y := v8 + 1) (ls2 := [some (vR 12 (-1)), some (vI p1), some (vI p2), none, some (vI v4), some (vI v5), some (vI v6), some (vI v8), some (vI (v8 + 1))]) dX11_row_167 rfl rfl c10 rfl ?_
          refine a_goto (tgt := 97) dX11_row_170 (by decide) ?_
          exact hy
        · have hy := hy.2 (c)
          refine a_aload_n dX11_row_146 rfl ?_
          refine a_getR dX11_row_147 fl_M_103 sk_12 rfl ?_
          refine a_iload dX11_row_150 rfl ?_
          obtain ⟨c11, hy⟩ := hy
          refine a_iald' dX11_row_152 sk_88 c11 (rfl) ?_
          refine a_aload_n dX11_row_153 rfl ?_
          refine a_getR dX11_row_154 fl_M_103 sk_12 rfl ?_
          refine a_iload dX11_row_157 rfl ?_
          obtain ⟨c12, hy⟩ := hy
          refine a_iald' dX11_row_159 sk_88 c12 (rfl) ?_
          refine a_icmp_ge (tgt := 167) dX11_row_160 (by decide) (fun c => ?_) (fun c => ?_)
          · have hy := hy.1 c
            obtain ⟨c13, hy⟩ := hy
            refine a_iinc (y := v8 + 1) (ls2 := [some (vR 12 (-1)), some (vI p1), some (vI p2), none, some (vI v4), some (vI v5), some (vI v6), some (vI v7), some (vI (v8 + 1))]) dX11_row_167 rfl rfl c13 rfl ?_
            refine a_goto (tgt := 97) dX11_row_170 (by decide) ?_
            exact hy
          · have hy := hy.2 (Int.not_le.mp c)
            refine a_iload dX11_row_163 rfl ?_
            refine a_istore (ls2 := [some (vR 12 (-1)), some (vI p1), some (vI p2), none, some (vI v4), some (vI v5), some (vI v6), some (vI v8), some (vI v8)]) dX11_row_165 (Nat.le_of_ble_eq_true rfl) rfl ?_
            obtain ⟨c14, hy⟩ := hy
            refine a_iinc (y := v8 + 1) (ls2 := [some (vR 12 (-1)), some (vI p1), some (vI p2), none, some (vI v4), some (vI v5), some (vI v6), some (vI v8), some (vI (v8 + 1))]) dX11_row_167 rfl rfl c14 rfl ?_
            refine a_goto (tgt := 97) dX11_row_170 (by decide) ?_
            exact hy
theorem c_M_row {d : Nat} (d0 : Nat) (hd : d0 < d) {p1 : Int} {p2 : Int} {h : AH} {Q : Int → AH → Prop} (hy : Call d0 M_M_in [vI p1, vI 2, vI 10] h (fun r2 h1 => ((r2 = 0 → Q (-1) h1) ∧ (r2 ≠ 0 → (inI (p1 - 1) ∧ (Call d0 M_M_in [vI p2, vI (-1), vI (p1 - 1)] h1 (fun r5 h4 => ((r5 = 0 → Q (-1) h4) ∧ (r5 ≠ 0 → ((p1 ≤ (h4.1 12 11) → (Call d0 M_M_takesWords [vR 12 (-1), vI p1] h4 (fun r7 h6 => ((r7 = 0 → Q (-3) h6) ∧ (r7 ≠ 0 → (Call d0 M_M_areUsed [vR 12 (-1), vI p1] h6 (fun r9 h8 => ((r9 ≠ 0 → (Call d0 M_M_laysSteps [vR 12 (-1)] h8 (fun _ h10 => Call d0 M_M_laysRest [vR 12 (-1), vI p1] h10 (fun _ h11 => inb p1 53248 ∧ (((h11.1 89 p1) < 1000000000 → ((p2 ≠ (-1) → A_M_row_91 d0 Q p1 p2 0 p1 0 h11) ∧ (p2 = (-1) → Q (h11.1 89 p1) h11))) ∧ (1000000000 ≤ (h11.1 89 p1) → Q (-2) h11)))))) ∧ (r9 = 0 → Q (-3) h8))))))))) ∧ ((h4.1 12 11) < p1 → Q (-1) h4))))))))))) : Call d M_M_row [vR 12 (-1), vI p1, vI p2] h Q := by
  refine ⟨d0, hd, Big.of rfl (Nat.le_of_ble_eq_true rfl) ?_⟩
  show AW d0 M_M_row Q 0 [some (vR 12 (-1)), some (vI p1), some (vI p2), none, none, none, none, none, none] [] h
  refine a_iload_n dX11_row_0 rfl ?_
  refine a_iconst (x := 2) dX11_row_1 rfl ⟨by decide, by decide⟩ ?_
  refine a_bipush (x := 10) dX11_row_2 (by decide) ⟨by decide, by decide⟩ ?_
  refine a_callSi (as := [vI p1, vI 2, vI 10]) (st := []) dX11_row_4 lk_M_139 rfl rfl (Nat.le_of_ble_eq_true rfl) (Or.inr rfl) (Call.mono hy (fun r2 h1 _ hy => ?_))
  refine a_if_eq (tgt := 29) dX11_row_7 (by decide) (fun c => ?_) (fun c => ?_)
  · have hy := hy.1 c
    refine a_iconst (x := (-1)) dX11_row_29 rfl ⟨by decide, by decide⟩ ?_
    exact a_iret dX11_row_30 rfl hy
  · have hy := hy.2 (c)
    refine a_iload_n dX11_row_10 rfl ?_
    refine a_iconst (x := (-1)) dX11_row_11 rfl ⟨by decide, by decide⟩ ?_
    refine a_iload_n dX11_row_12 rfl ?_
    refine a_iconst (x := 1) dX11_row_13 rfl ⟨by decide, by decide⟩ ?_
    obtain ⟨c3, hy⟩ := hy
    refine a_isub dX11_row_14 c3 ?_
    refine a_callSi (as := [vI p2, vI (-1), vI (p1 - 1)]) (st := []) dX11_row_15 lk_M_139 rfl rfl (Nat.le_of_ble_eq_true rfl) (Or.inr rfl) (Call.mono hy (fun r5 h4 _ hy => ?_))
    refine a_if_eq (tgt := 29) dX11_row_18 (by decide) (fun c => ?_) (fun c => ?_)
    · have hy := hy.1 c
      refine a_iconst (x := (-1)) dX11_row_29 rfl ⟨by decide, by decide⟩ ?_
      exact a_iret dX11_row_30 rfl hy
    · have hy := hy.2 (c)
      refine a_iload_n dX11_row_21 rfl ?_
      refine a_aload_n dX11_row_22 rfl ?_
      refine a_getI' (kz := 11) dX11_row_23 fl_M_133 sk_12 rfl rfl (rfl) ?_
      refine a_icmp_le (tgt := 31) dX11_row_26 (by decide) (fun c => ?_) (fun c => ?_)
      · have hy := hy.1 c
        refine a_aload_n dX11_row_31 rfl ?_
        refine a_iload_n dX11_row_32 rfl ?_
        refine a_callVi (as := [vI p1]) (st := []) dX11_row_33 lk_M_377 sk_12 rfl rfl (Nat.le_of_ble_eq_true rfl) (Or.inr rfl) (Call.mono hy (fun r7 h6 _ hy => ?_))
        refine a_if_eq (tgt := 47) dX11_row_36 (by decide) (fun c => ?_) (fun c => ?_)
        · have hy := hy.1 c
          refine a_bipush (x := (-3)) dX11_row_47 (by decide) ⟨by decide, by decide⟩ ?_
          exact a_iret dX11_row_49 rfl hy
        · have hy := hy.2 (c)
          refine a_aload_n dX11_row_39 rfl ?_
          refine a_iload_n dX11_row_40 rfl ?_
          refine a_callVi (as := [vI p1]) (st := []) dX11_row_41 lk_M_380 sk_12 rfl rfl (Nat.le_of_ble_eq_true rfl) (Or.inr rfl) (Call.mono hy (fun r9 h8 _ hy => ?_))
          refine a_if_ne (tgt := 50) dX11_row_44 (by decide) (fun c => ?_) (fun c => ?_)
          · have hy := hy.1 c
            refine a_aload_n dX11_row_50 rfl ?_
            refine a_callVv (as := []) (st := []) dX11_row_51 lk_M_291 sk_12 rfl rfl (Nat.le_of_ble_eq_true rfl) rfl (Call.mono hy (fun _ h10 _ hy => ?_))
            refine a_aload_n dX11_row_54 rfl ?_
            refine a_iload_n dX11_row_55 rfl ?_
            refine a_callVv (as := [vI p1]) (st := []) dX11_row_56 lk_M_383 sk_12 rfl rfl (Nat.le_of_ble_eq_true rfl) rfl (Call.mono hy (fun _ h11 _ hy => ?_))
            refine a_aload_n dX11_row_59 rfl ?_
            refine a_getR dX11_row_60 fl_M_107 sk_12 rfl ?_
            refine a_iload_n dX11_row_63 rfl ?_
            obtain ⟨c12, hy⟩ := hy
            refine a_iald' dX11_row_64 sk_89 c12 (rfl) ?_
            refine a_istore_n (i := 3) (ls2 := [some (vR 12 (-1)), some (vI p1), some (vI p2), some (vI (h11.1 89 p1)), none, none, none, none, none]) dX11_row_65 rfl (Nat.le_of_ble_eq_true rfl) rfl ?_
            refine a_iload_n dX11_row_66 rfl ?_
            refine a_ldc (x := 1000000000) dX11_row_67 kc_M_129 ⟨by decide, by decide⟩ ?_
            refine a_icmp_lt (tgt := 75) dX11_row_69 (by decide) (fun c => ?_) (fun c => ?_)
            · have hy := hy.1 c
              refine a_iload_n dX11_row_75 rfl ?_
              refine a_iconst (x := (-1)) dX11_row_76 rfl ⟨by decide, by decide⟩ ?_
              refine a_icmp_ne (tgt := 82) dX11_row_77 (by decide) (fun c => ?_) (fun c => ?_)
              · have hy := hy.1 c
                refine a_iconst (x := 0) dX11_row_82 rfl ⟨by decide, by decide⟩ ?_
                refine a_istore (ls2 := [some (vR 12 (-1)), some (vI p1), some (vI p2), some (vI (h11.1 89 p1)), some (vI 0), none, none, none, none]) dX11_row_83 (Nat.le_of_ble_eq_true rfl) rfl ?_
                refine a_iload_n dX11_row_85 rfl ?_
                refine a_istore (ls2 := [some (vR 12 (-1)), some (vI p1), some (vI p2), some (vI (h11.1 89 p1)), some (vI 0), some (vI p1), none, none, none]) dX11_row_86 (Nat.le_of_ble_eq_true rfl) rfl ?_
                refine a_iconst (x := 0) dX11_row_88 rfl ⟨by decide, by decide⟩ ?_
                refine a_istore (ls2 := [some (vR 12 (-1)), some (vI p1), some (vI p2), some (vI (h11.1 89 p1)), some (vI 0), some (vI p1), some (vI 0), none, none]) dX11_row_89 (Nat.le_of_ble_eq_true rfl) rfl ?_
                refine a_mask [true, true, true, false, true, true, true, true, true] (ls2 := [some (vR 12 (-1)), some (vI p1), some (vI p2), none, some (vI 0), some (vI p1), some (vI 0), none, none]) rfl rfl ?_
                exact hy
              · have hy := hy.2 (Decidable.not_not.mp c)
                refine a_iload_n dX11_row_80 rfl ?_
                exact a_iret dX11_row_81 rfl hy
            · have hy := hy.2 (Int.not_lt.mp c)
              refine a_bipush (x := (-2)) dX11_row_72 (by decide) ⟨by decide, by decide⟩ ?_
              exact a_iret dX11_row_74 rfl hy
          · have hy := hy.2 (Decidable.not_not.mp c)
            refine a_bipush (x := (-3)) dX11_row_47 (by decide) ⟨by decide, by decide⟩ ?_
            exact a_iret dX11_row_49 rfl hy
      · have hy := hy.2 (Int.not_le.mp c)
        refine a_iconst (x := (-1)) dX11_row_29 rfl ⟨by decide, by decide⟩ ?_
        exact a_iret dX11_row_30 rfl hy
def A_M_rowBy_29 (d : Nat) (Q : Int → AH → Prop) (p2 : Int) (p4 : Int) (s0 : Int) (h : AH) : Prop := AW d M_M_rowBy Q 29 [some (vR 12 (-1)), none, some (vI p2), none, some (vI p4)] [vI s0] h
theorem s_M_rowBy_29 {d : Nat} {Q : Int → AH → Prop} {p2 : Int} {p4 : Int} {s0 : Int} {h : AH} (hy : inI (13 * (ior p2 (ishl 1 p4))) ∧ (inI ((13 * (ior p2 (ishl 1 p4))) + p4) ∧ (inb ((13 * (ior p2 (ishl 1 p4))) + p4) 53248 ∧ (Call d M_M_sum [vI s0, vI (h.1 89 ((13 * (ior p2 (ishl 1 p4))) + p4))] h (fun r5 h4 => Q r5 h4))))) : A_M_rowBy_29 d Q p2 p4 s0 h := by
  show AW d M_M_rowBy Q 29 [some (vR 12 (-1)), none, some (vI p2), none, some (vI p4)] [vI s0] h
  refine a_aload_n dX11_rowBy_29 rfl ?_
  refine a_getR dX11_rowBy_30 fl_M_107 sk_12 rfl ?_
  refine a_bipush (x := 13) dX11_rowBy_33 (by decide) ⟨by decide, by decide⟩ ?_
  refine a_iload_n dX11_rowBy_35 rfl ?_
  refine a_iconst (x := 1) dX11_rowBy_36 rfl ⟨by decide, by decide⟩ ?_
  refine a_iload dX11_rowBy_37 rfl ?_
  refine a_ishl dX11_rowBy_39 ?_
  refine a_ior dX11_rowBy_40 ?_
  obtain ⟨c1, hy⟩ := hy
  refine a_imul dX11_rowBy_41 c1 ?_
  refine a_iload dX11_rowBy_42 rfl ?_
  obtain ⟨c2, hy⟩ := hy
  refine a_iadd dX11_rowBy_44 c2 ?_
  obtain ⟨c3, hy⟩ := hy
  refine a_iald' dX11_rowBy_45 sk_89 c3 (rfl) ?_
  refine a_callSi (as := [vI s0, vI (h.1 89 ((13 * (ior p2 (ishl 1 p4))) + p4))]) (st := []) dX11_rowBy_46 lk_M_300 rfl rfl (Nat.le_of_ble_eq_true rfl) (Or.inl rfl) (Call.mono hy (fun r5 h4 _ hy => ?_))
  exact a_iret dX11_rowBy_49 rfl hy
theorem c_M_rowBy {d : Nat} (d0 : Nat) (hd : d0 < d) {p1 : Int} {p2 : Int} {p3 : Int} {p4 : Int} {h : AH} {Q : Int → AH → Prop} (hy : (((iand (ishr p2 p4) 1) ≠ 1 → ((p3 ≠ p1 → (Call d0 M_M_stepTold [vR 12 (-1), vI p3, vI p4] h (fun r2 h1 => A_M_rowBy_29 d0 Q p2 p4 r2 h1))) ∧ (p3 = p1 → A_M_rowBy_29 d0 Q p2 p4 0 h))) ∧ ((iand (ishr p2 p4) 1) = 1 → Q 1000000000 h))) : Call d M_M_rowBy [vR 12 (-1), vI p1, vI p2, vI p3, vI p4] h Q := by
  refine ⟨d0, hd, Big.of rfl (Nat.le_of_ble_eq_true rfl) ?_⟩
  show AW d0 M_M_rowBy Q 0 [some (vR 12 (-1)), some (vI p1), some (vI p2), some (vI p3), some (vI p4)] [] h
  refine a_iload_n dX11_rowBy_0 rfl ?_
  refine a_iload dX11_rowBy_1 rfl ?_
  refine a_ishr dX11_rowBy_3 ?_
  refine a_iconst (x := 1) dX11_rowBy_4 rfl ⟨by decide, by decide⟩ ?_
  refine a_iand dX11_rowBy_5 ?_
  refine a_iconst (x := 1) dX11_rowBy_6 rfl ⟨by decide, by decide⟩ ?_
  refine a_icmp_ne (tgt := 13) dX11_rowBy_7 (by decide) (fun c => ?_) (fun c => ?_)
  · have hy := hy.1 c
    refine a_iload_n dX11_rowBy_13 rfl ?_
    refine a_iload_n dX11_rowBy_14 rfl ?_
    refine a_icmp_ne (tgt := 22) dX11_rowBy_15 (by decide) (fun c => ?_) (fun c => ?_)
    · have hy := hy.1 c
      refine a_aload_n dX11_rowBy_22 rfl ?_
      refine a_iload_n dX11_rowBy_23 rfl ?_
      refine a_iload dX11_rowBy_24 rfl ?_
      refine a_callVi (as := [vI p3, vI p4]) (st := []) dX11_rowBy_26 lk_M_370 sk_12 rfl rfl (Nat.le_of_ble_eq_true rfl) (Or.inl rfl) (Call.mono hy (fun r2 h1 _ hy => ?_))
      refine a_mask [true, false, true, false, true] (ls2 := [some (vR 12 (-1)), none, some (vI p2), none, some (vI p4)]) rfl rfl ?_
      exact hy
    · have hy := hy.2 (Decidable.not_not.mp c)
      refine a_iconst (x := 0) dX11_rowBy_18 rfl ⟨by decide, by decide⟩ ?_
      refine a_goto (tgt := 29) dX11_rowBy_19 (by decide) ?_
      refine a_mask [true, false, true, false, true] (ls2 := [some (vR 12 (-1)), none, some (vI p2), none, some (vI p4)]) rfl rfl ?_
      exact hy
  · have hy := hy.2 (Decidable.not_not.mp c)
    refine a_ldc (x := 1000000000) dX11_rowBy_10 kc_M_129 ⟨by decide, by decide⟩ ?_
    exact a_iret dX11_rowBy_12 rfl hy
def A_M_rubbed_29 (d : Nat) (Q : Int → AH → Prop) (p1 : Int) (v2 : Int) (h : AH) : Prop := AW d M_M_rubbed Q 29 [some (vR 12 (-1)), some (vI p1), some (vI v2), none, none] [] h
def A_M_rubbed_76 (d : Nat) (Q : Int → AH → Prop) (p1 : Int) (v2 : Int) (v4 : Int) (h : AH) : Prop := AW d M_M_rubbed Q 76 [some (vR 12 (-1)), some (vI p1), some (vL v2), none, some (vI v4)] [] h
theorem s_M_rubbed_29 {d : Nat} {Q : Int → AH → Prop} {p1 : Int} {v2 : Int} {h : AH} (hy : ((p1 ≤ v2 → A_M_rubbed_76 d Q p1 0 0 h) ∧ (v2 < p1 → (inb v2 200 ∧ (((h.1 64 v2) = 63 → (inI (v2 + 1) ∧ A_M_rubbed_29 d Q p1 (v2 + 1) h)) ∧ ((h.1 64 v2) ≠ 63 → (Call d M_M_in [vI (h.1 64 v2), vI 97, vI 122] h (fun r4 h3 => ((r4 ≠ 0 → (inI (v2 + 1) ∧ A_M_rubbed_29 d Q p1 (v2 + 1) h3)) ∧ (r4 = 0 → Q (-2) h3)))))))))) : A_M_rubbed_29 d Q p1 v2 h := by
  show AW d M_M_rubbed Q 29 [some (vR 12 (-1)), some (vI p1), some (vI v2), none, none] [] h
  refine a_iload_n dX11_rubbed_29 rfl ?_
  refine a_iload_n dX11_rubbed_30 rfl ?_
  refine a_icmp_ge (tgt := 71) dX11_rubbed_31 (by decide) (fun c => ?_) (fun c => ?_)
  · have hy := hy.1 c
    refine a_lconst (x := 0) dX11_rubbed_71 rfl ⟨by decide, by decide⟩ ?_
    refine a_lstore_n (i := 2) (ls2 := [some (vR 12 (-1)), some (vI p1), some (vL 0), none, none]) dX11_rubbed_72 rfl (Nat.le_of_ble_eq_true rfl) rfl ?_
    refine a_iconst (x := 0) dX11_rubbed_73 rfl ⟨by decide, by decide⟩ ?_
    refine a_istore (ls2 := [some (vR 12 (-1)), some (vI p1), some (vL 0), none, some (vI 0)]) dX11_rubbed_74 (Nat.le_of_ble_eq_true rfl) rfl ?_
    exact hy
  · have hy := hy.2 (Int.not_le.mp c)
    refine a_aload_n dX11_rubbed_34 rfl ?_
    refine a_getR dX11_rubbed_35 fl_M_29 sk_12 rfl ?_
    refine a_iload_n dX11_rubbed_38 rfl ?_
    obtain ⟨c1, hy⟩ := hy
    refine a_bald' dX11_rubbed_39 sk_64 c1 (rfl) ?_
    refine a_bipush (x := 63) dX11_rubbed_40 (by decide) ⟨by decide, by decide⟩ ?_
    refine a_icmp_eq (tgt := 65) dX11_rubbed_42 (by decide) (fun c => ?_) (fun c => ?_)
    · have hy := hy.1 c
      obtain ⟨c2, hy⟩ := hy
      refine a_iinc (y := v2 + 1) (ls2 := [some (vR 12 (-1)), some (vI p1), some (vI (v2 + 1)), none, none]) dX11_rubbed_65 rfl rfl c2 rfl ?_
      refine a_goto (tgt := 29) dX11_rubbed_68 (by decide) ?_
      exact hy
    · have hy := hy.2 (c)
      refine a_aload_n dX11_rubbed_45 rfl ?_
      refine a_getR dX11_rubbed_46 fl_M_29 sk_12 rfl ?_
      refine a_iload_n dX11_rubbed_49 rfl ?_
      refine a_bald' dX11_rubbed_50 sk_64 c1 (rfl) ?_
      refine a_bipush (x := 97) dX11_rubbed_51 (by decide) ⟨by decide, by decide⟩ ?_
      refine a_bipush (x := 122) dX11_rubbed_53 (by decide) ⟨by decide, by decide⟩ ?_
      refine a_callSi (as := [vI (h.1 64 v2), vI 97, vI 122]) (st := []) dX11_rubbed_55 lk_M_139 rfl rfl (Nat.le_of_ble_eq_true rfl) (Or.inr rfl) (Call.mono hy (fun r4 h3 _ hy => ?_))
      refine a_if_ne (tgt := 65) dX11_rubbed_58 (by decide) (fun c => ?_) (fun c => ?_)
      · have hy := hy.1 c
        obtain ⟨c5, hy⟩ := hy
        refine a_iinc (y := v2 + 1) (ls2 := [some (vR 12 (-1)), some (vI p1), some (vI (v2 + 1)), none, none]) dX11_rubbed_65 rfl rfl c5 rfl ?_
        refine a_goto (tgt := 29) dX11_rubbed_68 (by decide) ?_
        exact hy
      · have hy := hy.2 (Decidable.not_not.mp c)
        refine a_ldc2 (x := (-2)) dX11_rubbed_61 kc_M_324 ⟨by decide, by decide⟩ ?_
        exact a_lret dX11_rubbed_64 rfl hy
theorem s_M_rubbed_76 {d : Nat} {Q : Int → AH → Prop} {p1 : Int} {v2 : Int} {v4 : Int} {h : AH} (hy : (((h.1 12 0) ≤ v4 → Q v2 h) ∧ (v4 < (h.1 12 0) → (Call d M_M_isUsed [vR 12 (-1), vI v4] h (fun r2 h1 => ((r2 = 0 → (inI (v4 + 1) ∧ A_M_rubbed_76 d Q p1 v2 (v4 + 1) h1)) ∧ (r2 ≠ 0 → (Call d M_M_isRubbed [vR 12 (-1), vI v4, vI p1] h1 (fun r5 h4 => ((r5 = 0 → (inI (v4 + 1) ∧ A_M_rubbed_76 d Q p1 v2 (v4 + 1) h4)) ∧ (r5 ≠ 0 → (inI (v4 + 1) ∧ A_M_rubbed_76 d Q p1 (lor v2 (lshl 1 v4)) (v4 + 1) h4)))))))))))) : A_M_rubbed_76 d Q p1 v2 v4 h := by
  show AW d M_M_rubbed Q 76 [some (vR 12 (-1)), some (vI p1), some (vL v2), none, some (vI v4)] [] h
  refine a_iload dX11_rubbed_76 rfl ?_
  refine a_aload_n dX11_rubbed_78 rfl ?_
  refine a_getI' (kz := 0) dX11_rubbed_79 fl_M_130 sk_12 rfl rfl (rfl) ?_
  refine a_icmp_ge (tgt := 117) dX11_rubbed_82 (by decide) (fun c => ?_) (fun c => ?_)
  · have hy := hy.1 c
    refine a_lload_n dX11_rubbed_117 rfl ?_
    exact a_lret dX11_rubbed_118 rfl hy
  · have hy := hy.2 (Int.not_le.mp c)
    refine a_aload_n dX11_rubbed_85 rfl ?_
    refine a_iload dX11_rubbed_86 rfl ?_
    refine a_callVi (as := [vI v4]) (st := []) dX11_rubbed_88 lk_M_282 sk_12 rfl rfl (Nat.le_of_ble_eq_true rfl) (Or.inr rfl) (Call.mono hy (fun r2 h1 _ hy => ?_))
    refine a_if_eq (tgt := 111) dX11_rubbed_91 (by decide) (fun c => ?_) (fun c => ?_)
    · have hy := hy.1 c
      obtain ⟨c3, hy⟩ := hy
      refine a_iinc (y := v4 + 1) (ls2 := [some (vR 12 (-1)), some (vI p1), some (vL v2), none, some (vI (v4 + 1))]) dX11_rubbed_111 rfl rfl c3 rfl ?_
      refine a_goto (tgt := 76) dX11_rubbed_114 (by decide) ?_
      exact hy
    · have hy := hy.2 (c)
      refine a_aload_n dX11_rubbed_94 rfl ?_
      refine a_iload dX11_rubbed_95 rfl ?_
      refine a_iload_n dX11_rubbed_97 rfl ?_
      refine a_callVi (as := [vI v4, vI p1]) (st := []) dX11_rubbed_98 lk_M_401 sk_12 rfl rfl (Nat.le_of_ble_eq_true rfl) (Or.inr rfl) (Call.mono hy (fun r5 h4 _ hy => ?_))
      refine a_if_eq (tgt := 111) dX11_rubbed_101 (by decide) (fun c => ?_) (fun c => ?_)
      · have hy := hy.1 c
        obtain ⟨c6, hy⟩ := hy
        refine a_iinc (y := v4 + 1) (ls2 := [some (vR 12 (-1)), some (vI p1), some (vL v2), none, some (vI (v4 + 1))]) dX11_rubbed_111 rfl rfl c6 rfl ?_
        refine a_goto (tgt := 76) dX11_rubbed_114 (by decide) ?_
        exact hy
      · have hy := hy.2 (c)
        refine a_lload_n dX11_rubbed_104 rfl ?_
        refine a_lconst (x := 1) dX11_rubbed_105 rfl ⟨by decide, by decide⟩ ?_
        refine a_iload dX11_rubbed_106 rfl ?_
        refine a_lshl dX11_rubbed_108 ?_
        refine a_lor dX11_rubbed_109 ?_
        refine a_lstore_n (i := 2) (ls2 := [some (vR 12 (-1)), some (vI p1), some (vL (lor v2 (lshl 1 v4))), none, some (vI v4)]) dX11_rubbed_110 rfl (Nat.le_of_ble_eq_true rfl) rfl ?_
        obtain ⟨c7, hy⟩ := hy
        refine a_iinc (y := v4 + 1) (ls2 := [some (vR 12 (-1)), some (vI p1), some (vL (lor v2 (lshl 1 v4))), none, some (vI (v4 + 1))]) dX11_rubbed_111 rfl rfl c7 rfl ?_
        refine a_goto (tgt := 76) dX11_rubbed_114 (by decide) ?_
        exact hy
theorem c_M_rubbed {d : Nat} (d0 : Nat) (hd : d0 < d) {p1 : Int} {h : AH} {Q : Int → AH → Prop} (hy : Call d0 M_M_in [vI p1, vI 1, vI 8] h (fun r2 h1 => ((r2 = 0 → Q (-1) h1) ∧ (r2 ≠ 0 → ((p1 ≤ (h1.1 12 11) → A_M_rubbed_29 d0 Q p1 0 (wI h1 12 11 0)) ∧ ((h1.1 12 11) < p1 → Q (-1) h1)))))) : Call d M_M_rubbed [vR 12 (-1), vI p1] h Q := by
  refine ⟨d0, hd, Big.of rfl (Nat.le_of_ble_eq_true rfl) ?_⟩
  show AW d0 M_M_rubbed Q 0 [some (vR 12 (-1)), some (vI p1), none, none, none] [] h
  refine a_iload_n dX11_rubbed_0 rfl ?_
  refine a_iconst (x := 1) dX11_rubbed_1 rfl ⟨by decide, by decide⟩ ?_
  refine a_bipush (x := 8) dX11_rubbed_2 (by decide) ⟨by decide, by decide⟩ ?_
  refine a_callSi (as := [vI p1, vI 1, vI 8]) (st := []) dX11_rubbed_4 lk_M_139 rfl rfl (Nat.le_of_ble_eq_true rfl) (Or.inr rfl) (Call.mono hy (fun r2 h1 _ hy => ?_))
  refine a_if_eq (tgt := 18) dX11_rubbed_7 (by decide) (fun c => ?_) (fun c => ?_)
  · have hy := hy.1 c
    refine a_ldc2 (x := (-1)) dX11_rubbed_18 kc_M_312 ⟨by decide, by decide⟩ ?_
    exact a_lret dX11_rubbed_21 rfl hy
  · have hy := hy.2 (c)
    refine a_iload_n dX11_rubbed_10 rfl ?_
    refine a_aload_n dX11_rubbed_11 rfl ?_
    refine a_getI' (kz := 11) dX11_rubbed_12 fl_M_133 sk_12 rfl rfl (rfl) ?_
    refine a_icmp_le (tgt := 22) dX11_rubbed_15 (by decide) (fun c => ?_) (fun c => ?_)
    · have hy := hy.1 c
      refine a_aload_n dX11_rubbed_22 rfl ?_
      refine a_iconst (x := 0) dX11_rubbed_23 rfl ⟨by decide, by decide⟩ ?_
      refine a_putI (kz := 11) dX11_rubbed_24 fp_M_133 sk_12 rfl rfl ?_
      refine a_iconst (x := 0) dX11_rubbed_27 rfl ⟨by decide, by decide⟩ ?_
      refine a_istore_n (i := 2) (ls2 := [some (vR 12 (-1)), some (vI p1), some (vI 0), none, none]) dX11_rubbed_28 rfl (Nat.le_of_ble_eq_true rfl) rfl ?_
      exact hy
    · have hy := hy.2 (Int.not_le.mp c)
      refine a_ldc2 (x := (-1)) dX11_rubbed_18 kc_M_312 ⟨by decide, by decide⟩ ?_
      exact a_lret dX11_rubbed_21 rfl hy
theorem c_M_seed {d : Nat} (d0 : Nat) (hd : d0 < d) {p1 : Int} {h : AH} {Q : Int → AH → Prop} (hy : Call d0 M_M_in [vI p1, vI 0, vI 65535] h (fun r2 h1 => ((r2 ≠ 0 → Q 1 (wI h1 12 1 p1)) ∧ (r2 = 0 → Q 0 h1)))) : Call d M_M_seed [vR 12 (-1), vI p1] h Q := by
  refine ⟨d0, hd, Big.of rfl (Nat.le_of_ble_eq_true rfl) ?_⟩
  show AW d0 M_M_seed Q 0 [some (vR 12 (-1)), some (vI p1)] [] h
  refine a_iload_n dX11_seed_0 rfl ?_
  refine a_iconst (x := 0) dX11_seed_1 rfl ⟨by decide, by decide⟩ ?_
  refine a_ldcw (x := 65535) dX11_seed_2 kc_M_419 ⟨by decide, by decide⟩ ?_
  refine a_callSi (as := [vI p1, vI 0, vI 65535]) (st := []) dX11_seed_5 lk_M_139 rfl rfl (Nat.le_of_ble_eq_true rfl) (Or.inr rfl) (Call.mono hy (fun r2 h1 _ hy => ?_))
  refine a_if_ne (tgt := 13) dX11_seed_8 (by decide) (fun c => ?_) (fun c => ?_)
  · have hy := hy.1 c
    refine a_aload_n dX11_seed_13 rfl ?_
    refine a_iload_n dX11_seed_14 rfl ?_
    refine a_putI (kz := 1) dX11_seed_15 fp_M_122 sk_12 rfl rfl ?_
    refine a_iconst (x := 1) dX11_seed_18 rfl ⟨by decide, by decide⟩ ?_
    exact a_zret dX11_seed_19 rfl (Or.inr rfl) hy
  · have hy := hy.2 (Decidable.not_not.mp c)
    refine a_iconst (x := 0) dX11_seed_11 rfl ⟨by decide, by decide⟩ ?_
    exact a_zret dX11_seed_12 rfl (Or.inl rfl) hy
theorem c_M_speak {d : Nat} (d0 : Nat) (hd : d0 < d) {p1 : Int} {h : AH} {Q : Int → AH → Prop} (hy : Call d0 M_M_in [vI p1, vI (-1), vI 3] h (fun r2 h1 => ((r2 ≠ 0 → Q 1 (wI h1 12 2 p1)) ∧ (r2 = 0 → Q 0 h1)))) : Call d M_M_speak [vR 12 (-1), vI p1] h Q := by
  refine ⟨d0, hd, Big.of rfl (Nat.le_of_ble_eq_true rfl) ?_⟩
  show AW d0 M_M_speak Q 0 [some (vR 12 (-1)), some (vI p1)] [] h
  refine a_iload_n dX11_speak_0 rfl ?_
  refine a_iconst (x := (-1)) dX11_speak_1 rfl ⟨by decide, by decide⟩ ?_
  refine a_iconst (x := 3) dX11_speak_2 rfl ⟨by decide, by decide⟩ ?_
  refine a_callSi (as := [vI p1, vI (-1), vI 3]) (st := []) dX11_speak_3 lk_M_139 rfl rfl (Nat.le_of_ble_eq_true rfl) (Or.inr rfl) (Call.mono hy (fun r2 h1 _ hy => ?_))
  refine a_if_ne (tgt := 11) dX11_speak_6 (by decide) (fun c => ?_) (fun c => ?_)
  · have hy := hy.1 c
    refine a_aload_n dX11_speak_11 rfl ?_
    refine a_iload_n dX11_speak_12 rfl ?_
    refine a_putI (kz := 2) dX11_speak_13 fp_M_126 sk_12 rfl rfl ?_
    refine a_iconst (x := 1) dX11_speak_16 rfl ⟨by decide, by decide⟩ ?_
    exact a_zret dX11_speak_17 rfl (Or.inr rfl) hy
  · have hy := hy.2 (Decidable.not_not.mp c)
    refine a_iconst (x := 0) dX11_speak_9 rfl ⟨by decide, by decide⟩ ?_
    exact a_zret dX11_speak_10 rfl (Or.inl rfl) hy
theorem c_M_square {d : Nat} (d0 : Nat) (hd : d0 < d) {p1 : Int} {p2 : Int} {h : AH} {Q : Int → AH → Prop} (hy : Call d0 M_M_in [vI p1, vI 2, vI 4] h (fun r2 h1 => ((r2 = 0 → Q (-1) h1) ∧ (r2 ≠ 0 → (inI (p1 - 1) ∧ (Call d0 M_M_in [vI p2, vI (-1), vI (p1 - 1)] h1 (fun r5 h4 => ((r5 ≠ 0 → (Call d0 M_M_laysSquares [vR 12 (-1), vI p1] h4 (fun _ h6 => ((p2 ≠ (-1) → (((h6.1 12 53) ≠ 0 → (inb p2 4 ∧ Q (h6.1 93 p2) h6)) ∧ ((h6.1 12 53) = 0 → Q (-2) h6))) ∧ (p2 = (-1) → Q (h6.1 12 53) h6))))) ∧ (r5 = 0 → Q (-1) h4))))))))) : Call d M_M_square [vR 12 (-1), vI p1, vI p2] h Q := by
  refine ⟨d0, hd, Big.of rfl (Nat.le_of_ble_eq_true rfl) ?_⟩
  show AW d0 M_M_square Q 0 [some (vR 12 (-1)), some (vI p1), some (vI p2)] [] h
  refine a_iload_n dX11_square_0 rfl ?_
  refine a_iconst (x := 2) dX11_square_1 rfl ⟨by decide, by decide⟩ ?_
  refine a_iconst (x := 4) dX11_square_2 rfl ⟨by decide, by decide⟩ ?_
  refine a_callSi (as := [vI p1, vI 2, vI 4]) (st := []) dX11_square_3 lk_M_139 rfl rfl (Nat.le_of_ble_eq_true rfl) (Or.inr rfl) (Call.mono hy (fun r2 h1 _ hy => ?_))
  refine a_if_eq (tgt := 20) dX11_square_6 (by decide) (fun c => ?_) (fun c => ?_)
  · have hy := hy.1 c
    refine a_iconst (x := (-1)) dX11_square_20 rfl ⟨by decide, by decide⟩ ?_
    exact a_iret dX11_square_21 rfl hy
  · have hy := hy.2 (c)
    refine a_iload_n dX11_square_9 rfl ?_
    refine a_iconst (x := (-1)) dX11_square_10 rfl ⟨by decide, by decide⟩ ?_
    refine a_iload_n dX11_square_11 rfl ?_
    refine a_iconst (x := 1) dX11_square_12 rfl ⟨by decide, by decide⟩ ?_
    obtain ⟨c3, hy⟩ := hy
    refine a_isub dX11_square_13 c3 ?_
    refine a_callSi (as := [vI p2, vI (-1), vI (p1 - 1)]) (st := []) dX11_square_14 lk_M_139 rfl rfl (Nat.le_of_ble_eq_true rfl) (Or.inr rfl) (Call.mono hy (fun r5 h4 _ hy => ?_))
    refine a_if_ne (tgt := 22) dX11_square_17 (by decide) (fun c => ?_) (fun c => ?_)
    · have hy := hy.1 c
      refine a_aload_n dX11_square_22 rfl ?_
      refine a_iload_n dX11_square_23 rfl ?_
      refine a_callVv (as := [vI p1]) (st := []) dX11_square_24 lk_M_416 sk_12 rfl rfl (Nat.le_of_ble_eq_true rfl) rfl (Call.mono hy (fun _ h6 _ hy => ?_))
      refine a_iload_n dX11_square_27 rfl ?_
      refine a_iconst (x := (-1)) dX11_square_28 rfl ⟨by decide, by decide⟩ ?_
      refine a_icmp_ne (tgt := 39) dX11_square_29 (by decide) (fun c => ?_) (fun c => ?_)
      · have hy := hy.1 c
        refine a_aload_n dX11_square_39 rfl ?_
        refine a_getI' (kz := 53) dX11_square_40 fl_M_410 sk_12 rfl rfl (rfl) ?_
        refine a_if_ne (tgt := 51) dX11_square_43 (by decide) (fun c => ?_) (fun c => ?_)
        · have hy := hy.1 c
          refine a_aload_n dX11_square_51 rfl ?_
          refine a_getR dX11_square_52 fl_M_119 sk_12 rfl ?_
          refine a_iload_n dX11_square_55 rfl ?_
          obtain ⟨c7, hy⟩ := hy
          refine a_iald' dX11_square_56 sk_93 c7 (rfl) ?_
          exact a_iret dX11_square_57 rfl hy
        · have hy := hy.2 (Decidable.not_not.mp c)
          refine a_bipush (x := (-2)) dX11_square_46 (by decide) ⟨by decide, by decide⟩ ?_
          refine a_goto (tgt := 57) dX11_square_48 (by decide) ?_
          exact a_iret dX11_square_57 rfl hy
      · have hy := hy.2 (Decidable.not_not.mp c)
        refine a_aload_n dX11_square_32 rfl ?_
        refine a_getI' (kz := 53) dX11_square_33 fl_M_410 sk_12 rfl rfl (rfl) ?_
        refine a_goto (tgt := 57) dX11_square_36 (by decide) ?_
        exact a_iret dX11_square_57 rfl hy
    · have hy := hy.2 (Decidable.not_not.mp c)
      refine a_iconst (x := (-1)) dX11_square_20 rfl ⟨by decide, by decide⟩ ?_
      exact a_iret dX11_square_21 rfl hy
theorem c_M_step {d : Nat} (d0 : Nat) (hd : d0 < d) {p1 : Int} {p2 : Int} {p3 : Int} {h : AH} {Q : Int → AH → Prop} (hy : Call d0 M_M_isWord [vR 12 (-1), vI p1] h (fun r2 h1 => ((r2 = 0 → Q (-1) h1) ∧ (r2 ≠ 0 → (Call d0 M_M_isWord [vR 12 (-1), vI p2] h1 (fun r4 h3 => ((r4 = 0 → Q (-1) h3) ∧ (r4 ≠ 0 → (Call d0 M_M_in [vI p3, vI 0, vI 2] h3 (fun r6 h5 => ((r6 ≠ 0 → (Call d0 M_M_laysSteps [vR 12 (-1)] h5 (fun _ h7 => Call d0 M_M_isStep [vR 12 (-1), vI p1, vI p2] h7 (fun r9 h8 => ((r9 ≠ 0 → ((p3 ≠ 0 → ((p3 ≠ 1 → (inI (40 * p1) ∧ (inI ((40 * p1) + p2) ∧ (inb ((40 * p1) + p2) 1600 ∧ Q (h8.1 80 ((40 * p1) + p2)) h8)))) ∧ (p3 = 1 → (inI (40 * p1) ∧ (inI ((40 * p1) + p2) ∧ (inb ((40 * p1) + p2) 1600 ∧ Q (h8.1 79 ((40 * p1) + p2)) h8)))))) ∧ (p3 = 0 → (inI (40 * p1) ∧ (inI ((40 * p1) + p2) ∧ (inb ((40 * p1) + p2) 1600 ∧ Q (h8.1 78 ((40 * p1) + p2)) h8)))))) ∧ (r9 = 0 → Q (-2) h8)))))) ∧ (r6 = 0 → Q (-1) h5)))))))))))) : Call d M_M_step [vR 12 (-1), vI p1, vI p2, vI p3] h Q := by
  refine ⟨d0, hd, Big.of rfl (Nat.le_of_ble_eq_true rfl) ?_⟩
  show AW d0 M_M_step Q 0 [some (vR 12 (-1)), some (vI p1), some (vI p2), some (vI p3)] [] h
  refine a_aload_n dX11_step_0 rfl ?_
  refine a_iload_n dX11_step_1 rfl ?_
  refine a_callVi (as := [vI p1]) (st := []) dX11_step_2 lk_M_154 sk_12 rfl rfl (Nat.le_of_ble_eq_true rfl) (Or.inr rfl) (Call.mono hy (fun r2 h1 _ hy => ?_))
  refine a_if_eq (tgt := 25) dX11_step_5 (by decide) (fun c => ?_) (fun c => ?_)
  · have hy := hy.1 c
    refine a_iconst (x := (-1)) dX11_step_25 rfl ⟨by decide, by decide⟩ ?_
    exact a_iret dX11_step_26 rfl hy
  · have hy := hy.2 (c)
    refine a_aload_n dX11_step_8 rfl ?_
    refine a_iload_n dX11_step_9 rfl ?_
    refine a_callVi (as := [vI p2]) (st := []) dX11_step_10 lk_M_154 sk_12 rfl rfl (Nat.le_of_ble_eq_true rfl) (Or.inr rfl) (Call.mono hy (fun r4 h3 _ hy => ?_))
    refine a_if_eq (tgt := 25) dX11_step_13 (by decide) (fun c => ?_) (fun c => ?_)
    · have hy := hy.1 c
      refine a_iconst (x := (-1)) dX11_step_25 rfl ⟨by decide, by decide⟩ ?_
      exact a_iret dX11_step_26 rfl hy
    · have hy := hy.2 (c)
      refine a_iload_n dX11_step_16 rfl ?_
      refine a_iconst (x := 0) dX11_step_17 rfl ⟨by decide, by decide⟩ ?_
      refine a_iconst (x := 2) dX11_step_18 rfl ⟨by decide, by decide⟩ ?_
      refine a_callSi (as := [vI p3, vI 0, vI 2]) (st := []) dX11_step_19 lk_M_139 rfl rfl (Nat.le_of_ble_eq_true rfl) (Or.inr rfl) (Call.mono hy (fun r6 h5 _ hy => ?_))
      refine a_if_ne (tgt := 27) dX11_step_22 (by decide) (fun c => ?_) (fun c => ?_)
      · have hy := hy.1 c
        refine a_aload_n dX11_step_27 rfl ?_
        refine a_callVv (as := []) (st := []) dX11_step_28 lk_M_291 sk_12 rfl rfl (Nat.le_of_ble_eq_true rfl) rfl (Call.mono hy (fun _ h7 _ hy => ?_))
        refine a_aload_n dX11_step_31 rfl ?_
        refine a_iload_n dX11_step_32 rfl ?_
        refine a_iload_n dX11_step_33 rfl ?_
        refine a_callVi (as := [vI p1, vI p2]) (st := []) dX11_step_34 lk_M_294 sk_12 rfl rfl (Nat.le_of_ble_eq_true rfl) (Or.inr rfl) (Call.mono hy (fun r9 h8 _ hy => ?_))
        refine a_if_ne (tgt := 43) dX11_step_37 (by decide) (fun c => ?_) (fun c => ?_)
        · have hy := hy.1 c
          refine a_iload_n dX11_step_43 rfl ?_
          refine a_if_ne (tgt := 61) dX11_step_44 (by decide) (fun c => ?_) (fun c => ?_)
          · have hy := hy.1 c
            refine a_iload_n dX11_step_61 rfl ?_
            refine a_iconst (x := 1) dX11_step_62 rfl ⟨by decide, by decide⟩ ?_
            refine a_icmp_ne (tgt := 80) dX11_step_63 (by decide) (fun c => ?_) (fun c => ?_)
            · have hy := hy.1 c
              refine a_aload_n dX11_step_80 rfl ?_
              refine a_getR dX11_step_81 fl_M_78 sk_12 rfl ?_
              refine a_bipush (x := 40) dX11_step_84 (by decide) ⟨by decide, by decide⟩ ?_
              refine a_iload_n dX11_step_86 rfl ?_
              obtain ⟨c10, hy⟩ := hy
              refine a_imul dX11_step_87 c10 ?_
              refine a_iload_n dX11_step_88 rfl ?_
              obtain ⟨c11, hy⟩ := hy
              refine a_iadd dX11_step_89 c11 ?_
              obtain ⟨c12, hy⟩ := hy
              refine a_iald' dX11_step_90 sk_80 c12 (rfl) ?_
              exact a_iret dX11_step_91 rfl hy
            · have hy := hy.2 (Decidable.not_not.mp c)
              refine a_aload_n dX11_step_66 rfl ?_
              refine a_getR dX11_step_67 fl_M_75 sk_12 rfl ?_
              refine a_bipush (x := 40) dX11_step_70 (by decide) ⟨by decide, by decide⟩ ?_
              refine a_iload_n dX11_step_72 rfl ?_
              obtain ⟨c13, hy⟩ := hy
              refine a_imul dX11_step_73 c13 ?_
              refine a_iload_n dX11_step_74 rfl ?_
              obtain ⟨c14, hy⟩ := hy
              refine a_iadd dX11_step_75 c14 ?_
              obtain ⟨c15, hy⟩ := hy
              refine a_iald' dX11_step_76 sk_79 c15 (rfl) ?_
              refine a_goto (tgt := 91) dX11_step_77 (by decide) ?_
              exact a_iret dX11_step_91 rfl hy
          · have hy := hy.2 (Decidable.not_not.mp c)
            refine a_aload_n dX11_step_47 rfl ?_
            refine a_getR dX11_step_48 fl_M_72 sk_12 rfl ?_
            refine a_bipush (x := 40) dX11_step_51 (by decide) ⟨by decide, by decide⟩ ?_
            refine a_iload_n dX11_step_53 rfl ?_
            obtain ⟨c16, hy⟩ := hy
            refine a_imul dX11_step_54 c16 ?_
            refine a_iload_n dX11_step_55 rfl ?_
            obtain ⟨c17, hy⟩ := hy
            refine a_iadd dX11_step_56 c17 ?_
            obtain ⟨c18, hy⟩ := hy
            refine a_iald' dX11_step_57 sk_78 c18 (rfl) ?_
            refine a_goto (tgt := 91) dX11_step_58 (by decide) ?_
            exact a_iret dX11_step_91 rfl hy
        · have hy := hy.2 (Decidable.not_not.mp c)
          refine a_bipush (x := (-2)) dX11_step_40 (by decide) ⟨by decide, by decide⟩ ?_
          exact a_iret dX11_step_42 rfl hy
      · have hy := hy.2 (Decidable.not_not.mp c)
        refine a_iconst (x := (-1)) dX11_step_25 rfl ⟨by decide, by decide⟩ ?_
        exact a_iret dX11_step_26 rfl hy
def A_M_stepTo_5 (d : Nat) (Q : Int → AH → Prop) (p1 : Int) (v3 : Int) (v4 : Int) (h : AH) : Prop := AW d M_M_stepTo Q 5 [some (vR 12 (-1)), some (vI p1), none, some (vI v3), some (vI v4)] [] h
def A_M_stepTo_19 (d : Nat) (Q : Int → AH → Prop) (p1 : Int) (v3 : Int) (v4 : Int) (h : AH) : Prop := AW d M_M_stepTo Q 19 [some (vR 12 (-1)), some (vI p1), none, some (vI v3), some (vI v4)] [] h
theorem s_M_stepTo_5 {d : Nat} {Q : Int → AH → Prop} {p1 : Int} {v3 : Int} {v4 : Int} {h : AH} (hy : Call d M_M_isStep [vR 12 (-1), vI p1, vI v4] h (fun r2 h1 => ((r2 = 0 → A_M_stepTo_19 d Q p1 v3 v4 h1) ∧ (r2 ≠ 0 → ((v3 ≤ 0 → Q v4 h1) ∧ (0 < v3 → A_M_stepTo_19 d Q p1 v3 v4 h1)))))) : A_M_stepTo_5 d Q p1 v3 v4 h := by
  show AW d M_M_stepTo Q 5 [some (vR 12 (-1)), some (vI p1), none, some (vI v3), some (vI v4)] [] h
  refine a_aload_n dX11_stepTo_5 rfl ?_
  refine a_iload_n dX11_stepTo_6 rfl ?_
  refine a_iload dX11_stepTo_7 rfl ?_
  refine a_callVi (as := [vI p1, vI v4]) (st := []) dX11_stepTo_9 lk_M_294 sk_12 rfl rfl (Nat.le_of_ble_eq_true rfl) (Or.inr rfl) (Call.mono hy (fun r2 h1 _ hy => ?_))
  refine a_if_eq (tgt := 19) dX11_stepTo_12 (by decide) (fun c => ?_) (fun c => ?_)
  · have hy := hy.1 c
    exact hy
  · have hy := hy.2 (c)
    refine a_iload_n dX11_stepTo_15 rfl ?_
    refine a_if_le (tgt := 46) dX11_stepTo_16 (by decide) (fun c => ?_) (fun c => ?_)
    · have hy := hy.1 c
      refine a_iload dX11_stepTo_46 rfl ?_
      exact a_iret dX11_stepTo_48 rfl hy
    · have hy := hy.2 (Int.not_le.mp c)
      exact hy
theorem s_M_stepTo_19 {d : Nat} {Q : Int → AH → Prop} {p1 : Int} {v3 : Int} {v4 : Int} {h : AH} (hy : Call d M_M_isStep [vR 12 (-1), vI p1, vI v4] h (fun r2 h1 => ((r2 = 0 → (inI (v4 + 1) ∧ A_M_stepTo_5 d Q p1 v3 (v4 + 1) h1)) ∧ (r2 ≠ 0 → (inI (v3 - 1) ∧ (inI (v4 + 1) ∧ A_M_stepTo_5 d Q p1 (v3 - 1) (v4 + 1) h1)))))) : A_M_stepTo_19 d Q p1 v3 v4 h := by
  show AW d M_M_stepTo Q 19 [some (vR 12 (-1)), some (vI p1), none, some (vI v3), some (vI v4)] [] h
  refine a_aload_n dX11_stepTo_19 rfl ?_
  refine a_iload_n dX11_stepTo_20 rfl ?_
  refine a_iload dX11_stepTo_21 rfl ?_
  refine a_callVi (as := [vI p1, vI v4]) (st := []) dX11_stepTo_23 lk_M_294 sk_12 rfl rfl (Nat.le_of_ble_eq_true rfl) (Or.inr rfl) (Call.mono hy (fun r2 h1 _ hy => ?_))
  refine a_if_eq (tgt := 35) dX11_stepTo_26 (by decide) (fun c => ?_) (fun c => ?_)
  · have hy := hy.1 c
    refine a_iload_n dX11_stepTo_35 rfl ?_
    refine a_istore_n (i := 3) (ls2 := [some (vR 12 (-1)), some (vI p1), none, some (vI v3), some (vI v4)]) dX11_stepTo_36 rfl (Nat.le_of_ble_eq_true rfl) rfl ?_
    refine a_iload dX11_stepTo_37 rfl ?_
    refine a_iconst (x := 1) dX11_stepTo_39 rfl ⟨by decide, by decide⟩ ?_
    obtain ⟨c3, hy⟩ := hy
    refine a_iadd dX11_stepTo_40 c3 ?_
    refine a_istore (ls2 := [some (vR 12 (-1)), some (vI p1), none, some (vI v3), some (vI (v4 + 1))]) dX11_stepTo_41 (Nat.le_of_ble_eq_true rfl) rfl ?_
    refine a_goto (tgt := 5) dX11_stepTo_43 (by decide) ?_
    exact hy
  · have hy := hy.2 (c)
    refine a_iload_n dX11_stepTo_29 rfl ?_
    refine a_iconst (x := 1) dX11_stepTo_30 rfl ⟨by decide, by decide⟩ ?_
    obtain ⟨c4, hy⟩ := hy
    refine a_isub dX11_stepTo_31 c4 ?_
    refine a_goto (tgt := 36) dX11_stepTo_32 (by decide) ?_
    refine a_istore_n (i := 3) (ls2 := [some (vR 12 (-1)), some (vI p1), none, some (vI (v3 - 1)), some (vI v4)]) dX11_stepTo_36 rfl (Nat.le_of_ble_eq_true rfl) rfl ?_
    refine a_iload dX11_stepTo_37 rfl ?_
    refine a_iconst (x := 1) dX11_stepTo_39 rfl ⟨by decide, by decide⟩ ?_
    obtain ⟨c5, hy⟩ := hy
    refine a_iadd dX11_stepTo_40 c5 ?_
    refine a_istore (ls2 := [some (vR 12 (-1)), some (vI p1), none, some (vI (v3 - 1)), some (vI (v4 + 1))]) dX11_stepTo_41 (Nat.le_of_ble_eq_true rfl) rfl ?_
    refine a_goto (tgt := 5) dX11_stepTo_43 (by decide) ?_
    exact hy
theorem c_M_stepTo {d : Nat} (d0 : Nat) (hd : d0 < d) {p1 : Int} {p2 : Int} {h : AH} {Q : Int → AH → Prop} (hy : A_M_stepTo_5 d0 Q p1 p2 0 h) : Call d M_M_stepTo [vR 12 (-1), vI p1, vI p2] h Q := by
  refine ⟨d0, hd, Big.of rfl (Nat.le_of_ble_eq_true rfl) ?_⟩
  show AW d0 M_M_stepTo Q 0 [some (vR 12 (-1)), some (vI p1), some (vI p2), none, none] [] h
  refine a_iload_n dX11_stepTo_0 rfl ?_
  refine a_istore_n (i := 3) (ls2 := [some (vR 12 (-1)), some (vI p1), some (vI p2), some (vI p2), none]) dX11_stepTo_1 rfl (Nat.le_of_ble_eq_true rfl) rfl ?_
  refine a_iconst (x := 0) dX11_stepTo_2 rfl ⟨by decide, by decide⟩ ?_
  refine a_istore (ls2 := [some (vR 12 (-1)), some (vI p1), some (vI p2), some (vI p2), some (vI 0)]) dX11_stepTo_3 (Nat.le_of_ble_eq_true rfl) rfl ?_
  refine a_mask [true, true, false, true, true] (ls2 := [some (vR 12 (-1)), some (vI p1), none, some (vI p2), some (vI 0)]) rfl rfl ?_
  exact hy
theorem c_M_stepTold {d : Nat} (d0 : Nat) (hd : d0 < d) {p1 : Int} {p2 : Int} {h : AH} {Q : Int → AH → Prop} (hy : inb p1 14 ∧ (inI (40 * (h.1 88 p1)) ∧ (inb p2 14 ∧ (inI ((40 * (h.1 88 p1)) + (h.1 88 p2)) ∧ (inb ((40 * (h.1 88 p1)) + (h.1 88 p2)) 1600 ∧ Q (h.1 78 ((40 * (h.1 88 p1)) + (h.1 88 p2))) h))))) : Call d M_M_stepTold [vR 12 (-1), vI p1, vI p2] h Q := by
  refine ⟨d0, hd, Big.of rfl (Nat.le_of_ble_eq_true rfl) ?_⟩
  show AW d0 M_M_stepTold Q 0 [some (vR 12 (-1)), some (vI p1), some (vI p2)] [] h
  refine a_aload_n dX11_stepTold_0 rfl ?_
  refine a_getR dX11_stepTold_1 fl_M_72 sk_12 rfl ?_
  refine a_bipush (x := 40) dX11_stepTold_4 (by decide) ⟨by decide, by decide⟩ ?_
  refine a_aload_n dX11_stepTold_6 rfl ?_
  refine a_getR dX11_stepTold_7 fl_M_103 sk_12 rfl ?_
  refine a_iload_n dX11_stepTold_10 rfl ?_
  obtain ⟨c1, hy⟩ := hy
  refine a_iald' dX11_stepTold_11 sk_88 c1 (rfl) ?_
  obtain ⟨c2, hy⟩ := hy
  refine a_imul dX11_stepTold_12 c2 ?_
  refine a_aload_n dX11_stepTold_13 rfl ?_
  refine a_getR dX11_stepTold_14 fl_M_103 sk_12 rfl ?_
  refine a_iload_n dX11_stepTold_17 rfl ?_
  obtain ⟨c3, hy⟩ := hy
  refine a_iald' dX11_stepTold_18 sk_88 c3 (rfl) ?_
  obtain ⟨c4, hy⟩ := hy
  refine a_iadd dX11_stepTold_19 c4 ?_
  obtain ⟨c5, hy⟩ := hy
  refine a_iald' dX11_stepTold_20 sk_78 c5 (rfl) ?_
  exact a_iret dX11_stepTold_21 rfl hy
theorem c_M_stepWay {d : Nat} (d0 : Nat) (hd : d0 < d) {p1 : Int} {p2 : Int} {h : AH} {Q : Int → AH → Prop} (hy : Call d0 M_M_isStep [vR 12 (-1), vI p1, vI p2] h (fun r2 h1 => ((r2 = 0 → Q 1000000000 h1) ∧ (r2 ≠ 0 → (inI (40 * p1) ∧ (inI ((40 * p1) + p2) ∧ (inb ((40 * p1) + p2) 1600 ∧ (inI (64 * (h1.1 78 ((40 * p1) + p2))) ∧ (inI ((64 * (h1.1 78 ((40 * p1) + p2))) + 1) ∧ Q ((64 * (h1.1 78 ((40 * p1) + p2))) + 1) h1))))))))) : Call d M_M_stepWay [vR 12 (-1), vI p1, vI p2] h Q := by
  refine ⟨d0, hd, Big.of rfl (Nat.le_of_ble_eq_true rfl) ?_⟩
  show AW d0 M_M_stepWay Q 0 [some (vR 12 (-1)), some (vI p1), some (vI p2)] [] h
  refine a_aload_n dX11_stepWay_0 rfl ?_
  refine a_iload_n dX11_stepWay_1 rfl ?_
  refine a_iload_n dX11_stepWay_2 rfl ?_
  refine a_callVi (as := [vI p1, vI p2]) (st := []) dX11_stepWay_3 lk_M_294 sk_12 rfl rfl (Nat.le_of_ble_eq_true rfl) (Or.inr rfl) (Call.mono hy (fun r2 h1 _ hy => ?_))
  refine a_if_eq (tgt := 28) dX11_stepWay_6 (by decide) (fun c => ?_) (fun c => ?_)
  · have hy := hy.1 c
    refine a_ldc (x := 1000000000) dX11_stepWay_28 kc_M_129 ⟨by decide, by decide⟩ ?_
    exact a_iret dX11_stepWay_30 rfl hy
  · have hy := hy.2 (c)
    refine a_bipush (x := 64) dX11_stepWay_9 (by decide) ⟨by decide, by decide⟩ ?_
    refine a_aload_n dX11_stepWay_11 rfl ?_
    refine a_getR dX11_stepWay_12 fl_M_72 sk_12 rfl ?_
    refine a_bipush (x := 40) dX11_stepWay_15 (by decide) ⟨by decide, by decide⟩ ?_
    refine a_iload_n dX11_stepWay_17 rfl ?_
    obtain ⟨c3, hy⟩ := hy
    refine a_imul dX11_stepWay_18 c3 ?_
    refine a_iload_n dX11_stepWay_19 rfl ?_
    obtain ⟨c4, hy⟩ := hy
    refine a_iadd dX11_stepWay_20 c4 ?_
    obtain ⟨c5, hy⟩ := hy
    refine a_iald' dX11_stepWay_21 sk_78 c5 (rfl) ?_
    obtain ⟨c6, hy⟩ := hy
    refine a_imul dX11_stepWay_22 c6 ?_
    refine a_iconst (x := 1) dX11_stepWay_23 rfl ⟨by decide, by decide⟩ ?_
    obtain ⟨c7, hy⟩ := hy
    refine a_iadd dX11_stepWay_24 c7 ?_
    refine a_goto (tgt := 30) dX11_stepWay_25 (by decide) ?_
    exact a_iret dX11_stepWay_30 rfl hy
def A_M_stepsFrom_4 (d : Nat) (Q : Int → AH → Prop) (p1 : Int) (v2 : Int) (v3 : Int) (h : AH) : Prop := AW d M_M_stepsFrom Q 4 [some (vR 12 (-1)), some (vI p1), some (vI v2), some (vI v3)] [] h
theorem s_M_stepsFrom_4 {d : Nat} {Q : Int → AH → Prop} {p1 : Int} {v2 : Int} {v3 : Int} {h : AH} (hy : (((h.1 12 0) ≤ v3 → Q v2 h) ∧ (v3 < (h.1 12 0) → (Call d M_M_isStep [vR 12 (-1), vI p1, vI v3] h (fun r2 h1 => inI (v2 + (if r2 = 0 then (0 : Int) else 1)) ∧ (inI (v3 + 1) ∧ A_M_stepsFrom_4 d Q p1 (v2 + (if r2 = 0 then (0 : Int) else 1)) (v3 + 1) h1)))))) : A_M_stepsFrom_4 d Q p1 v2 v3 h := by
  show AW d M_M_stepsFrom Q 4 [some (vR 12 (-1)), some (vI p1), some (vI v2), some (vI v3)] [] h
  refine a_iload_n dX11_stepsFrom_4 rfl ?_
  refine a_aload_n dX11_stepsFrom_5 rfl ?_
  refine a_getI' (kz := 0) dX11_stepsFrom_6 fl_M_130 sk_12 rfl rfl (rfl) ?_
  refine a_icmp_ge (tgt := 35) dX11_stepsFrom_9 (by decide) (fun c => ?_) (fun c => ?_)
  · have hy := hy.1 c
    refine a_iload_n dX11_stepsFrom_35 rfl ?_
    exact a_iret dX11_stepsFrom_36 rfl hy
  · have hy := hy.2 (Int.not_le.mp c)
    refine a_iload_n dX11_stepsFrom_12 rfl ?_
    refine a_aload_n dX11_stepsFrom_13 rfl ?_
    refine a_iload_n dX11_stepsFrom_14 rfl ?_
    refine a_iload_n dX11_stepsFrom_15 rfl ?_
    refine a_callVi (as := [vI p1, vI v3]) (st := [vI v2]) dX11_stepsFrom_16 lk_M_294 sk_12 rfl rfl (Nat.le_of_ble_eq_true rfl) (Or.inr rfl) (Call.mono hy (fun r2 h1 _ hy => ?_))
    have J : AW d M_M_stepsFrom Q 27 [some (vR 12 (-1)), some (vI p1), some (vI v2), some (vI v3)] [vI (if r2 = 0 then (0 : Int) else 1), vI v2] h1 := by
      obtain ⟨c3, hy⟩ := hy
      refine a_iadd dX11_stepsFrom_27 c3 ?_
      refine a_istore_n (i := 2) (ls2 := [some (vR 12 (-1)), some (vI p1), some (vI (v2 + (if r2 = 0 then (0 : Int) else 1))), some (vI v3)]) dX11_stepsFrom_28 rfl (Nat.le_of_ble_eq_true rfl) rfl ?_
      obtain ⟨c4, hy⟩ := hy
      refine a_iinc (y := v3 + 1) (ls2 := [some (vR 12 (-1)), some (vI p1), some (vI (v2 + (if r2 = 0 then (0 : Int) else 1))), some (vI (v3 + 1))]) dX11_stepsFrom_29 rfl rfl c4 rfl ?_
      refine a_goto (tgt := 4) dX11_stepsFrom_32 (by decide) ?_
      exact hy
    refine a_if_eq (tgt := 26) dX11_stepsFrom_19 (by decide) (fun e5 => ?_) (fun e5 => ?_)
    · refine a_iconst (x := 0) dX11_stepsFrom_26 rfl ⟨by decide, by decide⟩ ?_
      exact a_cast (by first | rfl | simp only [if_pos e5]) (by first | rfl | simp only [if_pos e5]) J
    · refine a_iconst (x := 1) dX11_stepsFrom_22 rfl ⟨by decide, by decide⟩ ?_
      refine a_goto (tgt := 27) dX11_stepsFrom_23 (by decide) ?_
      exact a_cast (by first | rfl | simp only [if_neg e5]) (by first | rfl | simp only [if_neg e5]) J
theorem c_M_stepsFrom {d : Nat} (d0 : Nat) (hd : d0 < d) {p1 : Int} {h : AH} {Q : Int → AH → Prop} (hy : A_M_stepsFrom_4 d0 Q p1 0 0 h) : Call d M_M_stepsFrom [vR 12 (-1), vI p1] h Q := by
  refine ⟨d0, hd, Big.of rfl (Nat.le_of_ble_eq_true rfl) ?_⟩
  show AW d0 M_M_stepsFrom Q 0 [some (vR 12 (-1)), some (vI p1), none, none] [] h
  refine a_iconst (x := 0) dX11_stepsFrom_0 rfl ⟨by decide, by decide⟩ ?_
  refine a_istore_n (i := 2) (ls2 := [some (vR 12 (-1)), some (vI p1), some (vI 0), none]) dX11_stepsFrom_1 rfl (Nat.le_of_ble_eq_true rfl) rfl ?_
  refine a_iconst (x := 0) dX11_stepsFrom_2 rfl ⟨by decide, by decide⟩ ?_
  refine a_istore_n (i := 3) (ls2 := [some (vR 12 (-1)), some (vI p1), some (vI 0), some (vI 0)]) dX11_stepsFrom_3 rfl (Nat.le_of_ble_eq_true rfl) rfl ?_
  exact hy
theorem c_M_sum {d : Nat} (d0 : Nat) (hd : d0 < d) {p0 : Int} {p1 : Int} {h : AH} {Q : Int → AH → Prop} (hy : ((1000000000 ≤ p0 → Q 1000000000 h) ∧ (p0 < 1000000000 → ((p1 < 1000000000 → (inI (p0 + p1) ∧ Q (p0 + p1) h)) ∧ (1000000000 ≤ p1 → Q 1000000000 h))))) : Call d M_M_sum [vI p0, vI p1] h Q := by
  refine ⟨d0, hd, Big.of rfl (Nat.le_of_ble_eq_true rfl) ?_⟩
  show AW d0 M_M_sum Q 0 [some (vI p0), some (vI p1)] [] h
  refine a_iload_n dX11_sum_0 rfl ?_
  refine a_ldc (x := 1000000000) dX11_sum_1 kc_M_129 ⟨by decide, by decide⟩ ?_
  refine a_icmp_ge (tgt := 12) dX11_sum_3 (by decide) (fun c => ?_) (fun c => ?_)
  · have hy := hy.1 c
    refine a_ldc (x := 1000000000) dX11_sum_12 kc_M_129 ⟨by decide, by decide⟩ ?_
    refine a_goto (tgt := 20) dX11_sum_14 (by decide) ?_
    exact a_iret dX11_sum_20 rfl hy
  · have hy := hy.2 (Int.not_le.mp c)
    refine a_iload_n dX11_sum_6 rfl ?_
    refine a_ldc (x := 1000000000) dX11_sum_7 kc_M_129 ⟨by decide, by decide⟩ ?_
    refine a_icmp_lt (tgt := 17) dX11_sum_9 (by decide) (fun c => ?_) (fun c => ?_)
    · have hy := hy.1 c
      refine a_iload_n dX11_sum_17 rfl ?_
      refine a_iload_n dX11_sum_18 rfl ?_
      obtain ⟨c1, hy⟩ := hy
      refine a_iadd dX11_sum_19 c1 ?_
      exact a_iret dX11_sum_20 rfl hy
    · have hy := hy.2 (Int.not_lt.mp c)
      refine a_ldc (x := 1000000000) dX11_sum_12 kc_M_129 ⟨by decide, by decide⟩ ?_
      refine a_goto (tgt := 20) dX11_sum_14 (by decide) ?_
      exact a_iret dX11_sum_20 rfl hy
def A_M_sumOf_6 (d : Nat) (Q : Int → AH → Prop) (p1 : Int) (p2 : Int) (p3 : Int) (v4 : Int) (v6 : Int) (h : AH) : Prop := AW d M_M_sumOf Q 6 [some (vR 12 (-1)), some (vI p1), some (vI p2), some (vI p3), some (vL v4), none, some (vI v6)] [] h
theorem s_M_sumOf_6 {d : Nat} {Q : Int → AH → Prop} {p1 : Int} {p2 : Int} {p3 : Int} {v4 : Int} {v6 : Int} {h : AH} (hy : (((h.1 12 0) ≤ v6 → Q v4 h) ∧ (v6 < (h.1 12 0) → (Call d M_M_isStep [vR 12 (-1), vI p1, vI v6] h (fun r2 h1 => ((r2 = 0 → (inI (v6 + 1) ∧ A_M_sumOf_6 d Q p1 p2 p3 v4 (v6 + 1) h1)) ∧ (r2 ≠ 0 → (inI (40 * p1) ∧ (inI ((40 * p1) + v6) ∧ (inb ((40 * p1) + v6) 1600 ∧ (Call d M_M_leastOf [vR 12 (-1), vI v6, vI p2] h1 (fun r8 h7 => Call d M_M_sum [vI (h1.1 78 ((40 * p1) + v6)), vI r8] h7 (fun r10 h9 => ((r10 ≠ p3 → (inI (v6 + 1) ∧ A_M_sumOf_6 d Q p1 p2 p3 v4 (v6 + 1) h9)) ∧ (r10 = p3 → (inb v6 40 ∧ (inI (v6 + 1) ∧ A_M_sumOf_6 d Q p1 p2 p3 (w64 (v4 + (h9.2.1 82 v6))) (v6 + 1) h9))))))))))))))))) : A_M_sumOf_6 d Q p1 p2 p3 v4 v6 h := by
  show AW d M_M_sumOf Q 6 [some (vR 12 (-1)), some (vI p1), some (vI p2), some (vI p3), some (vL v4), none, some (vI v6)] [] h
  refine a_iload dX11_sumOf_6 rfl ?_
  refine a_aload_n dX11_sumOf_8 rfl ?_
  refine a_getI' (kz := 0) dX11_sumOf_9 fl_M_130 sk_12 rfl rfl (rfl) ?_
  refine a_icmp_ge (tgt := 69) dX11_sumOf_12 (by decide) (fun c => ?_) (fun c => ?_)
  · have hy := hy.1 c
    refine a_lload dX11_sumOf_69 rfl ?_
    exact a_lret dX11_sumOf_71 rfl hy
  · have hy := hy.2 (Int.not_le.mp c)
    refine a_aload_n dX11_sumOf_15 rfl ?_
    refine a_iload_n dX11_sumOf_16 rfl ?_
    refine a_iload dX11_sumOf_17 rfl ?_
    refine a_callVi (as := [vI p1, vI v6]) (st := []) dX11_sumOf_19 lk_M_294 sk_12 rfl rfl (Nat.le_of_ble_eq_true rfl) (Or.inr rfl) (Call.mono hy (fun r2 h1 _ hy => ?_))
    refine a_if_eq (tgt := 63) dX11_sumOf_22 (by decide) (fun c => ?_) (fun c => ?_)
    · have hy := hy.1 c
      obtain ⟨c3, hy⟩ := hy
      refine a_iinc (y := v6 + 1) (ls2 := [some (vR 12 (-1)), some (vI p1), some (vI p2), some (vI p3), some (vL v4), none, some (vI (v6 + 1))]) dX11_sumOf_63 rfl rfl c3 rfl ?_
      refine a_goto (tgt := 6) dX11_sumOf_66 (by decide) ?_
      exact hy
    · have hy := hy.2 (c)
      refine a_aload_n dX11_sumOf_25 rfl ?_
      refine a_getR dX11_sumOf_26 fl_M_72 sk_12 rfl ?_
      refine a_bipush (x := 40) dX11_sumOf_29 (by decide) ⟨by decide, by decide⟩ ?_
      refine a_iload_n dX11_sumOf_31 rfl ?_
      obtain ⟨c4, hy⟩ := hy
      refine a_imul dX11_sumOf_32 c4 ?_
      refine a_iload dX11_sumOf_33 rfl ?_
      obtain ⟨c5, hy⟩ := hy
      refine a_iadd dX11_sumOf_35 c5 ?_
      obtain ⟨c6, hy⟩ := hy
      refine a_iald' dX11_sumOf_36 sk_78 c6 (rfl) ?_
      refine a_aload_n dX11_sumOf_37 rfl ?_
      refine a_iload dX11_sumOf_38 rfl ?_
      refine a_iload_n dX11_sumOf_40 rfl ?_
      refine a_callVi (as := [vI v6, vI p2]) (st := [vI (h1.1 78 ((40 * p1) + v6))]) dX11_sumOf_41 lk_M_314 sk_12 rfl rfl (Nat.le_of_ble_eq_true rfl) (Or.inl rfl) (Call.mono hy (fun r8 h7 _ hy => ?_))
      refine a_callSi (as := [vI (h1.1 78 ((40 * p1) + v6)), vI r8]) (st := []) dX11_sumOf_44 lk_M_300 rfl rfl (Nat.le_of_ble_eq_true rfl) (Or.inl rfl) (Call.mono hy (fun r10 h9 _ hy => ?_))
      refine a_iload_n dX11_sumOf_47 rfl ?_
      refine a_icmp_ne (tgt := 63) dX11_sumOf_48 (by decide) (fun c => ?_) (fun c => ?_)
      · have hy := hy.1 c
        obtain ⟨c11, hy⟩ := hy
        refine a_iinc (y := v6 + 1) (ls2 := [some (vR 12 (-1)), some (vI p1), some (vI p2), some (vI p3), some (vL v4), none, some (vI (v6 + 1))]) dX11_sumOf_63 rfl rfl c11 rfl ?_
        refine a_goto (tgt := 6) dX11_sumOf_66 (by decide) ?_
        exact hy
      · have hy := hy.2 (Decidable.not_not.mp c)
        refine a_lload dX11_sumOf_51 rfl ?_
        refine a_aload_n dX11_sumOf_53 rfl ?_
        refine a_getR dX11_sumOf_54 fl_M_84 sk_12 rfl ?_
        refine a_iload dX11_sumOf_57 rfl ?_
        obtain ⟨c12, hy⟩ := hy
        refine a_lald' dX11_sumOf_59 sk_82 c12 (rfl) ?_
        refine a_laddW dX11_sumOf_60 ?_
        refine a_lstore (ls2 := [some (vR 12 (-1)), some (vI p1), some (vI p2), some (vI p3), some (vL (w64 (v4 + (h9.2.1 82 v6)))), none, some (vI v6)]) dX11_sumOf_61 (Nat.le_of_ble_eq_true rfl) rfl ?_
        obtain ⟨c13, hy⟩ := hy
        refine a_iinc (y := v6 + 1) (ls2 := [some (vR 12 (-1)), some (vI p1), some (vI p2), some (vI p3), some (vL (w64 (v4 + (h9.2.1 82 v6)))), none, some (vI (v6 + 1))]) dX11_sumOf_63 rfl rfl c13 rfl ?_
        refine a_goto (tgt := 6) dX11_sumOf_66 (by decide) ?_
        exact hy
theorem c_M_sumOf {d : Nat} (d0 : Nat) (hd : d0 < d) {p1 : Int} {p2 : Int} {p3 : Int} {h : AH} {Q : Int → AH → Prop} (hy : A_M_sumOf_6 d0 Q p1 p2 p3 0 0 h) : Call d M_M_sumOf [vR 12 (-1), vI p1, vI p2, vI p3] h Q := by
  refine ⟨d0, hd, Big.of rfl (Nat.le_of_ble_eq_true rfl) ?_⟩
  show AW d0 M_M_sumOf Q 0 [some (vR 12 (-1)), some (vI p1), some (vI p2), some (vI p3), none, none, none] [] h
  refine a_lconst (x := 0) dX11_sumOf_0 rfl ⟨by decide, by decide⟩ ?_
  refine a_lstore (ls2 := [some (vR 12 (-1)), some (vI p1), some (vI p2), some (vI p3), some (vL 0), none, none]) dX11_sumOf_1 (Nat.le_of_ble_eq_true rfl) rfl ?_
  refine a_iconst (x := 0) dX11_sumOf_3 rfl ⟨by decide, by decide⟩ ?_
  refine a_istore (ls2 := [some (vR 12 (-1)), some (vI p1), some (vI p2), some (vI p3), some (vL 0), none, some (vI 0)]) dX11_sumOf_4 (Nat.le_of_ble_eq_true rfl) rfl ?_
  exact hy
theorem c_M_sumSign {d : Nat} (d0 : Nat) (hd : d0 < d) {p0 : Int} {h : AH} {Q : Int → AH → Prop} (hy : ((p0 ≠ 43 → ((p0 ≠ 45 → ((p0 ≠ 42 → ((p0 ≠ 47 → ((p0 ≠ 37 → Q (-1) h) ∧ (p0 = 37 → Q 6 h))) ∧ (p0 = 47 → Q 5 h))) ∧ (p0 = 42 → Q 4 h))) ∧ (p0 = 45 → Q 3 h))) ∧ (p0 = 43 → Q 2 h))) : Call d M_M_sumSign [vI p0] h Q := by
  refine ⟨d0, hd, Big.of rfl (Nat.le_of_ble_eq_true rfl) ?_⟩
  show AW d0 M_M_sumSign Q 0 [some (vI p0)] [] h
  refine a_iload_n dX11_sumSign_0 rfl ?_
  refine a_bipush (x := 43) dX11_sumSign_1 (by decide) ⟨by decide, by decide⟩ ?_
  refine a_icmp_ne (tgt := 10) dX11_sumSign_3 (by decide) (fun c => ?_) (fun c => ?_)
  · have hy := hy.1 c
    refine a_iload_n dX11_sumSign_10 rfl ?_
    refine a_bipush (x := 45) dX11_sumSign_11 (by decide) ⟨by decide, by decide⟩ ?_
    refine a_icmp_ne (tgt := 20) dX11_sumSign_13 (by decide) (fun c => ?_) (fun c => ?_)
    · have hy := hy.1 c
      refine a_iload_n dX11_sumSign_20 rfl ?_
      refine a_bipush (x := 42) dX11_sumSign_21 (by decide) ⟨by decide, by decide⟩ ?_
      refine a_icmp_ne (tgt := 30) dX11_sumSign_23 (by decide) (fun c => ?_) (fun c => ?_)
      · have hy := hy.1 c
        refine a_iload_n dX11_sumSign_30 rfl ?_
        refine a_bipush (x := 47) dX11_sumSign_31 (by decide) ⟨by decide, by decide⟩ ?_
        refine a_icmp_ne (tgt := 40) dX11_sumSign_33 (by decide) (fun c => ?_) (fun c => ?_)
        · have hy := hy.1 c
          refine a_iload_n dX11_sumSign_40 rfl ?_
          refine a_bipush (x := 37) dX11_sumSign_41 (by decide) ⟨by decide, by decide⟩ ?_
          refine a_icmp_ne (tgt := 51) dX11_sumSign_43 (by decide) (fun c => ?_) (fun c => ?_)
          · have hy := hy.1 c
            refine a_iconst (x := (-1)) dX11_sumSign_51 rfl ⟨by decide, by decide⟩ ?_
            exact a_iret dX11_sumSign_52 rfl hy
          · have hy := hy.2 (Decidable.not_not.mp c)
            refine a_bipush (x := 6) dX11_sumSign_46 (by decide) ⟨by decide, by decide⟩ ?_
            refine a_goto (tgt := 52) dX11_sumSign_48 (by decide) ?_
            exact a_iret dX11_sumSign_52 rfl hy
        · have hy := hy.2 (Decidable.not_not.mp c)
          refine a_iconst (x := 5) dX11_sumSign_36 rfl ⟨by decide, by decide⟩ ?_
          refine a_goto (tgt := 52) dX11_sumSign_37 (by decide) ?_
          exact a_iret dX11_sumSign_52 rfl hy
      · have hy := hy.2 (Decidable.not_not.mp c)
        refine a_iconst (x := 4) dX11_sumSign_26 rfl ⟨by decide, by decide⟩ ?_
        refine a_goto (tgt := 52) dX11_sumSign_27 (by decide) ?_
        exact a_iret dX11_sumSign_52 rfl hy
    · have hy := hy.2 (Decidable.not_not.mp c)
      refine a_iconst (x := 3) dX11_sumSign_16 rfl ⟨by decide, by decide⟩ ?_
      refine a_goto (tgt := 52) dX11_sumSign_17 (by decide) ?_
      exact a_iret dX11_sumSign_52 rfl hy
  · have hy := hy.2 (Decidable.not_not.mp c)
    refine a_iconst (x := 2) dX11_sumSign_6 rfl ⟨by decide, by decide⟩ ?_
    refine a_goto (tgt := 52) dX11_sumSign_7 (by decide) ?_
    exact a_iret dX11_sumSign_52 rfl hy
theorem c_M_takes {d : Nat} (d0 : Nat) (hd : d0 < d) {p1 : Int} {h : AH} {Q : Int → AH → Prop} (hy : Call d0 M_M_here [vR 12 (-1)] h (fun r2 h1 => ((r2 = p1 → (inI ((h1.1 12 12) + 1) ∧ Q 1 (wI h1 12 12 ((h1.1 12 12) + 1)))) ∧ (r2 ≠ p1 → (Call d0 M_M_wrongAt [vR 12 (-1), vI 1, vI (h1.1 12 12)] h1 (fun r5 h4 => (r5 = 0 ∨ r5 = 1) ∧ Q r5 h4)))))) : Call d M_M_takes [vR 12 (-1), vI p1] h Q := by
  refine ⟨d0, hd, Big.of rfl (Nat.le_of_ble_eq_true rfl) ?_⟩
  show AW d0 M_M_takes Q 0 [some (vR 12 (-1)), some (vI p1)] [] h
  refine a_aload_n dX11_takes_0 rfl ?_
  refine a_callVi (as := []) (st := []) dX11_takes_1 lk_M_167 sk_12 rfl rfl (Nat.le_of_ble_eq_true rfl) (Or.inl rfl) (Call.mono hy (fun r2 h1 _ hy => ?_))
  refine a_iload_n dX11_takes_4 rfl ?_
  refine a_icmp_eq (tgt := 18) dX11_takes_5 (by decide) (fun c => ?_) (fun c => ?_)
  · have hy := hy.1 c
    refine a_aload_n dX11_takes_18 rfl ?_
    refine a_aload_n dX11_takes_19 rfl ?_
    refine a_getI' (kz := 12) dX11_takes_20 fl_M_161 sk_12 rfl rfl (rfl) ?_
    refine a_iconst (x := 1) dX11_takes_23 rfl ⟨by decide, by decide⟩ ?_
    obtain ⟨c3, hy⟩ := hy
    refine a_iadd dX11_takes_24 c3 ?_
    refine a_putI (kz := 12) dX11_takes_25 fp_M_161 sk_12 rfl rfl ?_
    refine a_iconst (x := 1) dX11_takes_28 rfl ⟨by decide, by decide⟩ ?_
    exact a_zret dX11_takes_29 rfl (Or.inr rfl) hy
  · have hy := hy.2 (c)
    refine a_aload_n dX11_takes_8 rfl ?_
    refine a_iconst (x := 1) dX11_takes_9 rfl ⟨by decide, by decide⟩ ?_
    refine a_aload_n dX11_takes_10 rfl ?_
    refine a_getI' (kz := 12) dX11_takes_11 fl_M_161 sk_12 rfl rfl (rfl) ?_
    refine a_callVi (as := [vI 1, vI (h1.1 12 12)]) (st := []) dX11_takes_14 lk_M_174 sk_12 rfl rfl (Nat.le_of_ble_eq_true rfl) (Or.inr rfl) (Call.mono hy (fun r5 h4 _ hy => ?_))
    obtain ⟨c6, hy⟩ := hy
    exact a_zret dX11_takes_17 rfl c6 hy
def A_M_takesLetters_12 (d : Nat) (Q : Int → AH → Prop) (p1 : Int) (v2 : Int) (h : AH) : Prop := AW d M_M_takesLetters Q 12 [some (vR 12 (-1)), some (vI p1), some (vI v2)] [] h
theorem s_M_takesLetters_12 {d : Nat} {Q : Int → AH → Prop} {p1 : Int} {v2 : Int} {h : AH} (hy : ((p1 ≤ v2 → Q 1 h) ∧ (v2 < p1 → (inb v2 200 ∧ (Call d M_M_in [vI (h.1 64 v2), vI 97, vI 122] h (fun r3 h2 => ((r3 ≠ 0 → (inI ((h2.1 64 v2) - 97) ∧ (inb v2 12 ∧ (inI (v2 + 1) ∧ A_M_takesLetters_12 d Q p1 (v2 + 1) (wI h2 63 v2 ((h2.1 64 v2) - 97)))))) ∧ (r3 = 0 → Q 0 h2)))))))) : A_M_takesLetters_12 d Q p1 v2 h := by
  show AW d M_M_takesLetters Q 12 [some (vR 12 (-1)), some (vI p1), some (vI v2)] [] h
  refine a_iload_n dX11_takesLetters_12 rfl ?_
  refine a_iload_n dX11_takesLetters_13 rfl ?_
  refine a_icmp_ge (tgt := 56) dX11_takesLetters_14 (by decide) (fun c => ?_) (fun c => ?_)
  · have hy := hy.1 c
    refine a_iconst (x := 1) dX11_takesLetters_56 rfl ⟨by decide, by decide⟩ ?_
    exact a_zret dX11_takesLetters_57 rfl (Or.inr rfl) hy
  · have hy := hy.2 (Int.not_le.mp c)
    refine a_aload_n dX11_takesLetters_17 rfl ?_
    refine a_getR dX11_takesLetters_18 fl_M_29 sk_12 rfl ?_
    refine a_iload_n dX11_takesLetters_21 rfl ?_
    obtain ⟨c1, hy⟩ := hy
    refine a_bald' dX11_takesLetters_22 sk_64 c1 (rfl) ?_
    refine a_bipush (x := 97) dX11_takesLetters_23 (by decide) ⟨by decide, by decide⟩ ?_
    refine a_bipush (x := 122) dX11_takesLetters_25 (by decide) ⟨by decide, by decide⟩ ?_
    refine a_callSi (as := [vI (h.1 64 v2), vI 97, vI 122]) (st := []) dX11_takesLetters_27 lk_M_139 rfl rfl (Nat.le_of_ble_eq_true rfl) (Or.inr rfl) (Call.mono hy (fun r3 h2 _ hy => ?_))
    refine a_if_ne (tgt := 35) dX11_takesLetters_30 (by decide) (fun c => ?_) (fun c => ?_)
    · have hy := hy.1 c
      refine a_aload_n dX11_takesLetters_35 rfl ?_
      refine a_getR dX11_takesLetters_36 fl_M_26 sk_12 rfl ?_
      refine a_iload_n dX11_takesLetters_39 rfl ?_
      refine a_aload_n dX11_takesLetters_40 rfl ?_
      refine a_getR dX11_takesLetters_41 fl_M_29 sk_12 rfl ?_
      refine a_iload_n dX11_takesLetters_44 rfl ?_
      refine a_bald' dX11_takesLetters_45 sk_64 c1 (rfl) ?_
      refine a_bipush (x := 97) dX11_takesLetters_46 (by decide) ⟨by decide, by decide⟩ ?_
      obtain ⟨c4, hy⟩ := hy
      refine a_isub dX11_takesLetters_48 c4 ?_
      obtain ⟨c5, hy⟩ := hy
      refine a_iast dX11_takesLetters_49 sk_63 c5 ?_
      obtain ⟨c6, hy⟩ := hy
      refine a_iinc (y := v2 + 1) (ls2 := [some (vR 12 (-1)), some (vI p1), some (vI (v2 + 1))]) dX11_takesLetters_50 rfl rfl c6 rfl ?_
      refine a_goto (tgt := 12) dX11_takesLetters_53 (by decide) ?_
      exact hy
    · have hy := hy.2 (Decidable.not_not.mp c)
      refine a_iconst (x := 0) dX11_takesLetters_33 rfl ⟨by decide, by decide⟩ ?_
      exact a_zret dX11_takesLetters_34 rfl (Or.inl rfl) hy
theorem c_M_takesLetters {d : Nat} (d0 : Nat) (hd : d0 < d) {p1 : Int} {h : AH} {Q : Int → AH → Prop} (hy : A_M_takesLetters_12 d0 Q p1 0 (wI (wI h 12 11 0) 12 9 p1)) : Call d M_M_takesLetters [vR 12 (-1), vI p1] h Q := by
  refine ⟨d0, hd, Big.of rfl (Nat.le_of_ble_eq_true rfl) ?_⟩
  show AW d0 M_M_takesLetters Q 0 [some (vR 12 (-1)), some (vI p1), none] [] h
  refine a_aload_n dX11_takesLetters_0 rfl ?_
  refine a_iconst (x := 0) dX11_takesLetters_1 rfl ⟨by decide, by decide⟩ ?_
  refine a_putI (kz := 11) dX11_takesLetters_2 fp_M_133 sk_12 rfl rfl ?_
  refine a_aload_n dX11_takesLetters_5 rfl ?_
  refine a_iload_n dX11_takesLetters_6 rfl ?_
  refine a_putI (kz := 9) dX11_takesLetters_7 fp_M_136 sk_12 rfl rfl ?_
  refine a_iconst (x := 0) dX11_takesLetters_10 rfl ⟨by decide, by decide⟩ ?_
  refine a_istore_n (i := 2) (ls2 := [some (vR 12 (-1)), some (vI p1), some (vI 0)]) dX11_takesLetters_11 rfl (Nat.le_of_ble_eq_true rfl) rfl ?_
  exact hy
def A_M_takesWords_7 (d : Nat) (Q : Int → AH → Prop) (p1 : Int) (v2 : Int) (h : AH) : Prop := AW d M_M_takesWords Q 7 [some (vR 12 (-1)), some (vI p1), some (vI v2), none] [] h
def A_M_takesWords_41 (d : Nat) (Q : Int → AH → Prop) (p1 : Int) (v2 : Int) (v3 : Int) (h : AH) : Prop := AW d M_M_takesWords Q 41 [some (vR 12 (-1)), some (vI p1), some (vI v2), some (vI v3)] [] h
theorem s_M_takesWords_7 {d : Nat} {Q : Int → AH → Prop} {p1 : Int} {v2 : Int} {h : AH} (hy : ((p1 ≤ v2 → Q 1 h) ∧ (v2 < p1 → (inb v2 200 ∧ (inb v2 14 ∧ (Call d M_M_isWord [vR 12 (-1), vI (h.1 64 v2)] (wI h 88 v2 (h.1 64 v2)) (fun r4 h3 => ((r4 ≠ 0 → A_M_takesWords_41 d Q p1 v2 0 h3) ∧ (r4 = 0 → Q 0 h3))))))))) : A_M_takesWords_7 d Q p1 v2 h := by
  show AW d M_M_takesWords Q 7 [some (vR 12 (-1)), some (vI p1), some (vI v2), none] [] h
  refine a_iload_n dX11_takesWords_7 rfl ?_
  refine a_iload_n dX11_takesWords_8 rfl ?_
  refine a_icmp_ge (tgt := 75) dX11_takesWords_9 (by decide) (fun c => ?_) (fun c => ?_)
  · have hy := hy.1 c
    refine a_iconst (x := 1) dX11_takesWords_75 rfl ⟨by decide, by decide⟩ ?_
    exact a_zret dX11_takesWords_76 rfl (Or.inr rfl) hy
  · have hy := hy.2 (Int.not_le.mp c)
    refine a_aload_n dX11_takesWords_12 rfl ?_
    refine a_getR dX11_takesWords_13 fl_M_103 sk_12 rfl ?_
    refine a_iload_n dX11_takesWords_16 rfl ?_
    refine a_aload_n dX11_takesWords_17 rfl ?_
    refine a_getR dX11_takesWords_18 fl_M_29 sk_12 rfl ?_
    refine a_iload_n dX11_takesWords_21 rfl ?_
    obtain ⟨c1, hy⟩ := hy
    refine a_bald' dX11_takesWords_22 sk_64 c1 (rfl) ?_
    obtain ⟨c2, hy⟩ := hy
    refine a_iast dX11_takesWords_23 sk_88 c2 ?_
    refine a_aload_n dX11_takesWords_24 rfl ?_
    refine a_aload_n dX11_takesWords_25 rfl ?_
    refine a_getR dX11_takesWords_26 fl_M_103 sk_12 rfl ?_
    refine a_iload_n dX11_takesWords_29 rfl ?_
    refine a_iald' dX11_takesWords_30 sk_88 c2 (rI_eq) ?_
    refine a_callVi (as := [vI (h.1 64 v2)]) (st := []) dX11_takesWords_31 lk_M_154 sk_12 rfl rfl (Nat.le_of_ble_eq_true rfl) (Or.inr rfl) (Call.mono hy (fun r4 h3 _ hy => ?_))
    refine a_if_ne (tgt := 39) dX11_takesWords_34 (by decide) (fun c => ?_) (fun c => ?_)
    · have hy := hy.1 c
      refine a_iconst (x := 0) dX11_takesWords_39 rfl ⟨by decide, by decide⟩ ?_
      refine a_istore_n (i := 3) (ls2 := [some (vR 12 (-1)), some (vI p1), some (vI v2), some (vI 0)]) dX11_takesWords_40 rfl (Nat.le_of_ble_eq_true rfl) rfl ?_
      exact hy
    · have hy := hy.2 (Decidable.not_not.mp c)
      refine a_iconst (x := 0) dX11_takesWords_37 rfl ⟨by decide, by decide⟩ ?_
      exact a_zret dX11_takesWords_38 rfl (Or.inl rfl) hy
theorem s_M_takesWords_41 {d : Nat} {Q : Int → AH → Prop} {p1 : Int} {v2 : Int} {v3 : Int} {h : AH} (hy : ((v2 ≤ v3 → (inI (v2 + 1) ∧ A_M_takesWords_7 d Q p1 (v2 + 1) h)) ∧ (v3 < v2 → (inb v3 14 ∧ (inb v2 14 ∧ (((h.1 88 v3) ≠ (h.1 88 v2) → (inI (v3 + 1) ∧ A_M_takesWords_41 d Q p1 v2 (v3 + 1) h)) ∧ ((h.1 88 v3) = (h.1 88 v2) → Q 0 h))))))) : A_M_takesWords_41 d Q p1 v2 v3 h := by
  show AW d M_M_takesWords Q 41 [some (vR 12 (-1)), some (vI p1), some (vI v2), some (vI v3)] [] h
  refine a_iload_n dX11_takesWords_41 rfl ?_
  refine a_iload_n dX11_takesWords_42 rfl ?_
  refine a_icmp_ge (tgt := 69) dX11_takesWords_43 (by decide) (fun c => ?_) (fun c => ?_)
  · have hy := hy.1 c
    obtain ⟨c1, hy⟩ := hy
    refine a_iinc (y := v2 + 1) (ls2 := [some (vR 12 (-1)), some (vI p1), some (vI (v2 + 1)), some (vI v3)]) dX11_takesWords_69 rfl rfl c1 rfl ?_
    refine a_goto (tgt := 7) dX11_takesWords_72 (by decide) ?_
    refine a_mask [true, true, true, false] (ls2 := [some (vR 12 (-1)), some (vI p1), some (vI (v2 + 1)), none]) rfl rfl ?_
    exact hy
  · have hy := hy.2 (Int.not_le.mp c)
    refine a_aload_n dX11_takesWords_46 rfl ?_
    refine a_getR dX11_takesWords_47 fl_M_103 sk_12 rfl ?_
    refine a_iload_n dX11_takesWords_50 rfl ?_
    obtain ⟨c2, hy⟩ := hy
    refine a_iald' dX11_takesWords_51 sk_88 c2 (rfl) ?_
    refine a_aload_n dX11_takesWords_52 rfl ?_
    refine a_getR dX11_takesWords_53 fl_M_103 sk_12 rfl ?_
    refine a_iload_n dX11_takesWords_56 rfl ?_
    obtain ⟨c3, hy⟩ := hy
    refine a_iald' dX11_takesWords_57 sk_88 c3 (rfl) ?_
    refine a_icmp_ne (tgt := 63) dX11_takesWords_58 (by decide) (fun c => ?_) (fun c => ?_)
    · have hy := hy.1 c
      obtain ⟨c4, hy⟩ := hy
      refine a_iinc (y := v3 + 1) (ls2 := [some (vR 12 (-1)), some (vI p1), some (vI v2), some (vI (v3 + 1))]) dX11_takesWords_63 rfl rfl c4 rfl ?_
      refine a_goto (tgt := 41) dX11_takesWords_66 (by decide) ?_
      exact hy
    · have hy := hy.2 (Decidable.not_not.mp c)
      refine a_iconst (x := 0) dX11_takesWords_61 rfl ⟨by decide, by decide⟩ ?_
      exact a_zret dX11_takesWords_62 rfl (Or.inl rfl) hy
theorem c_M_takesWords {d : Nat} (d0 : Nat) (hd : d0 < d) {p1 : Int} {h : AH} {Q : Int → AH → Prop} (hy : A_M_takesWords_7 d0 Q p1 0 (wI h 12 11 0)) : Call d M_M_takesWords [vR 12 (-1), vI p1] h Q := by
  refine ⟨d0, hd, Big.of rfl (Nat.le_of_ble_eq_true rfl) ?_⟩
  show AW d0 M_M_takesWords Q 0 [some (vR 12 (-1)), some (vI p1), none, none] [] h
  refine a_aload_n dX11_takesWords_0 rfl ?_
  refine a_iconst (x := 0) dX11_takesWords_1 rfl ⟨by decide, by decide⟩ ?_
  refine a_putI (kz := 11) dX11_takesWords_2 fp_M_133 sk_12 rfl rfl ?_
  refine a_iconst (x := 0) dX11_takesWords_5 rfl ⟨by decide, by decide⟩ ?_
  refine a_istore_n (i := 2) (ls2 := [some (vR 12 (-1)), some (vI p1), some (vI 0), none]) dX11_takesWords_6 rfl (Nat.le_of_ble_eq_true rfl) rfl ?_
  exact hy
def A_M_tapeNumber_6 (d : Nat) (Q : Int → AH → Prop) (p1 : Int) (v2 : Int) (v3 : Int) (h : AH) : Prop := AW d M_M_tapeNumber Q 6 [some (vR 12 (-1)), some (vI p1), some (vI v2), some (vI v3)] [] h
theorem s_M_tapeNumber_6 {d : Nat} {Q : Int → AH → Prop} {p1 : Int} {v2 : Int} {v3 : Int} {h : AH} (hy : inI (4 * p1) ∧ (inI ((4 * p1) + 4) ∧ ((((4 * p1) + 4) ≤ v3 → Q v2 h) ∧ (v3 < ((4 * p1) + 4) → (inb v3 200 ∧ (inI (v3 + 1) ∧ A_M_tapeNumber_6 d Q p1 (ior (ishl v2 8) (iand (h.1 64 v3) 255)) (v3 + 1) h)))))) : A_M_tapeNumber_6 d Q p1 v2 v3 h := by
  show AW d M_M_tapeNumber Q 6 [some (vR 12 (-1)), some (vI p1), some (vI v2), some (vI v3)] [] h
  refine a_iload_n dX11_tapeNumber_6 rfl ?_
  refine a_iconst (x := 4) dX11_tapeNumber_7 rfl ⟨by decide, by decide⟩ ?_
  refine a_iload_n dX11_tapeNumber_8 rfl ?_
  obtain ⟨c1, hy⟩ := hy
  refine a_imul dX11_tapeNumber_9 c1 ?_
  refine a_iconst (x := 4) dX11_tapeNumber_10 rfl ⟨by decide, by decide⟩ ?_
  obtain ⟨c2, hy⟩ := hy
  refine a_iadd dX11_tapeNumber_11 c2 ?_
  refine a_icmp_ge (tgt := 37) dX11_tapeNumber_12 (by decide) (fun c => ?_) (fun c => ?_)
  · have hy := hy.1 c
    refine a_iload_n dX11_tapeNumber_37 rfl ?_
    exact a_iret dX11_tapeNumber_38 rfl hy
  · have hy := hy.2 (Int.not_le.mp c)
    refine a_iload_n dX11_tapeNumber_15 rfl ?_
    refine a_bipush (x := 8) dX11_tapeNumber_16 (by decide) ⟨by decide, by decide⟩ ?_
    refine a_ishl dX11_tapeNumber_18 ?_
    refine a_aload_n dX11_tapeNumber_19 rfl ?_
    refine a_getR dX11_tapeNumber_20 fl_M_29 sk_12 rfl ?_
    refine a_iload_n dX11_tapeNumber_23 rfl ?_
    obtain ⟨c3, hy⟩ := hy
    refine a_bald' dX11_tapeNumber_24 sk_64 c3 (rfl) ?_
    refine a_sipush (x := 255) dX11_tapeNumber_25 (by decide) ⟨by decide, by decide⟩ ?_
    refine a_iand dX11_tapeNumber_28 ?_
    refine a_ior dX11_tapeNumber_29 ?_
    refine a_istore_n (i := 2) (ls2 := [some (vR 12 (-1)), some (vI p1), some (vI (ior (ishl v2 8) (iand (h.1 64 v3) 255))), some (vI v3)]) dX11_tapeNumber_30 rfl (Nat.le_of_ble_eq_true rfl) rfl ?_
    obtain ⟨c4, hy⟩ := hy
    refine a_iinc (y := v3 + 1) (ls2 := [some (vR 12 (-1)), some (vI p1), some (vI (ior (ishl v2 8) (iand (h.1 64 v3) 255))), some (vI (v3 + 1))]) dX11_tapeNumber_31 rfl rfl c4 rfl ?_
    refine a_goto (tgt := 6) dX11_tapeNumber_34 (by decide) ?_
    exact hy
theorem c_M_tapeNumber {d : Nat} (d0 : Nat) (hd : d0 < d) {p1 : Int} {h : AH} {Q : Int → AH → Prop} (hy : inI (4 * p1) ∧ A_M_tapeNumber_6 d0 Q p1 0 (4 * p1) h) : Call d M_M_tapeNumber [vR 12 (-1), vI p1] h Q := by
  refine ⟨d0, hd, Big.of rfl (Nat.le_of_ble_eq_true rfl) ?_⟩
  show AW d0 M_M_tapeNumber Q 0 [some (vR 12 (-1)), some (vI p1), none, none] [] h
  refine a_iconst (x := 0) dX11_tapeNumber_0 rfl ⟨by decide, by decide⟩ ?_
  refine a_istore_n (i := 2) (ls2 := [some (vR 12 (-1)), some (vI p1), some (vI 0), none]) dX11_tapeNumber_1 rfl (Nat.le_of_ble_eq_true rfl) rfl ?_
  refine a_iconst (x := 4) dX11_tapeNumber_2 rfl ⟨by decide, by decide⟩ ?_
  refine a_iload_n dX11_tapeNumber_3 rfl ?_
  obtain ⟨c1, hy⟩ := hy
  refine a_imul dX11_tapeNumber_4 c1 ?_
  refine a_istore_n (i := 3) (ls2 := [some (vR 12 (-1)), some (vI p1), some (vI 0), some (vI (4 * p1))]) dX11_tapeNumber_5 rfl (Nat.le_of_ble_eq_true rfl) rfl ?_
  exact hy
theorem c_M_top {d : Nat} (d0 : Nat) (hd : d0 < d)  {h : AH} {Q : Int → AH → Prop} (hy : (((h.1 12 17) ≠ 0 → (inI ((h.1 12 17) - 1) ∧ (inb ((h.1 12 17) - 1) 180 ∧ (inI (Int.tdiv (h.1 66 ((h.1 12 17) - 1)) 1048576) ∧ Q (Int.tdiv (h.1 66 ((h.1 12 17) - 1)) 1048576) h)))) ∧ ((h.1 12 17) = 0 → Q (-1) h))) : Call d M_M_top [vR 12 (-1)] h Q := by
  refine ⟨d0, hd, Big.of rfl (Nat.le_of_ble_eq_true rfl) ?_⟩
  show AW d0 M_M_top Q 0 [some (vR 12 (-1))] [] h
  refine a_aload_n dX11_top_0 rfl ?_
  refine a_getI' (kz := 17) dX11_top_1 fl_M_191 sk_12 rfl rfl (rfl) ?_
  refine a_if_ne (tgt := 11) dX11_top_4 (by decide) (fun c => ?_) (fun c => ?_)
  · have hy := hy.1 c
    refine a_aload_n dX11_top_11 rfl ?_
    refine a_getR dX11_top_12 fl_M_36 sk_12 rfl ?_
    refine a_aload_n dX11_top_15 rfl ?_
    refine a_getI' (kz := 17) dX11_top_16 fl_M_191 sk_12 rfl rfl (rfl) ?_
    refine a_iconst (x := 1) dX11_top_19 rfl ⟨by decide, by decide⟩ ?_
    obtain ⟨c1, hy⟩ := hy
    refine a_isub dX11_top_20 c1 ?_
    obtain ⟨c2, hy⟩ := hy
    refine a_iald' dX11_top_21 sk_66 c2 (rfl) ?_
    refine a_ldc (x := 1048576) dX11_top_22 kc_M_187 ⟨by decide, by decide⟩ ?_
    obtain ⟨c3, hy⟩ := hy
    refine a_idiv dX11_top_24 (by decide) c3 ?_
    exact a_iret dX11_top_25 rfl hy
  · have hy := hy.2 (Decidable.not_not.mp c)
    refine a_iconst (x := (-1)) dX11_top_7 rfl ⟨by decide, by decide⟩ ?_
    refine a_goto (tgt := 25) dX11_top_8 (by decide) ?_
    exact a_iret dX11_top_25 rfl hy

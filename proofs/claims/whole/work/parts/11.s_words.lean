def A_Words_add_37 (d : Nat) (Q : Int → AH → Prop) (p1 : Int) (p3 : Int) (p4 : Int) (v5 : Int) (v6 : Int) (h : AH) : Prop := AW d M_Words_add Q 37 [some (vR 2 (-1)), some (vL p1), none, some (vI p3), some (vI p4), some (vI v5), some (vI v6)] [] h
def A_Words_add_78 (d : Nat) (Q : Int → AH → Prop) (p3 : Int) (p4 : Int) (v5 : Int) (h : AH) : Prop := AW d M_Words_add Q 78 [some (vR 2 (-1)), none, none, some (vI p3), some (vI p4), some (vI v5), none] [] h
theorem s_Words_add_37 {d : Nat} {Q : Int → AH → Prop} {p1 : Int} {p3 : Int} {p4 : Int} {v5 : Int} {v6 : Int} {h : AH} (hy : inb v5 40 ∧ (((h.1 15 v5) ≤ v6 → A_Words_add_78 d Q p3 p4 v5 h) ∧ (v6 < (h.1 15 v5) → ((8 ≤ v6 → A_Words_add_78 d Q p3 p4 v5 h) ∧ (v6 < 8 → (Call d M_Words_letterOfKey [vL p1, vI v6] h (fun r3 h2 => inb v6 8 ∧ (inI (v6 + 1) ∧ A_Words_add_37 d Q p1 p3 p4 v5 (v6 + 1) (wR h2 14 v5 v6 r3))))))))) : A_Words_add_37 d Q p1 p3 p4 v5 v6 h := by
  show AW d M_Words_add Q 37 [some (vR 2 (-1)), some (vL p1), none, some (vI p3), some (vI p4), some (vI v5), some (vI v6)] [] h
  refine a_iload dX9_add_37 rfl ?_
  refine a_aload_n dX9_add_39 rfl ?_
  refine a_getR dX9_add_40 fl_Words_16 sk_2 rfl ?_
  refine a_iload dX9_add_43 rfl ?_
  obtain ⟨c1, hy⟩ := hy
  refine a_iald' dX9_add_45 sk_15 c1 (rfl) ?_
  refine a_icmp_ge (tgt := 78) dX9_add_46 (by decide) (fun c => ?_) (fun c => ?_)
  · have hy := hy.1 c
    refine a_mask [true, false, true, true, true, true, false] (ls2 := [some (vR 2 (-1)), none, none, some (vI p3), some (vI p4), some (vI v5), none]) rfl rfl ?_
    exact hy
  · have hy := hy.2 (Int.not_le.mp c)
    refine a_iload dX9_add_49 rfl ?_
    refine a_bipush (x := 8) dX9_add_51 (by decide) ⟨by decide, by decide⟩ ?_
    refine a_icmp_ge (tgt := 78) dX9_add_53 (by decide) (fun c => ?_) (fun c => ?_)
    · have hy := hy.1 c
      refine a_mask [true, false, true, true, true, true, false] (ls2 := [some (vR 2 (-1)), none, none, some (vI p3), some (vI p4), some (vI v5), none]) rfl rfl ?_
      exact hy
    · have hy := hy.2 (Int.not_le.mp c)
      refine a_aload_n dX9_add_56 rfl ?_
      refine a_getR dX9_add_57 fl_Words_11 sk_2 rfl ?_
      refine a_iload dX9_add_60 rfl ?_
      refine a_aald dX9_add_62 sk_14 c1 ?_
      refine a_iload dX9_add_63 rfl ?_
      refine a_lload_n dX9_add_65 rfl ?_
      refine a_iload dX9_add_66 rfl ?_
      refine a_callSi (as := [vL p1, vI v6]) (st := [vI v6, vR 14 v5]) dX9_add_68 lk_Words_53 rfl rfl (Nat.le_of_ble_eq_true rfl) (Or.inl rfl) (Call.mono hy (fun r3 h2 _ hy => ?_))
      obtain ⟨c4, hy⟩ := hy
      refine a_iastR dX9_add_71 sk_14 (inb_ne c1) c4 ?_
      obtain ⟨c5, hy⟩ := hy
      refine a_iinc (y := v6 + 1) (ls2 := [some (vR 2 (-1)), some (vL p1), none, some (vI p3), some (vI p4), some (vI v5), some (vI (v6 + 1))]) dX9_add_72 rfl rfl c5 rfl ?_
      refine a_goto (tgt := 37) dX9_add_75 (by decide) ?_
      exact hy
theorem s_Words_add_78 {d : Nat} {Q : Int → AH → Prop} {p3 : Int} {p4 : Int} {v5 : Int} {h : AH} (hy : inb v5 40 ∧ (inI ((h.1 2 6) + 1) ∧ (Call d M_Words_findUsed [vR 2 (-1)] (wI (wI (wI (wI h 17 v5 p3) 18 v5 p4) 19 v5 0) 2 6 ((h.1 2 6) + 1)) (fun _ h3 => Q v5 h3)))) : A_Words_add_78 d Q p3 p4 v5 h := by
  show AW d M_Words_add Q 78 [some (vR 2 (-1)), none, none, some (vI p3), some (vI p4), some (vI v5), none] [] h
  refine a_aload_n dX9_add_78 rfl ?_
  refine a_getR dX9_add_79 fl_Words_24 sk_2 rfl ?_
  refine a_iload dX9_add_82 rfl ?_
  refine a_iload_n dX9_add_84 rfl ?_
  obtain ⟨c1, hy⟩ := hy
  refine a_iast dX9_add_85 sk_17 c1 ?_
  refine a_aload_n dX9_add_86 rfl ?_
  refine a_getR dX9_add_87 fl_Words_27 sk_2 rfl ?_
  refine a_iload dX9_add_90 rfl ?_
  refine a_iload dX9_add_92 rfl ?_
  refine a_iast dX9_add_94 sk_18 c1 ?_
  refine a_aload_n dX9_add_95 rfl ?_
  refine a_getR dX9_add_96 fl_Words_30 sk_2 rfl ?_
  refine a_iload dX9_add_99 rfl ?_
  refine a_iconst (x := 0) dX9_add_101 rfl ⟨by decide, by decide⟩ ?_
  refine a_zast dX9_add_102 sk_19 c1 (Or.inl rfl) ?_
  refine a_aload_n dX9_add_103 rfl ?_
  refine a_dupR dX9_add_104 ?_
  refine a_getI' (kz := 6) dX9_add_105 fl_Words_42 sk_2 rfl rfl ((rI_ne (by decide)).trans ((rI_ne (by decide)).trans (rI_ne (by decide)))) ?_
  refine a_iconst (x := 1) dX9_add_108 rfl ⟨by decide, by decide⟩ ?_
  obtain ⟨c2, hy⟩ := hy
  refine a_iadd dX9_add_109 c2 ?_
  refine a_putI (kz := 6) dX9_add_110 fp_Words_42 sk_2 rfl rfl ?_
  refine a_aload_n dX9_add_113 rfl ?_
  refine a_callVv (as := []) (st := []) dX9_add_114 lk_Words_57 sk_2 rfl rfl (Nat.le_of_ble_eq_true rfl) rfl (Call.mono hy (fun _ h3 _ hy => ?_))
  refine a_iload dX9_add_117 rfl ?_
  exact a_iret dX9_add_119 rfl hy
theorem c_Words_add {d : Nat} (d0 : Nat) (hd : d0 < d) {p1 : Int} {p3 : Int} {p4 : Int} {h : AH} {Q : Int → AH → Prop} (hy : (((h.1 2 6) < 40 → (inb (h.1 2 6) 40 ∧ (Call d0 M_Words_lengthOfKey [vL p1] (wL h 16 (h.1 2 6) p1) (fun r3 h2 => A_Words_add_37 d0 Q p1 p3 p4 (h.1 2 6) 0 (wI h2 15 (h.1 2 6) r3))))) ∧ (40 ≤ (h.1 2 6) → Q (-1) h))) : Call d M_Words_add [vR 2 (-1), vL p1, vI p3, vI p4] h Q := by
  refine ⟨d0, hd, Big.of rfl (Nat.le_of_ble_eq_true rfl) ?_⟩
  show AW d0 M_Words_add Q 0 [some (vR 2 (-1)), some (vL p1), none, some (vI p3), some (vI p4), none, none] [] h
  refine a_aload_n dX9_add_0 rfl ?_
  refine a_getI' (kz := 6) dX9_add_1 fl_Words_42 sk_2 rfl rfl (rfl) ?_
  refine a_istore (ls2 := [some (vR 2 (-1)), some (vL p1), none, some (vI p3), some (vI p4), some (vI (h.1 2 6)), none]) dX9_add_4 (Nat.le_of_ble_eq_true rfl) rfl ?_
  refine a_iload dX9_add_6 rfl ?_
  refine a_bipush (x := 40) dX9_add_8 (by decide) ⟨by decide, by decide⟩ ?_
  refine a_icmp_lt (tgt := 15) dX9_add_10 (by decide) (fun c => ?_) (fun c => ?_)
  · have hy := hy.1 c
    refine a_aload_n dX9_add_15 rfl ?_
    refine a_getR dX9_add_16 fl_Words_20 sk_2 rfl ?_
    refine a_iload dX9_add_19 rfl ?_
    refine a_lload_n dX9_add_21 rfl ?_
    obtain ⟨c1, hy⟩ := hy
    refine a_last dX9_add_22 sk_16 c1 ?_
    refine a_aload_n dX9_add_23 rfl ?_
    refine a_getR dX9_add_24 fl_Words_16 sk_2 rfl ?_
    refine a_iload dX9_add_27 rfl ?_
    refine a_lload_n dX9_add_29 rfl ?_
    refine a_callSi (as := [vL p1]) (st := [vI (h.1 2 6), vR 15 (-1)]) dX9_add_30 lk_Words_38 rfl rfl (Nat.le_of_ble_eq_true rfl) (Or.inl rfl) (Call.mono hy (fun r3 h2 _ hy => ?_))
    refine a_iast dX9_add_33 sk_15 c1 ?_
    refine a_iconst (x := 0) dX9_add_34 rfl ⟨by decide, by decide⟩ ?_
    refine a_istore (ls2 := [some (vR 2 (-1)), some (vL p1), none, some (vI p3), some (vI p4), some (vI (h.1 2 6)), some (vI 0)]) dX9_add_35 (Nat.le_of_ble_eq_true rfl) rfl ?_
    exact hy
  · have hy := hy.2 (Int.not_lt.mp c)
    refine a_iconst (x := (-1)) dX9_add_13 rfl ⟨by decide, by decide⟩ ?_
    exact a_iret dX9_add_14 rfl hy
def A_Words_findUsed_27 (d : Nat) (Q : Int → AH → Prop) (v1 : Int) (v2 : Int) (h : AH) : Prop := AW d M_Words_findUsed Q 27 [some (vR 2 (-1)), some (vI v1), some (vI v2)] [] h
theorem s_Words_findUsed_27 {d : Nat} {Q : Int → AH → Prop} {v1 : Int} {v2 : Int} {h : AH} (hy : (((h.1 2 6) ≤ v2 → (inI ((h.1 2 9) + 1) ∧ Q 0 (wI h 2 9 ((h.1 2 9) + 1)))) ∧ (v2 < (h.1 2 6) → (inb v2 40 ∧ (((h.1 19 v2) ≠ 0 → (inI (v2 + 1) ∧ A_Words_findUsed_27 d Q v1 (v2 + 1) h)) ∧ ((h.1 19 v2) = 0 → (((iand (h.1 18 v2) v1) = 0 → (inI (v2 + 1) ∧ A_Words_findUsed_27 d Q v1 (v2 + 1) h)) ∧ ((iand (h.1 18 v2) v1) ≠ 0 → (inI (v2 + 1) ∧ A_Words_findUsed_27 d Q v1 (v2 + 1) (wL h 2 8 (lor (h.2.1 2 8) (lshl 1 v2)))))))))))) : A_Words_findUsed_27 d Q v1 v2 h := by
  show AW d M_Words_findUsed Q 27 [some (vR 2 (-1)), some (vI v1), some (vI v2)] [] h
  refine a_iload_n dX9_findUsed_27 rfl ?_
  refine a_aload_n dX9_findUsed_28 rfl ?_
  refine a_getI' (kz := 6) dX9_findUsed_29 fl_Words_42 sk_2 rfl rfl (rfl) ?_
  refine a_icmp_ge (tgt := 73) dX9_findUsed_32 (by decide) (fun c => ?_) (fun c => ?_)
  · have hy := hy.1 c
    refine a_aload_n dX9_findUsed_73 rfl ?_
    refine a_dupR dX9_findUsed_74 ?_
    refine a_getI' (kz := 9) dX9_findUsed_75 fl_Words_60 sk_2 rfl rfl (rfl) ?_
    refine a_iconst (x := 1) dX9_findUsed_78 rfl ⟨by decide, by decide⟩ ?_
    obtain ⟨c1, hy⟩ := hy
    refine a_iadd dX9_findUsed_79 c1 ?_
    refine a_putI (kz := 9) dX9_findUsed_80 fp_Words_60 sk_2 rfl rfl ?_
    exact a_vret dX9_findUsed_83 rfl hy
  · have hy := hy.2 (Int.not_le.mp c)
    refine a_aload_n dX9_findUsed_35 rfl ?_
    refine a_getR dX9_findUsed_36 fl_Words_30 sk_2 rfl ?_
    refine a_iload_n dX9_findUsed_39 rfl ?_
    obtain ⟨c2, hy⟩ := hy
    refine a_zald' dX9_findUsed_40 sk_19 c2 (rfl) ?_
    refine a_if_ne (tgt := 67) dX9_findUsed_41 (by decide) (fun c => ?_) (fun c => ?_)
    · have hy := hy.1 c
      obtain ⟨c3, hy⟩ := hy
      refine a_iinc (y := v2 + 1) (ls2 := [some (vR 2 (-1)), some (vI v1), some (vI (v2 + 1))]) dX9_findUsed_67 rfl rfl c3 rfl ?_
      refine a_goto (tgt := 27) dX9_findUsed_70 (by decide) ?_
      exact hy
    · have hy := hy.2 (Decidable.not_not.mp c)
      refine a_aload_n dX9_findUsed_44 rfl ?_
      refine a_getR dX9_findUsed_45 fl_Words_27 sk_2 rfl ?_
      refine a_iload_n dX9_findUsed_48 rfl ?_
      refine a_iald' dX9_findUsed_49 sk_18 c2 (rfl) ?_
      refine a_iload_n dX9_findUsed_50 rfl ?_
      refine a_iand dX9_findUsed_51 ?_
      refine a_if_eq (tgt := 67) dX9_findUsed_52 (by decide) (fun c => ?_) (fun c => ?_)
      · have hy := hy.1 c
        obtain ⟨c4, hy⟩ := hy
        refine a_iinc (y := v2 + 1) (ls2 := [some (vR 2 (-1)), some (vI v1), some (vI (v2 + 1))]) dX9_findUsed_67 rfl rfl c4 rfl ?_
        refine a_goto (tgt := 27) dX9_findUsed_70 (by decide) ?_
        exact hy
      · have hy := hy.2 (c)
        refine a_aload_n dX9_findUsed_55 rfl ?_
        refine a_dupR dX9_findUsed_56 ?_
        refine a_getL' (kz := 8) dX9_findUsed_57 fl_Words_49 sk_2 rfl rfl (rfl) ?_
        refine a_lconst (x := 1) dX9_findUsed_60 rfl ⟨by decide, by decide⟩ ?_
        refine a_iload_n dX9_findUsed_61 rfl ?_
        refine a_lshl dX9_findUsed_62 ?_
        refine a_lor dX9_findUsed_63 ?_
        refine a_putL (kz := 8) dX9_findUsed_64 fp_Words_49 sk_2 rfl rfl ?_
        obtain ⟨c5, hy⟩ := hy
        refine a_iinc (y := v2 + 1) (ls2 := [some (vR 2 (-1)), some (vI v1), some (vI (v2 + 1))]) dX9_findUsed_67 rfl rfl c5 rfl ?_
        refine a_goto (tgt := 27) dX9_findUsed_70 (by decide) ?_
        exact hy
theorem c_Words_findUsed {d : Nat} (d0 : Nat) (hd : d0 < d)  {h : AH} {Q : Int → AH → Prop} (hy : A_Words_findUsed_27 d0 Q (if (h.1 2 7) = (-1) then (15 : Int) else ishl 1 (h.1 2 7)) 0 (wL h 2 8 0)) : Call d M_Words_findUsed [vR 2 (-1)] h Q := by
  refine ⟨d0, hd, Big.of rfl (Nat.le_of_ble_eq_true rfl) ?_⟩
  show AW d0 M_Words_findUsed Q 0 [some (vR 2 (-1)), none, none] [] h
  refine a_aload_n dX9_findUsed_0 rfl ?_
  refine a_getI' (kz := 7) dX9_findUsed_1 fl_Words_34 sk_2 rfl rfl (rfl) ?_
  refine a_iconst (x := (-1)) dX9_findUsed_4 rfl ⟨by decide, by decide⟩ ?_
  have J : AW d0 M_Words_findUsed Q 19 [some (vR 2 (-1)), none, none] [vI (if (h.1 2 7) = (-1) then (15 : Int) else ishl 1 (h.1 2 7))] h := by
    refine a_istore_n (i := 1) (ls2 := [some (vR 2 (-1)), some (vI (if (h.1 2 7) = (-1) then (15 : Int) else ishl 1 (h.1 2 7))), none]) dX9_findUsed_19 rfl (Nat.le_of_ble_eq_true rfl) rfl ?_
    refine a_aload_n dX9_findUsed_20 rfl ?_
    refine a_lconst (x := 0) dX9_findUsed_21 rfl ⟨by decide, by decide⟩ ?_
    refine a_putL (kz := 8) dX9_findUsed_22 fp_Words_49 sk_2 rfl rfl ?_
    refine a_iconst (x := 0) dX9_findUsed_25 rfl ⟨by decide, by decide⟩ ?_
    refine a_istore_n (i := 2) (ls2 := [some (vR 2 (-1)), some (vI (if (h.1 2 7) = (-1) then (15 : Int) else ishl 1 (h.1 2 7))), some (vI 0)]) dX9_findUsed_26 rfl (Nat.le_of_ble_eq_true rfl) rfl ?_
    exact hy
  refine a_icmp_ne (tgt := 13) dX9_findUsed_5 (by decide) (fun e1 => ?_) (fun e1 => ?_)
  · refine a_iconst (x := 1) dX9_findUsed_13 rfl ⟨by decide, by decide⟩ ?_
    refine a_aload_n dX9_findUsed_14 rfl ?_
    refine a_getI' (kz := 7) dX9_findUsed_15 fl_Words_34 sk_2 rfl rfl (rfl) ?_
    refine a_ishl dX9_findUsed_18 ?_
    exact a_cast (by first | rfl | simp only [if_neg e1]) (by first | rfl | simp only [if_neg e1]) J
  · refine a_bipush (x := 15) dX9_findUsed_8 (by decide) ⟨by decide, by decide⟩ ?_
    refine a_goto (tgt := 19) dX9_findUsed_10 (by decide) ?_
    exact a_cast (by first | rfl | simp only [if_pos (Decidable.not_not.mp e1)]) (by first | rfl | simp only [if_pos (Decidable.not_not.mp e1)]) J
theorem c_Words_has {d : Nat} (d0 : Nat) (hd : d0 < d) {p1 : Int} {h : AH} {Q : Int → AH → Prop} (hy : ((p1 < 0 → Q 0 h) ∧ (0 ≤ p1 → (((h.1 2 6) ≤ p1 → Q 0 h) ∧ (p1 < (h.1 2 6) → ((40 ≤ p1 → Q 0 h) ∧ (p1 < 40 → Q 1 h))))))) : Call d M_Words_has [vR 2 (-1), vI p1] h Q := by
  refine ⟨d0, hd, Big.of rfl (Nat.le_of_ble_eq_true rfl) ?_⟩
  show AW d0 M_Words_has Q 0 [some (vR 2 (-1)), some (vI p1)] [] h
  refine a_iload_n dX9_has_0 rfl ?_
  refine a_if_lt (tgt := 22) dX9_has_1 (by decide) (fun c => ?_) (fun c => ?_)
  · have hy := hy.1 c
    refine a_iconst (x := 0) dX9_has_22 rfl ⟨by decide, by decide⟩ ?_
    exact a_zret dX9_has_23 rfl (Or.inl rfl) hy
  · have hy := hy.2 (Int.not_lt.mp c)
    refine a_iload_n dX9_has_4 rfl ?_
    refine a_aload_n dX9_has_5 rfl ?_
    refine a_getI' (kz := 6) dX9_has_6 fl_Words_42 sk_2 rfl rfl (rfl) ?_
    refine a_icmp_ge (tgt := 22) dX9_has_9 (by decide) (fun c => ?_) (fun c => ?_)
    · have hy := hy.1 c
      refine a_iconst (x := 0) dX9_has_22 rfl ⟨by decide, by decide⟩ ?_
      exact a_zret dX9_has_23 rfl (Or.inl rfl) hy
    · have hy := hy.2 (Int.not_le.mp c)
      refine a_iload_n dX9_has_12 rfl ?_
      refine a_bipush (x := 40) dX9_has_13 (by decide) ⟨by decide, by decide⟩ ?_
      refine a_icmp_ge (tgt := 22) dX9_has_15 (by decide) (fun c => ?_) (fun c => ?_)
      · have hy := hy.1 c
        refine a_iconst (x := 0) dX9_has_22 rfl ⟨by decide, by decide⟩ ?_
        exact a_zret dX9_has_23 rfl (Or.inl rfl) hy
      · have hy := hy.2 (Int.not_le.mp c)
        refine a_iconst (x := 1) dX9_has_18 rfl ⟨by decide, by decide⟩ ?_
        refine a_goto (tgt := 23) dX9_has_19 (by decide) ?_
        exact a_zret dX9_has_23 rfl (Or.inr rfl) hy
def A_Words_holds_2 (d : Nat) (Q : Int → AH → Prop) (p1 : Int) (v3 : Int) (h : AH) : Prop := AW d M_Words_holds Q 2 [some (vR 2 (-1)), some (vL p1), none, some (vI v3)] [] h
theorem s_Words_holds_2 {d : Nat} {Q : Int → AH → Prop} {p1 : Int} {v3 : Int} {h : AH} (hy : (((h.1 2 6) ≤ v3 → Q 0 h) ∧ (v3 < (h.1 2 6) → (inb v3 40 ∧ (((h.2.1 16 v3) ≠ p1 → (inI (v3 + 1) ∧ A_Words_holds_2 d Q p1 (v3 + 1) h)) ∧ ((h.2.1 16 v3) = p1 → Q 1 h)))))) : A_Words_holds_2 d Q p1 v3 h := by
  show AW d M_Words_holds Q 2 [some (vR 2 (-1)), some (vL p1), none, some (vI v3)] [] h
  refine a_iload_n dX9_holds_2 rfl ?_
  refine a_aload_n dX9_holds_3 rfl ?_
  refine a_getI' (kz := 6) dX9_holds_4 fl_Words_42 sk_2 rfl rfl (rfl) ?_
  refine a_icmp_ge (tgt := 29) dX9_holds_7 (by decide) (fun c => ?_) (fun c => ?_)
  · have hy := hy.1 c
    refine a_iconst (x := 0) dX9_holds_29 rfl ⟨by decide, by decide⟩ ?_
    exact a_zret dX9_holds_30 rfl (Or.inl rfl) hy
  · have hy := hy.2 (Int.not_le.mp c)
    refine a_aload_n dX9_holds_10 rfl ?_
    refine a_getR dX9_holds_11 fl_Words_20 sk_2 rfl ?_
    refine a_iload_n dX9_holds_14 rfl ?_
    obtain ⟨c1, hy⟩ := hy
    refine a_lald' dX9_holds_15 sk_16 c1 (rfl) ?_
    refine a_lload_n dX9_holds_16 rfl ?_
    refine a_lc_ne (tgt := 23) dX9_holds_17 dX9_holds_18 (by decide) (fun c => ?_) (fun c => ?_)
    · have hy := hy.1 c
      obtain ⟨c2, hy⟩ := hy
      refine a_iinc (y := v3 + 1) (ls2 := [some (vR 2 (-1)), some (vL p1), none, some (vI (v3 + 1))]) dX9_holds_23 rfl rfl c2 rfl ?_
      refine a_goto (tgt := 2) dX9_holds_26 (by decide) ?_
      exact hy
    · have hy := hy.2 (Decidable.not_not.mp c)
      refine a_iconst (x := 1) dX9_holds_21 rfl ⟨by decide, by decide⟩ ?_
      exact a_zret dX9_holds_22 rfl (Or.inr rfl) hy
theorem c_Words_holds {d : Nat} (d0 : Nat) (hd : d0 < d) {p1 : Int} {h : AH} {Q : Int → AH → Prop} (hy : A_Words_holds_2 d0 Q p1 0 h) : Call d M_Words_holds [vR 2 (-1), vL p1] h Q := by
  refine ⟨d0, hd, Big.of rfl (Nat.le_of_ble_eq_true rfl) ?_⟩
  show AW d0 M_Words_holds Q 0 [some (vR 2 (-1)), some (vL p1), none, none] [] h
  refine a_iconst (x := 0) dX9_holds_0 rfl ⟨by decide, by decide⟩ ?_
  refine a_istore_n (i := 3) (ls2 := [some (vR 2 (-1)), some (vL p1), none, some (vI 0)]) dX9_holds_1 rfl (Nat.le_of_ble_eq_true rfl) rfl ?_
  exact hy
theorem c_Words_isUsed {d : Nat} (d0 : Nat) (hd : d0 < d) {p1 : Int} {h : AH} {Q : Int → AH → Prop} (hy : Call d0 M_Words_has [vR 2 (-1), vI p1] h (fun r2 h1 => ((r2 = 0 → Q 0 h1) ∧ (r2 ≠ 0 → (((land (lushr (h1.2.1 2 8) p1) 1) = 0 → Q 0 h1) ∧ ((land (lushr (h1.2.1 2 8) p1) 1) ≠ 0 → Q 1 h1)))))) : Call d M_Words_isUsed [vR 2 (-1), vI p1] h Q := by
  refine ⟨d0, hd, Big.of rfl (Nat.le_of_ble_eq_true rfl) ?_⟩
  show AW d0 M_Words_isUsed Q 0 [some (vR 2 (-1)), some (vI p1)] [] h
  refine a_aload_n dX9_isUsed_0 rfl ?_
  refine a_iload_n dX9_isUsed_1 rfl ?_
  refine a_callVi (as := [vI p1]) (st := []) dX9_isUsed_2 lk_Words_45 sk_2 rfl rfl (Nat.le_of_ble_eq_true rfl) (Or.inr rfl) (Call.mono hy (fun r2 h1 _ hy => ?_))
  refine a_if_eq (tgt := 25) dX9_isUsed_5 (by decide) (fun c => ?_) (fun c => ?_)
  · have hy := hy.1 c
    refine a_iconst (x := 0) dX9_isUsed_25 rfl ⟨by decide, by decide⟩ ?_
    exact a_zret dX9_isUsed_26 rfl (Or.inl rfl) hy
  · have hy := hy.2 (c)
    refine a_aload_n dX9_isUsed_8 rfl ?_
    refine a_getL' (kz := 8) dX9_isUsed_9 fl_Words_49 sk_2 rfl rfl (rfl) ?_
    refine a_iload_n dX9_isUsed_12 rfl ?_
    refine a_lushr dX9_isUsed_13 ?_
    refine a_lconst (x := 1) dX9_isUsed_14 rfl ⟨by decide, by decide⟩ ?_
    refine a_land dX9_isUsed_15 ?_
    refine a_lconst (x := 0) dX9_isUsed_16 rfl ⟨by decide, by decide⟩ ?_
    refine a_lc_eq (tgt := 25) dX9_isUsed_17 dX9_isUsed_18 (by decide) (fun c => ?_) (fun c => ?_)
    · have hy := hy.1 c
      refine a_iconst (x := 0) dX9_isUsed_25 rfl ⟨by decide, by decide⟩ ?_
      exact a_zret dX9_isUsed_26 rfl (Or.inl rfl) hy
    · have hy := hy.2 (c)
      refine a_iconst (x := 1) dX9_isUsed_21 rfl ⟨by decide, by decide⟩ ?_
      refine a_goto (tgt := 26) dX9_isUsed_22 (by decide) ?_
      exact a_zret dX9_isUsed_26 rfl (Or.inr rfl) hy
theorem c_Words_keyOf {d : Nat} (d0 : Nat) (hd : d0 < d) {p0 : Int} {p2 : Int} {h : AH} {Q : Int → AH → Prop} (hy : Q (lor (lshl p2 40) p0) h) : Call d M_Words_keyOf [vL p0, vI p2] h Q := by
  refine ⟨d0, hd, Big.of rfl (Nat.le_of_ble_eq_true rfl) ?_⟩
  show AW d0 M_Words_keyOf Q 0 [some (vL p0), none, some (vI p2)] [] h
  refine a_iload_n dX9_keyOf_0 rfl ?_
  refine a_i2l dX9_keyOf_1 ?_
  refine a_bipush (x := 40) dX9_keyOf_2 (by decide) ⟨by decide, by decide⟩ ?_
  refine a_lshl dX9_keyOf_4 ?_
  refine a_lload_n dX9_keyOf_5 rfl ?_
  refine a_lor dX9_keyOf_6 ?_
  exact a_lret dX9_keyOf_7 rfl hy
theorem c_Words_lengthOfKey {d : Nat} (d0 : Nat) (hd : d0 < d) {p0 : Int} {h : AH} {Q : Int → AH → Prop} (hy : Q (l2i (lushr p0 40)) h) : Call d M_Words_lengthOfKey [vL p0] h Q := by
  refine ⟨d0, hd, Big.of rfl (Nat.le_of_ble_eq_true rfl) ?_⟩
  show AW d0 M_Words_lengthOfKey Q 0 [some (vL p0), none] [] h
  refine a_lload_n dX9_lengthOfKey_0 rfl ?_
  refine a_bipush (x := 40) dX9_lengthOfKey_1 (by decide) ⟨by decide, by decide⟩ ?_
  refine a_lushr dX9_lengthOfKey_3 ?_
  refine a_l2i dX9_lengthOfKey_4 ?_
  exact a_iret dX9_lengthOfKey_5 rfl hy
theorem c_Words_letterOfKey {d : Nat} (d0 : Nat) (hd : d0 < d) {p0 : Int} {p2 : Int} {h : AH} {Q : Int → AH → Prop} (hy : Call d0 M_Words_lengthOfKey [vL p0] h (fun r2 h1 => inI (r2 - 1) ∧ (inI ((r2 - 1) - p2) ∧ (inI (5 * ((r2 - 1) - p2)) ∧ Q (iand (l2i (lushr p0 (5 * ((r2 - 1) - p2)))) 31) h1)))) : Call d M_Words_letterOfKey [vL p0, vI p2] h Q := by
  refine ⟨d0, hd, Big.of rfl (Nat.le_of_ble_eq_true rfl) ?_⟩
  show AW d0 M_Words_letterOfKey Q 0 [some (vL p0), none, some (vI p2)] [] h
  refine a_lload_n dX9_letterOfKey_0 rfl ?_
  refine a_iconst (x := 5) dX9_letterOfKey_1 rfl ⟨by decide, by decide⟩ ?_
  refine a_lload_n dX9_letterOfKey_2 rfl ?_
  refine a_callSi (as := [vL p0]) (st := [vI 5, vL p0]) dX9_letterOfKey_3 lk_Words_38 rfl rfl (Nat.le_of_ble_eq_true rfl) (Or.inl rfl) (Call.mono hy (fun r2 h1 _ hy => ?_))
  refine a_iconst (x := 1) dX9_letterOfKey_6 rfl ⟨by decide, by decide⟩ ?_
  obtain ⟨c3, hy⟩ := hy
  refine a_isub dX9_letterOfKey_7 c3 ?_
  refine a_iload_n dX9_letterOfKey_8 rfl ?_
  obtain ⟨c4, hy⟩ := hy
  refine a_isub dX9_letterOfKey_9 c4 ?_
  obtain ⟨c5, hy⟩ := hy
  refine a_imul dX9_letterOfKey_10 c5 ?_
  refine a_lushr dX9_letterOfKey_11 ?_
  refine a_l2i dX9_letterOfKey_12 ?_
  refine a_bipush (x := 31) dX9_letterOfKey_13 (by decide) ⟨by decide, by decide⟩ ?_
  refine a_iand dX9_letterOfKey_15 ?_
  exact a_iret dX9_letterOfKey_16 rfl hy
theorem c_Words_setBarred {d : Nat} (d0 : Nat) (hd : d0 < d) {p1 : Int} {p2 : Int} {h : AH} {Q : Int → AH → Prop} (hy : inb p1 40 ∧ (((h.1 19 p1) ≠ p2 → ((p2 = 0 ∨ p2 = 1) ∧ (Call d0 M_Words_findUsed [vR 2 (-1)] (wI h 19 p1 p2) (fun _ h3 => Q 1 h3)))) ∧ ((h.1 19 p1) = p2 → Q 0 h))) : Call d M_Words_setBarred [vR 2 (-1), vI p1, vI p2] h Q := by
  refine ⟨d0, hd, Big.of rfl (Nat.le_of_ble_eq_true rfl) ?_⟩
  show AW d0 M_Words_setBarred Q 0 [some (vR 2 (-1)), some (vI p1), some (vI p2)] [] h
  refine a_aload_n dX9_setBarred_0 rfl ?_
  refine a_getR dX9_setBarred_1 fl_Words_30 sk_2 rfl ?_
  refine a_iload_n dX9_setBarred_4 rfl ?_
  obtain ⟨c1, hy⟩ := hy
  refine a_zald' dX9_setBarred_5 sk_19 c1 (rfl) ?_
  refine a_iload_n dX9_setBarred_6 rfl ?_
  refine a_icmp_ne (tgt := 12) dX9_setBarred_7 (by decide) (fun c => ?_) (fun c => ?_)
  · have hy := hy.1 c
    refine a_aload_n dX9_setBarred_12 rfl ?_
    refine a_getR dX9_setBarred_13 fl_Words_30 sk_2 rfl ?_
    refine a_iload_n dX9_setBarred_16 rfl ?_
    refine a_iload_n dX9_setBarred_17 rfl ?_
    obtain ⟨c2, hy⟩ := hy
    refine a_zast dX9_setBarred_18 sk_19 c1 c2 ?_
    refine a_aload_n dX9_setBarred_19 rfl ?_
    refine a_callVv (as := []) (st := []) dX9_setBarred_20 lk_Words_57 sk_2 rfl rfl (Nat.le_of_ble_eq_true rfl) rfl (Call.mono hy (fun _ h3 _ hy => ?_))
    refine a_iconst (x := 1) dX9_setBarred_23 rfl ⟨by decide, by decide⟩ ?_
    exact a_zret dX9_setBarred_24 rfl (Or.inr rfl) hy
  · have hy := hy.2 (Decidable.not_not.mp c)
    refine a_iconst (x := 0) dX9_setBarred_10 rfl ⟨by decide, by decide⟩ ?_
    exact a_zret dX9_setBarred_11 rfl (Or.inl rfl) hy
theorem c_Words_setKnown {d : Nat} (d0 : Nat) (hd : d0 < d) {p1 : Int} {p2 : Int} {h : AH} {Q : Int → AH → Prop} (hy : inb p1 40 ∧ (inI ((h.1 2 9) + 1) ∧ Q 0 (wI (wI h 17 p1 p2) 2 9 ((h.1 2 9) + 1)))) : Call d M_Words_setKnown [vR 2 (-1), vI p1, vI p2] h Q := by
  refine ⟨d0, hd, Big.of rfl (Nat.le_of_ble_eq_true rfl) ?_⟩
  show AW d0 M_Words_setKnown Q 0 [some (vR 2 (-1)), some (vI p1), some (vI p2)] [] h
  refine a_aload_n dX9_setKnown_0 rfl ?_
  refine a_getR dX9_setKnown_1 fl_Words_24 sk_2 rfl ?_
  refine a_iload_n dX9_setKnown_4 rfl ?_
  refine a_iload_n dX9_setKnown_5 rfl ?_
  obtain ⟨c1, hy⟩ := hy
  refine a_iast dX9_setKnown_6 sk_17 c1 ?_
  refine a_aload_n dX9_setKnown_7 rfl ?_
  refine a_dupR dX9_setKnown_8 ?_
  refine a_getI' (kz := 9) dX9_setKnown_9 fl_Words_60 sk_2 rfl rfl (rI_ne (by decide)) ?_
  refine a_iconst (x := 1) dX9_setKnown_12 rfl ⟨by decide, by decide⟩ ?_
  obtain ⟨c2, hy⟩ := hy
  refine a_iadd dX9_setKnown_13 c2 ?_
  refine a_putI (kz := 9) dX9_setKnown_14 fp_Words_60 sk_2 rfl rfl ?_
  exact a_vret dX9_setKnown_17 rfl hy
theorem c_Words_setSpoken {d : Nat} (d0 : Nat) (hd : d0 < d) {p1 : Int} {h : AH} {Q : Int → AH → Prop} (hy : Call d0 M_Words_findUsed [vR 2 (-1)] (wI h 2 7 p1) (fun _ h1 => Q 0 h1)) : Call d M_Words_setSpoken [vR 2 (-1), vI p1] h Q := by
  refine ⟨d0, hd, Big.of rfl (Nat.le_of_ble_eq_true rfl) ?_⟩
  show AW d0 M_Words_setSpoken Q 0 [some (vR 2 (-1)), some (vI p1)] [] h
  refine a_aload_n dX9_setSpoken_0 rfl ?_
  refine a_iload_n dX9_setSpoken_1 rfl ?_
  refine a_putI (kz := 7) dX9_setSpoken_2 fp_Words_34 sk_2 rfl rfl ?_
  refine a_aload_n dX9_setSpoken_5 rfl ?_
  refine a_callVv (as := []) (st := []) dX9_setSpoken_6 lk_Words_57 sk_2 rfl rfl (Nat.le_of_ble_eq_true rfl) rfl (Call.mono hy (fun _ h1 _ hy => ?_))
  exact a_vret dX9_setSpoken_9 rfl hy
theorem c_Words_takeLast {d : Nat} (d0 : Nat) (hd : d0 < d)  {h : AH} {Q : Int → AH → Prop} (hy : (((h.1 2 6) ≠ 0 → (inI ((h.1 2 6) - 1) ∧ (Call d0 M_Words_findUsed [vR 2 (-1)] (wI h 2 6 ((h.1 2 6) - 1)) (fun _ h2 => inb (h2.1 2 6) 40 ∧ Q (h2.1 15 (h2.1 2 6)) h2)))) ∧ ((h.1 2 6) = 0 → Q (-1) h))) : Call d M_Words_takeLast [vR 2 (-1)] h Q := by
  refine ⟨d0, hd, Big.of rfl (Nat.le_of_ble_eq_true rfl) ?_⟩
  show AW d0 M_Words_takeLast Q 0 [some (vR 2 (-1))] [] h
  refine a_aload_n dX9_takeLast_0 rfl ?_
  refine a_getI' (kz := 6) dX9_takeLast_1 fl_Words_42 sk_2 rfl rfl (rfl) ?_
  refine a_if_ne (tgt := 9) dX9_takeLast_4 (by decide) (fun c => ?_) (fun c => ?_)
  · have hy := hy.1 c
    refine a_aload_n dX9_takeLast_9 rfl ?_
    refine a_dupR dX9_takeLast_10 ?_
    refine a_getI' (kz := 6) dX9_takeLast_11 fl_Words_42 sk_2 rfl rfl (rfl) ?_
    refine a_iconst (x := 1) dX9_takeLast_14 rfl ⟨by decide, by decide⟩ ?_
    obtain ⟨c1, hy⟩ := hy
    refine a_isub dX9_takeLast_15 c1 ?_
    refine a_putI (kz := 6) dX9_takeLast_16 fp_Words_42 sk_2 rfl rfl ?_
    refine a_aload_n dX9_takeLast_19 rfl ?_
    refine a_callVv (as := []) (st := []) dX9_takeLast_20 lk_Words_57 sk_2 rfl rfl (Nat.le_of_ble_eq_true rfl) rfl (Call.mono hy (fun _ h2 _ hy => ?_))
    refine a_aload_n dX9_takeLast_23 rfl ?_
    refine a_getR dX9_takeLast_24 fl_Words_16 sk_2 rfl ?_
    refine a_aload_n dX9_takeLast_27 rfl ?_
    refine a_getI' (kz := 6) dX9_takeLast_28 fl_Words_42 sk_2 rfl rfl (rfl) ?_
    obtain ⟨c3, hy⟩ := hy
    refine a_iald' dX9_takeLast_31 sk_15 c3 (rfl) ?_
    exact a_iret dX9_takeLast_32 rfl hy
  · have hy := hy.2 (Decidable.not_not.mp c)
    refine a_iconst (x := (-1)) dX9_takeLast_7 rfl ⟨by decide, by decide⟩ ?_
    exact a_iret dX9_takeLast_8 rfl hy
theorem c_Tape_byteAt {d : Nat} (d0 : Nat) (hd : d0 < d) {p1 : Int} {h : AH} {Q : Int → AH → Prop} (hy : ((p1 < 0 → Q (-1) h) ∧ (0 ≤ p1 → (((h.1 1 2) ≤ p1 → Q (-1) h) ∧ (p1 < (h.1 1 2) → ((200 ≤ p1 → Q (-1) h) ∧ (p1 < 200 → (inb p1 200 ∧ Q (h.1 13 p1) h)))))))) : Call d M_Tape_byteAt [vR 1 (-1), vI p1] h Q := by
  refine ⟨d0, hd, Big.of rfl (Nat.le_of_ble_eq_true rfl) ?_⟩
  show AW d0 M_Tape_byteAt Q 0 [some (vR 1 (-1)), some (vI p1)] [] h
  refine a_iload_n dX6_byteAt_0 rfl ?_
  refine a_if_lt (tgt := 28) dX6_byteAt_1 (by decide) (fun c => ?_) (fun c => ?_)
  · have hy := hy.1 c
    refine a_iconst (x := (-1)) dX6_byteAt_28 rfl ⟨by decide, by decide⟩ ?_
    exact a_iret dX6_byteAt_29 rfl hy
  · have hy := hy.2 (Int.not_lt.mp c)
    refine a_iload_n dX6_byteAt_4 rfl ?_
    refine a_aload_n dX6_byteAt_5 rfl ?_
    refine a_getI' (kz := 2) dX6_byteAt_6 fl_Tape_19 sk_1 rfl rfl (rfl) ?_
    refine a_icmp_ge (tgt := 28) dX6_byteAt_9 (by decide) (fun c => ?_) (fun c => ?_)
    · have hy := hy.1 c
      refine a_iconst (x := (-1)) dX6_byteAt_28 rfl ⟨by decide, by decide⟩ ?_
      exact a_iret dX6_byteAt_29 rfl hy
    · have hy := hy.2 (Int.not_le.mp c)
      refine a_iload_n dX6_byteAt_12 rfl ?_
      refine a_sipush (x := 200) dX6_byteAt_13 (by decide) ⟨by decide, by decide⟩ ?_
      refine a_icmp_ge (tgt := 28) dX6_byteAt_16 (by decide) (fun c => ?_) (fun c => ?_)
      · have hy := hy.1 c
        refine a_iconst (x := (-1)) dX6_byteAt_28 rfl ⟨by decide, by decide⟩ ?_
        exact a_iret dX6_byteAt_29 rfl hy
      · have hy := hy.2 (Int.not_le.mp c)
        refine a_aload_n dX6_byteAt_19 rfl ?_
        refine a_getR dX6_byteAt_20 fl_Tape_11 sk_1 rfl ?_
        refine a_iload_n dX6_byteAt_23 rfl ?_
        obtain ⟨c1, hy⟩ := hy
        refine a_iald' dX6_byteAt_24 sk_13 c1 (rfl) ?_
        refine a_goto (tgt := 29) dX6_byteAt_25 (by decide) ?_
        exact a_iret dX6_byteAt_29 rfl hy
theorem c_Tape_hasRoom {d : Nat} (d0 : Nat) (hd : d0 < d)  {h : AH} {Q : Int → AH → Prop} (hy : inI ((h.1 1 1) + 20) ∧ ((200 < ((h.1 1 1) + 20) → Q 0 h) ∧ (((h.1 1 1) + 20) ≤ 200 → Q 1 h))) : Call d M_Tape_hasRoom [vR 1 (-1)] h Q := by
  refine ⟨d0, hd, Big.of rfl (Nat.le_of_ble_eq_true rfl) ?_⟩
  show AW d0 M_Tape_hasRoom Q 0 [some (vR 1 (-1))] [] h
  refine a_aload_n dX6_hasRoom_0 rfl ?_
  refine a_getI' (kz := 1) dX6_hasRoom_1 fl_Tape_15 sk_1 rfl rfl (rfl) ?_
  refine a_bipush (x := 20) dX6_hasRoom_4 (by decide) ⟨by decide, by decide⟩ ?_
  obtain ⟨c1, hy⟩ := hy
  refine a_iadd dX6_hasRoom_6 c1 ?_
  refine a_sipush (x := 200) dX6_hasRoom_7 (by decide) ⟨by decide, by decide⟩ ?_
  refine a_icmp_gt (tgt := 17) dX6_hasRoom_10 (by decide) (fun c => ?_) (fun c => ?_)
  · have hy := hy.1 c
    refine a_iconst (x := 0) dX6_hasRoom_17 rfl ⟨by decide, by decide⟩ ?_
    exact a_zret dX6_hasRoom_18 rfl (Or.inl rfl) hy
  · have hy := hy.2 (Int.not_lt.mp c)
    refine a_iconst (x := 1) dX6_hasRoom_13 rfl ⟨by decide, by decide⟩ ?_
    refine a_goto (tgt := 18) dX6_hasRoom_14 (by decide) ?_
    exact a_zret dX6_hasRoom_18 rfl (Or.inr rfl) hy
def A_Tape_isAllLetters_2 (d : Nat) (Q : Int → AH → Prop) (v1 : Int) (h : AH) : Prop := AW d M_Tape_isAllLetters Q 2 [some (vR 1 (-1)), some (vI v1)] [] h
theorem s_Tape_isAllLetters_2 {d : Nat} {Q : Int → AH → Prop} {v1 : Int} {h : AH} (hy : (((h.1 1 2) ≤ v1 → Q 1 h) ∧ (v1 < (h.1 1 2) → (Call d M_Tape_isLetterAt [vR 1 (-1), vI v1] h (fun r2 h1 => ((r2 ≠ 0 → (inI (v1 + 1) ∧ A_Tape_isAllLetters_2 d Q (v1 + 1) h1)) ∧ (r2 = 0 → Q 0 h1))))))) : A_Tape_isAllLetters_2 d Q v1 h := by
  show AW d M_Tape_isAllLetters Q 2 [some (vR 1 (-1)), some (vI v1)] [] h
  refine a_iload_n dX6_isAllLetters_2 rfl ?_
  refine a_aload_n dX6_isAllLetters_3 rfl ?_
  refine a_getI' (kz := 2) dX6_isAllLetters_4 fl_Tape_19 sk_1 rfl rfl (rfl) ?_
  refine a_icmp_ge (tgt := 26) dX6_isAllLetters_7 (by decide) (fun c => ?_) (fun c => ?_)
  · have hy := hy.1 c
    refine a_iconst (x := 1) dX6_isAllLetters_26 rfl ⟨by decide, by decide⟩ ?_
    exact a_zret dX6_isAllLetters_27 rfl (Or.inr rfl) hy
  · have hy := hy.2 (Int.not_le.mp c)
    refine a_aload_n dX6_isAllLetters_10 rfl ?_
    refine a_iload_n dX6_isAllLetters_11 rfl ?_
    refine a_callVi (as := [vI v1]) (st := []) dX6_isAllLetters_12 lk_Tape_26 sk_1 rfl rfl (Nat.le_of_ble_eq_true rfl) (Or.inr rfl) (Call.mono hy (fun r2 h1 _ hy => ?_))
    refine a_if_ne (tgt := 20) dX6_isAllLetters_15 (by decide) (fun c => ?_) (fun c => ?_)
    · have hy := hy.1 c
      obtain ⟨c3, hy⟩ := hy
      refine a_iinc (y := v1 + 1) (ls2 := [some (vR 1 (-1)), some (vI (v1 + 1))]) dX6_isAllLetters_20 rfl rfl c3 rfl ?_
      refine a_goto (tgt := 2) dX6_isAllLetters_23 (by decide) ?_
      exact hy
    · have hy := hy.2 (Decidable.not_not.mp c)
      refine a_iconst (x := 0) dX6_isAllLetters_18 rfl ⟨by decide, by decide⟩ ?_
      exact a_zret dX6_isAllLetters_19 rfl (Or.inl rfl) hy
theorem c_Tape_isAllLetters {d : Nat} (d0 : Nat) (hd : d0 < d)  {h : AH} {Q : Int → AH → Prop} (hy : A_Tape_isAllLetters_2 d0 Q 0 h) : Call d M_Tape_isAllLetters [vR 1 (-1)] h Q := by
  refine ⟨d0, hd, Big.of rfl (Nat.le_of_ble_eq_true rfl) ?_⟩
  show AW d0 M_Tape_isAllLetters Q 0 [some (vR 1 (-1)), none] [] h
  refine a_iconst (x := 0) dX6_isAllLetters_0 rfl ⟨by decide, by decide⟩ ?_
  refine a_istore_n (i := 1) (ls2 := [some (vR 1 (-1)), some (vI 0)]) dX6_isAllLetters_1 rfl (Nat.le_of_ble_eq_true rfl) rfl ?_
  exact hy
theorem c_Tape_isLetterAt {d : Nat} (d0 : Nat) (hd : d0 < d) {p1 : Int} {h : AH} {Q : Int → AH → Prop} (hy : Call d0 M_Tape_byteAt [vR 1 (-1), vI p1] h (fun r2 h1 => ((r2 < 97 → Q 0 h1) ∧ (97 ≤ r2 → (Call d0 M_Tape_byteAt [vR 1 (-1), vI p1] h1 (fun r4 h3 => ((122 < r4 → Q 0 h3) ∧ (r4 ≤ 122 → Q 1 h3)))))))) : Call d M_Tape_isLetterAt [vR 1 (-1), vI p1] h Q := by
  refine ⟨d0, hd, Big.of rfl (Nat.le_of_ble_eq_true rfl) ?_⟩
  show AW d0 M_Tape_isLetterAt Q 0 [some (vR 1 (-1)), some (vI p1)] [] h
  refine a_aload_n dX6_isLetterAt_0 rfl ?_
  refine a_iload_n dX6_isLetterAt_1 rfl ?_
  refine a_callVi (as := [vI p1]) (st := []) dX6_isLetterAt_2 lk_Tape_22 sk_1 rfl rfl (Nat.le_of_ble_eq_true rfl) (Or.inl rfl) (Call.mono hy (fun r2 h1 _ hy => ?_))
  refine a_bipush (x := 97) dX6_isLetterAt_5 (by decide) ⟨by decide, by decide⟩ ?_
  refine a_icmp_lt (tgt := 24) dX6_isLetterAt_7 (by decide) (fun c => ?_) (fun c => ?_)
  · have hy := hy.1 c
    refine a_iconst (x := 0) dX6_isLetterAt_24 rfl ⟨by decide, by decide⟩ ?_
    exact a_zret dX6_isLetterAt_25 rfl (Or.inl rfl) hy
  · have hy := hy.2 (Int.not_lt.mp c)
    refine a_aload_n dX6_isLetterAt_10 rfl ?_
    refine a_iload_n dX6_isLetterAt_11 rfl ?_
    refine a_callVi (as := [vI p1]) (st := []) dX6_isLetterAt_12 lk_Tape_22 sk_1 rfl rfl (Nat.le_of_ble_eq_true rfl) (Or.inl rfl) (Call.mono hy (fun r4 h3 _ hy => ?_))
    refine a_bipush (x := 122) dX6_isLetterAt_15 (by decide) ⟨by decide, by decide⟩ ?_
    refine a_icmp_gt (tgt := 24) dX6_isLetterAt_17 (by decide) (fun c => ?_) (fun c => ?_)
    · have hy := hy.1 c
      refine a_iconst (x := 0) dX6_isLetterAt_24 rfl ⟨by decide, by decide⟩ ?_
      exact a_zret dX6_isLetterAt_25 rfl (Or.inl rfl) hy
    · have hy := hy.2 (Int.not_lt.mp c)
      refine a_iconst (x := 1) dX6_isLetterAt_20 rfl ⟨by decide, by decide⟩ ?_
      refine a_goto (tgt := 25) dX6_isLetterAt_21 (by decide) ?_
      exact a_zret dX6_isLetterAt_25 rfl (Or.inr rfl) hy
def A_Tape_isRubbedText_2 (d : Nat) (Q : Int → AH → Prop) (v1 : Int) (h : AH) : Prop := AW d M_Tape_isRubbedText Q 2 [some (vR 1 (-1)), some (vI v1)] [] h
theorem s_Tape_isRubbedText_2 {d : Nat} {Q : Int → AH → Prop} {v1 : Int} {h : AH} (hy : (((h.1 1 2) ≤ v1 → Q 1 h) ∧ (v1 < (h.1 1 2) → (Call d M_Tape_isLetterAt [vR 1 (-1), vI v1] h (fun r2 h1 => ((r2 ≠ 0 → (inI (v1 + 1) ∧ A_Tape_isRubbedText_2 d Q (v1 + 1) h1)) ∧ (r2 = 0 → (Call d M_Tape_byteAt [vR 1 (-1), vI v1] h1 (fun r5 h4 => ((r5 = 63 → (inI (v1 + 1) ∧ A_Tape_isRubbedText_2 d Q (v1 + 1) h4)) ∧ (r5 ≠ 63 → Q 0 h4))))))))))) : A_Tape_isRubbedText_2 d Q v1 h := by
  show AW d M_Tape_isRubbedText Q 2 [some (vR 1 (-1)), some (vI v1)] [] h
  refine a_iload_n dX6_isRubbedText_2 rfl ?_
  refine a_aload_n dX6_isRubbedText_3 rfl ?_
  refine a_getI' (kz := 2) dX6_isRubbedText_4 fl_Tape_19 sk_1 rfl rfl (rfl) ?_
  refine a_icmp_ge (tgt := 36) dX6_isRubbedText_7 (by decide) (fun c => ?_) (fun c => ?_)
  · have hy := hy.1 c
    refine a_iconst (x := 1) dX6_isRubbedText_36 rfl ⟨by decide, by decide⟩ ?_
    exact a_zret dX6_isRubbedText_37 rfl (Or.inr rfl) hy
  · have hy := hy.2 (Int.not_le.mp c)
    refine a_aload_n dX6_isRubbedText_10 rfl ?_
    refine a_iload_n dX6_isRubbedText_11 rfl ?_
    refine a_callVi (as := [vI v1]) (st := []) dX6_isRubbedText_12 lk_Tape_26 sk_1 rfl rfl (Nat.le_of_ble_eq_true rfl) (Or.inr rfl) (Call.mono hy (fun r2 h1 _ hy => ?_))
    refine a_if_ne (tgt := 30) dX6_isRubbedText_15 (by decide) (fun c => ?_) (fun c => ?_)
    · have hy := hy.1 c
      obtain ⟨c3, hy⟩ := hy
      refine a_iinc (y := v1 + 1) (ls2 := [some (vR 1 (-1)), some (vI (v1 + 1))]) dX6_isRubbedText_30 rfl rfl c3 rfl ?_
      refine a_goto (tgt := 2) dX6_isRubbedText_33 (by decide) ?_
      exact hy
    · have hy := hy.2 (Decidable.not_not.mp c)
      refine a_aload_n dX6_isRubbedText_18 rfl ?_
      refine a_iload_n dX6_isRubbedText_19 rfl ?_
      refine a_callVi (as := [vI v1]) (st := []) dX6_isRubbedText_20 lk_Tape_22 sk_1 rfl rfl (Nat.le_of_ble_eq_true rfl) (Or.inl rfl) (Call.mono hy (fun r5 h4 _ hy => ?_))
      refine a_bipush (x := 63) dX6_isRubbedText_23 (by decide) ⟨by decide, by decide⟩ ?_
      refine a_icmp_eq (tgt := 30) dX6_isRubbedText_25 (by decide) (fun c => ?_) (fun c => ?_)
      · have hy := hy.1 c
        obtain ⟨c6, hy⟩ := hy
        refine a_iinc (y := v1 + 1) (ls2 := [some (vR 1 (-1)), some (vI (v1 + 1))]) dX6_isRubbedText_30 rfl rfl c6 rfl ?_
        refine a_goto (tgt := 2) dX6_isRubbedText_33 (by decide) ?_
        exact hy
      · have hy := hy.2 (c)
        refine a_iconst (x := 0) dX6_isRubbedText_28 rfl ⟨by decide, by decide⟩ ?_
        exact a_zret dX6_isRubbedText_29 rfl (Or.inl rfl) hy
theorem c_Tape_isRubbedText {d : Nat} (d0 : Nat) (hd : d0 < d)  {h : AH} {Q : Int → AH → Prop} (hy : A_Tape_isRubbedText_2 d0 Q 0 h) : Call d M_Tape_isRubbedText [vR 1 (-1)] h Q := by
  refine ⟨d0, hd, Big.of rfl (Nat.le_of_ble_eq_true rfl) ?_⟩
  show AW d0 M_Tape_isRubbedText Q 0 [some (vR 1 (-1)), none] [] h
  refine a_iconst (x := 0) dX6_isRubbedText_0 rfl ⟨by decide, by decide⟩ ?_
  refine a_istore_n (i := 1) (ls2 := [some (vR 1 (-1)), some (vI 0)]) dX6_isRubbedText_1 rfl (Nat.le_of_ble_eq_true rfl) rfl ?_
  exact hy
theorem c_Tape_letterAt {d : Nat} (d0 : Nat) (hd : d0 < d) {p1 : Int} {h : AH} {Q : Int → AH → Prop} (hy : Call d0 M_Tape_byteAt [vR 1 (-1), vI p1] h (fun r2 h1 => inI (r2 - 97) ∧ Q (r2 - 97) h1)) : Call d M_Tape_letterAt [vR 1 (-1), vI p1] h Q := by
  refine ⟨d0, hd, Big.of rfl (Nat.le_of_ble_eq_true rfl) ?_⟩
  show AW d0 M_Tape_letterAt Q 0 [some (vR 1 (-1)), some (vI p1)] [] h
  refine a_aload_n dX6_letterAt_0 rfl ?_
  refine a_iload_n dX6_letterAt_1 rfl ?_
  refine a_callVi (as := [vI p1]) (st := []) dX6_letterAt_2 lk_Tape_22 sk_1 rfl rfl (Nat.le_of_ble_eq_true rfl) (Or.inl rfl) (Call.mono hy (fun r2 h1 _ hy => ?_))
  refine a_bipush (x := 97) dX6_letterAt_5 (by decide) ⟨by decide, by decide⟩ ?_
  obtain ⟨c3, hy⟩ := hy
  refine a_isub dX6_letterAt_7 c3 ?_
  exact a_iret dX6_letterAt_8 rfl hy
def A_Tape_numberAt_4 (d : Nat) (Q : Int → AH → Prop) (p1 : Int) (v2 : Int) (v3 : Int) (h : AH) : Prop := AW d M_Tape_numberAt Q 4 [some (vR 1 (-1)), some (vI p1), some (vI v2), some (vI v3)] [] h
theorem s_Tape_numberAt_4 {d : Nat} {Q : Int → AH → Prop} {p1 : Int} {v2 : Int} {v3 : Int} {h : AH} (hy : ((4 ≤ v3 → Q v2 h) ∧ (v3 < 4 → (inI (4 * p1) ∧ (inI ((4 * p1) + v3) ∧ (Call d M_Tape_byteAt [vR 1 (-1), vI ((4 * p1) + v3)] h (fun r4 h3 => inI (v3 + 1) ∧ A_Tape_numberAt_4 d Q p1 (ior (ishl v2 8) r4) (v3 + 1) h3))))))) : A_Tape_numberAt_4 d Q p1 v2 v3 h := by
  show AW d M_Tape_numberAt Q 4 [some (vR 1 (-1)), some (vI p1), some (vI v2), some (vI v3)] [] h
  refine a_iload_n dX6_numberAt_4 rfl ?_
  refine a_iconst (x := 4) dX6_numberAt_5 rfl ⟨by decide, by decide⟩ ?_
  refine a_icmp_ge (tgt := 30) dX6_numberAt_6 (by decide) (fun c => ?_) (fun c => ?_)
  · have hy := hy.1 c
    refine a_iload_n dX6_numberAt_30 rfl ?_
    exact a_iret dX6_numberAt_31 rfl hy
  · have hy := hy.2 (Int.not_le.mp c)
    refine a_iload_n dX6_numberAt_9 rfl ?_
    refine a_bipush (x := 8) dX6_numberAt_10 (by decide) ⟨by decide, by decide⟩ ?_
    refine a_ishl dX6_numberAt_12 ?_
    refine a_aload_n dX6_numberAt_13 rfl ?_
    refine a_iconst (x := 4) dX6_numberAt_14 rfl ⟨by decide, by decide⟩ ?_
    refine a_iload_n dX6_numberAt_15 rfl ?_
    obtain ⟨c1, hy⟩ := hy
    refine a_imul dX6_numberAt_16 c1 ?_
    refine a_iload_n dX6_numberAt_17 rfl ?_
    obtain ⟨c2, hy⟩ := hy
    refine a_iadd dX6_numberAt_18 c2 ?_
    refine a_callVi (as := [vI ((4 * p1) + v3)]) (st := [vI (ishl v2 8)]) dX6_numberAt_19 lk_Tape_22 sk_1 rfl rfl (Nat.le_of_ble_eq_true rfl) (Or.inl rfl) (Call.mono hy (fun r4 h3 _ hy => ?_))
    refine a_ior dX6_numberAt_22 ?_
    refine a_istore_n (i := 2) (ls2 := [some (vR 1 (-1)), some (vI p1), some (vI (ior (ishl v2 8) r4)), some (vI v3)]) dX6_numberAt_23 rfl (Nat.le_of_ble_eq_true rfl) rfl ?_
    obtain ⟨c5, hy⟩ := hy
    refine a_iinc (y := v3 + 1) (ls2 := [some (vR 1 (-1)), some (vI p1), some (vI (ior (ishl v2 8) r4)), some (vI (v3 + 1))]) dX6_numberAt_24 rfl rfl c5 rfl ?_
    refine a_goto (tgt := 4) dX6_numberAt_27 (by decide) ?_
    exact hy
theorem c_Tape_numberAt {d : Nat} (d0 : Nat) (hd : d0 < d) {p1 : Int} {h : AH} {Q : Int → AH → Prop} (hy : A_Tape_numberAt_4 d0 Q p1 0 0 h) : Call d M_Tape_numberAt [vR 1 (-1), vI p1] h Q := by
  refine ⟨d0, hd, Big.of rfl (Nat.le_of_ble_eq_true rfl) ?_⟩
  show AW d0 M_Tape_numberAt Q 0 [some (vR 1 (-1)), some (vI p1), none, none] [] h
  refine a_iconst (x := 0) dX6_numberAt_0 rfl ⟨by decide, by decide⟩ ?_
  refine a_istore_n (i := 2) (ls2 := [some (vR 1 (-1)), some (vI p1), some (vI 0), none]) dX6_numberAt_1 rfl (Nat.le_of_ble_eq_true rfl) rfl ?_
  refine a_iconst (x := 0) dX6_numberAt_2 rfl ⟨by decide, by decide⟩ ?_
  refine a_istore_n (i := 3) (ls2 := [some (vR 1 (-1)), some (vI p1), some (vI 0), some (vI 0)]) dX6_numberAt_3 rfl (Nat.le_of_ble_eq_true rfl) rfl ?_
  exact hy
def A_Tape_putNumber_3 (d : Nat) (Q : Int → AH → Prop) (p1 : Int) (v2 : Int) (h : AH) : Prop := AW d M_Tape_putNumber Q 3 [some (vR 1 (-1)), some (vI p1), some (vI v2)] [] h
theorem s_Tape_putNumber_3 {d : Nat} {Q : Int → AH → Prop} {p1 : Int} {v2 : Int} {h : AH} (hy : ((v2 < 0 → Q 0 h) ∧ (0 ≤ v2 → ((200 ≤ (h.1 1 1) → (inI (v2 - 8) ∧ A_Tape_putNumber_3 d Q p1 (v2 - 8) h)) ∧ ((h.1 1 1) < 200 → (inb (h.1 1 1) 200 ∧ (inI ((h.1 1 1) + 1) ∧ (inI (v2 - 8) ∧ A_Tape_putNumber_3 d Q p1 (v2 - 8) (wI (wI h 13 (h.1 1 1) (iand (iushr p1 v2) 255)) 1 1 ((h.1 1 1) + 1)))))))))) : A_Tape_putNumber_3 d Q p1 v2 h := by
  show AW d M_Tape_putNumber Q 3 [some (vR 1 (-1)), some (vI p1), some (vI v2)] [] h
  refine a_iload_n dX6_putNumber_3 rfl ?_
  refine a_if_lt (tgt := 49) dX6_putNumber_4 (by decide) (fun c => ?_) (fun c => ?_)
  · have hy := hy.1 c
    exact a_vret dX6_putNumber_49 rfl hy
  · have hy := hy.2 (Int.not_lt.mp c)
    refine a_aload_n dX6_putNumber_7 rfl ?_
    refine a_getI' (kz := 1) dX6_putNumber_8 fl_Tape_15 sk_1 rfl rfl (rfl) ?_
    refine a_sipush (x := 200) dX6_putNumber_11 (by decide) ⟨by decide, by decide⟩ ?_
    refine a_icmp_ge (tgt := 43) dX6_putNumber_14 (by decide) (fun c => ?_) (fun c => ?_)
    · have hy := hy.1 c
      obtain ⟨c1, hy⟩ := hy
      refine a_iinc (y := v2 - 8) (ls2 := [some (vR 1 (-1)), some (vI p1), some (vI (v2 - 8))]) dX6_putNumber_43 rfl (by omega) c1 rfl ?_
      refine a_goto (tgt := 3) dX6_putNumber_46 (by decide) ?_
      exact hy
    · have hy := hy.2 (Int.not_le.mp c)
      refine a_aload_n dX6_putNumber_17 rfl ?_
      refine a_getR dX6_putNumber_18 fl_Tape_11 sk_1 rfl ?_
      refine a_aload_n dX6_putNumber_21 rfl ?_
      refine a_getI' (kz := 1) dX6_putNumber_22 fl_Tape_15 sk_1 rfl rfl (rfl) ?_
      refine a_iload_n dX6_putNumber_25 rfl ?_
      refine a_iload_n dX6_putNumber_26 rfl ?_
      refine a_iushr dX6_putNumber_27 ?_
      refine a_sipush (x := 255) dX6_putNumber_28 (by decide) ⟨by decide, by decide⟩ ?_
      refine a_iand dX6_putNumber_31 ?_
      obtain ⟨c2, hy⟩ := hy
      refine a_iast dX6_putNumber_32 sk_13 c2 ?_
      refine a_aload_n dX6_putNumber_33 rfl ?_
      refine a_dupR dX6_putNumber_34 ?_
      refine a_getI' (kz := 1) dX6_putNumber_35 fl_Tape_15 sk_1 rfl rfl (rI_ne (by decide)) ?_
      refine a_iconst (x := 1) dX6_putNumber_38 rfl ⟨by decide, by decide⟩ ?_
      obtain ⟨c3, hy⟩ := hy
      refine a_iadd dX6_putNumber_39 c3 ?_
      refine a_putI (kz := 1) dX6_putNumber_40 fp_Tape_15 sk_1 rfl rfl ?_
      obtain ⟨c4, hy⟩ := hy
      refine a_iinc (y := v2 - 8) (ls2 := [some (vR 1 (-1)), some (vI p1), some (vI (v2 - 8))]) dX6_putNumber_43 rfl (by omega) c4 rfl ?_
      refine a_goto (tgt := 3) dX6_putNumber_46 (by decide) ?_
      exact hy
theorem c_Tape_putNumber {d : Nat} (d0 : Nat) (hd : d0 < d) {p1 : Int} {h : AH} {Q : Int → AH → Prop} (hy : A_Tape_putNumber_3 d0 Q p1 24 h) : Call d M_Tape_putNumber [vR 1 (-1), vI p1] h Q := by
  refine ⟨d0, hd, Big.of rfl (Nat.le_of_ble_eq_true rfl) ?_⟩
  show AW d0 M_Tape_putNumber Q 0 [some (vR 1 (-1)), some (vI p1), none] [] h
  refine a_bipush (x := 24) dX6_putNumber_0 (by decide) ⟨by decide, by decide⟩ ?_
  refine a_istore_n (i := 2) (ls2 := [some (vR 1 (-1)), some (vI p1), some (vI 24)]) dX6_putNumber_2 rfl (Nat.le_of_ble_eq_true rfl) rfl ?_
  exact hy
theorem c_Tape_take {d : Nat} (d0 : Nat) (hd : d0 < d) {p1 : Int} {h : AH} {Q : Int → AH → Prop} (hy : ((p1 < 0 → Q 0 h) ∧ (0 ≤ p1 → ((p1 ≤ (h.1 1 1) → Q 1 (wI (wI h 1 2 p1) 1 1 0)) ∧ ((h.1 1 1) < p1 → Q 0 h))))) : Call d M_Tape_take [vR 1 (-1), vI p1] h Q := by
  refine ⟨d0, hd, Big.of rfl (Nat.le_of_ble_eq_true rfl) ?_⟩
  show AW d0 M_Tape_take Q 0 [some (vR 1 (-1)), some (vI p1)] [] h
  refine a_iload_n dX6_take_0 rfl ?_
  refine a_if_lt (tgt := 12) dX6_take_1 (by decide) (fun c => ?_) (fun c => ?_)
  · have hy := hy.1 c
    refine a_iconst (x := 0) dX6_take_12 rfl ⟨by decide, by decide⟩ ?_
    exact a_zret dX6_take_13 rfl (Or.inl rfl) hy
  · have hy := hy.2 (Int.not_lt.mp c)
    refine a_iload_n dX6_take_4 rfl ?_
    refine a_aload_n dX6_take_5 rfl ?_
    refine a_getI' (kz := 1) dX6_take_6 fl_Tape_15 sk_1 rfl rfl (rfl) ?_
    refine a_icmp_le (tgt := 14) dX6_take_9 (by decide) (fun c => ?_) (fun c => ?_)
    · have hy := hy.1 c
      refine a_aload_n dX6_take_14 rfl ?_
      refine a_iload_n dX6_take_15 rfl ?_
      refine a_putI (kz := 2) dX6_take_16 fp_Tape_19 sk_1 rfl rfl ?_
      refine a_aload_n dX6_take_19 rfl ?_
      refine a_iconst (x := 0) dX6_take_20 rfl ⟨by decide, by decide⟩ ?_
      refine a_putI (kz := 1) dX6_take_21 fp_Tape_15 sk_1 rfl rfl ?_
      refine a_iconst (x := 1) dX6_take_24 rfl ⟨by decide, by decide⟩ ?_
      exact a_zret dX6_take_25 rfl (Or.inr rfl) hy
    · have hy := hy.2 (Int.not_le.mp c)
      refine a_iconst (x := 0) dX6_take_12 rfl ⟨by decide, by decide⟩ ?_
      exact a_zret dX6_take_13 rfl (Or.inl rfl) hy
def A_Tape_takenKey_4 (d : Nat) (Q : Int → AH → Prop) (v1 : Int) (v3 : Int) (h : AH) : Prop := AW d M_Tape_takenKey Q 4 [some (vR 1 (-1)), some (vL v1), none, some (vI v3)] [] h
theorem s_Tape_takenKey_4 {d : Nat} {Q : Int → AH → Prop} {v1 : Int} {v3 : Int} {h : AH} (hy : (((h.1 1 2) ≤ v3 → (Call d M_Words_keyOf [vL v1, vI (h.1 1 2)] h (fun r2 h1 => Q r2 h1))) ∧ (v3 < (h.1 1 2) → (Call d M_Tape_letterAt [vR 1 (-1), vI v3] h (fun r4 h3 => inI (v3 + 1) ∧ A_Tape_takenKey_4 d Q (lor (lshl v1 5) r4) (v3 + 1) h3))))) : A_Tape_takenKey_4 d Q v1 v3 h := by
  show AW d M_Tape_takenKey Q 4 [some (vR 1 (-1)), some (vL v1), none, some (vI v3)] [] h
  refine a_iload_n dX6_takenKey_4 rfl ?_
  refine a_aload_n dX6_takenKey_5 rfl ?_
  refine a_getI' (kz := 2) dX6_takenKey_6 fl_Tape_19 sk_1 rfl rfl (rfl) ?_
  refine a_icmp_ge (tgt := 29) dX6_takenKey_9 (by decide) (fun c => ?_) (fun c => ?_)
  · have hy := hy.1 c
    refine a_lload_n dX6_takenKey_29 rfl ?_
    refine a_aload_n dX6_takenKey_30 rfl ?_
    refine a_getI' (kz := 2) dX6_takenKey_31 fl_Tape_19 sk_1 rfl rfl (rfl) ?_
    refine a_callSl (as := [vL v1, vI (h.1 1 2)]) (st := []) dX6_takenKey_34 lk_Tape_35 rfl rfl (Nat.le_of_ble_eq_true rfl) rfl (Call.mono hy (fun r2 h1 _ hy => ?_))
    exact a_lret dX6_takenKey_37 rfl hy
  · have hy := hy.2 (Int.not_le.mp c)
    refine a_lload_n dX6_takenKey_12 rfl ?_
    refine a_iconst (x := 5) dX6_takenKey_13 rfl ⟨by decide, by decide⟩ ?_
    refine a_lshl dX6_takenKey_14 ?_
    refine a_aload_n dX6_takenKey_15 rfl ?_
    refine a_iload_n dX6_takenKey_16 rfl ?_
    refine a_callVi (as := [vI v3]) (st := [vL (lshl v1 5)]) dX6_takenKey_17 lk_Tape_32 sk_1 rfl rfl (Nat.le_of_ble_eq_true rfl) (Or.inl rfl) (Call.mono hy (fun r4 h3 _ hy => ?_))
    refine a_i2l dX6_takenKey_20 ?_
    refine a_lor dX6_takenKey_21 ?_
    refine a_lstore_n (i := 1) (ls2 := [some (vR 1 (-1)), some (vL (lor (lshl v1 5) r4)), none, some (vI v3)]) dX6_takenKey_22 rfl (Nat.le_of_ble_eq_true rfl) rfl ?_
    obtain ⟨c5, hy⟩ := hy
    refine a_iinc (y := v3 + 1) (ls2 := [some (vR 1 (-1)), some (vL (lor (lshl v1 5) r4)), none, some (vI (v3 + 1))]) dX6_takenKey_23 rfl rfl c5 rfl ?_
    refine a_goto (tgt := 4) dX6_takenKey_26 (by decide) ?_
    exact hy
theorem c_Tape_takenKey {d : Nat} (d0 : Nat) (hd : d0 < d)  {h : AH} {Q : Int → AH → Prop} (hy : A_Tape_takenKey_4 d0 Q 0 0 h) : Call d M_Tape_takenKey [vR 1 (-1)] h Q := by
  refine ⟨d0, hd, Big.of rfl (Nat.le_of_ble_eq_true rfl) ?_⟩
  show AW d0 M_Tape_takenKey Q 0 [some (vR 1 (-1)), none, none, none] [] h
  refine a_lconst (x := 0) dX6_takenKey_0 rfl ⟨by decide, by decide⟩ ?_
  refine a_lstore_n (i := 1) (ls2 := [some (vR 1 (-1)), some (vL 0), none, none]) dX6_takenKey_1 rfl (Nat.le_of_ble_eq_true rfl) rfl ?_
  refine a_iconst (x := 0) dX6_takenKey_2 rfl ⟨by decide, by decide⟩ ?_
  refine a_istore_n (i := 3) (ls2 := [some (vR 1 (-1)), some (vL 0), none, some (vI 0)]) dX6_takenKey_3 rfl (Nat.le_of_ble_eq_true rfl) rfl ?_
  exact hy

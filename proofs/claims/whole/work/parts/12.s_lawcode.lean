theorem c_LawCode_addClause {d : Nat} (d0 : Nat) (hd : d0 < d) {p1 : Int} {p2 : Int} {h : AH} {Q : Int → AH → Prop} (hy : ((12 ≤ (h.1 5 6) → Q 0 h) ∧ ((h.1 5 6) < 12 → (inb (h.1 5 6) 12 ∧ (inI ((h.1 5 6) + 1) ∧ Q 0 (wI (wI (wI h 26 (h.1 5 6) p1) 27 (h.1 5 6) p2) 5 6 ((h.1 5 6) + 1))))))) : Call d M_LawCode_addClause [vR 5 (-1), vI p1, vI p2] h Q := by
  refine ⟨d0, hd, Big.of rfl (Nat.le_of_ble_eq_true rfl) ?_⟩
  show AW d0 M_LawCode_addClause Q 0 [some (vR 5 (-1)), some (vI p1), some (vI p2)] [] h
  refine a_aload_n dX0_addClause_0 rfl ?_
  refine a_getI' (kz := 6) dX0_addClause_1 fl_LawCode_31 sk_5 rfl rfl (rfl) ?_
  refine a_bipush (x := 12) dX0_addClause_4 (by decide) ⟨by decide, by decide⟩ ?_
  refine a_icmp_ge (tgt := 39) dX0_addClause_6 (by decide) (fun c => ?_) (fun c => ?_)
  · have hy := hy.1 c
    exact a_vret dX0_addClause_39 rfl hy
  · have hy := hy.2 (Int.not_le.mp c)
    refine a_aload_n dX0_addClause_9 rfl ?_
    refine a_getR dX0_addClause_10 fl_LawCode_15 sk_5 rfl ?_
    refine a_aload_n dX0_addClause_13 rfl ?_
    refine a_getI' (kz := 6) dX0_addClause_14 fl_LawCode_31 sk_5 rfl rfl (rfl) ?_
    refine a_iload_n dX0_addClause_17 rfl ?_
    obtain ⟨c1, hy⟩ := hy
    refine a_iast dX0_addClause_18 sk_26 c1 ?_
    refine a_aload_n dX0_addClause_19 rfl ?_
    refine a_getR dX0_addClause_20 fl_LawCode_18 sk_5 rfl ?_
    refine a_aload_n dX0_addClause_23 rfl ?_
    refine a_getI' (kz := 6) dX0_addClause_24 fl_LawCode_31 sk_5 rfl rfl (rI_ne (by decide)) ?_
    refine a_iload_n dX0_addClause_27 rfl ?_
    refine a_iast dX0_addClause_28 sk_27 c1 ?_
    refine a_aload_n dX0_addClause_29 rfl ?_
    refine a_dupR dX0_addClause_30 ?_
    refine a_getI' (kz := 6) dX0_addClause_31 fl_LawCode_31 sk_5 rfl rfl ((rI_ne (by decide)).trans (rI_ne (by decide))) ?_
    refine a_iconst (x := 1) dX0_addClause_34 rfl ⟨by decide, by decide⟩ ?_
    obtain ⟨c2, hy⟩ := hy
    refine a_iadd dX0_addClause_35 c2 ?_
    refine a_putI (kz := 6) dX0_addClause_36 fp_LawCode_31 sk_5 rfl rfl ?_
    exact a_vret dX0_addClause_39 rfl hy
theorem c_LawCode_become {d : Nat} (d0 : Nat) (hd : d0 < d)  {h : AH} {Q : Int → AH → Prop} (hy : 1 ≤ d0 ∧ (inI (((cpI (cpI (cpI h 25 20 400) 26 21 12) 27 22 12).1 3 7) + 1) ∧ Q 0 (wI (wI (wI (cpI (cpI (cpI h 25 20 400) 26 21 12) 27 22 12) 3 5 ((cpI (cpI (cpI h 25 20 400) 26 21 12) 27 22 12).1 5 5)) 3 6 ((cpI (cpI (cpI h 25 20 400) 26 21 12) 27 22 12).1 5 6)) 3 7 (((cpI (cpI (cpI h 25 20 400) 26 21 12) 27 22 12).1 3 7) + 1)))) : Call d M_LawCode_become [vR 3 (-1), vR 5 (-1)] h Q := by
  refine ⟨d0, hd, Big.of rfl (Nat.le_of_ble_eq_true rfl) ?_⟩
  show AW d0 M_LawCode_become Q 0 [some (vR 3 (-1)), some (vR 5 (-1))] [] h
  refine a_aload_n dX0_become_0 rfl ?_
  refine a_getR dX0_become_1 fl_LawCode_11 sk_5 rfl ?_
  refine a_iconst (x := 0) dX0_become_4 rfl ⟨by decide, by decide⟩ ?_
  refine a_aload_n dX0_become_5 rfl ?_
  refine a_getR dX0_become_6 fl_LawCode_11 sk_3 rfl ?_
  refine a_iconst (x := 0) dX0_become_9 rfl ⟨by decide, by decide⟩ ?_
  refine a_sipush (x := 400) dX0_become_10 (by decide) ⟨by decide, by decide⟩ ?_
  obtain ⟨c1, hy⟩ := hy
  refine a_copyI dX0_become_13 cpl_LawCode_34 sk_25 sk_20 rfl (Nat.le_of_ble_eq_true rfl) (Nat.le_of_ble_eq_true rfl) (Nat.le_of_ble_eq_true rfl) c1 (Nat.le_of_ble_eq_true rfl) ?_
  refine a_aload_n dX0_become_16 rfl ?_
  refine a_getR dX0_become_17 fl_LawCode_15 sk_5 rfl ?_
  refine a_iconst (x := 0) dX0_become_20 rfl ⟨by decide, by decide⟩ ?_
  refine a_aload_n dX0_become_21 rfl ?_
  refine a_getR dX0_become_22 fl_LawCode_15 sk_3 rfl ?_
  refine a_iconst (x := 0) dX0_become_25 rfl ⟨by decide, by decide⟩ ?_
  refine a_bipush (x := 12) dX0_become_26 (by decide) ⟨by decide, by decide⟩ ?_
  refine a_copyI dX0_become_28 cpl_LawCode_34 sk_26 sk_21 rfl (Nat.le_of_ble_eq_true rfl) (Nat.le_of_ble_eq_true rfl) (Nat.le_of_ble_eq_true rfl) c1 (Nat.le_of_ble_eq_true rfl) ?_
  refine a_aload_n dX0_become_31 rfl ?_
  refine a_getR dX0_become_32 fl_LawCode_18 sk_5 rfl ?_
  refine a_iconst (x := 0) dX0_become_35 rfl ⟨by decide, by decide⟩ ?_
  refine a_aload_n dX0_become_36 rfl ?_
  refine a_getR dX0_become_37 fl_LawCode_18 sk_3 rfl ?_
  refine a_iconst (x := 0) dX0_become_40 rfl ⟨by decide, by decide⟩ ?_
  refine a_bipush (x := 12) dX0_become_41 (by decide) ⟨by decide, by decide⟩ ?_
  refine a_copyI dX0_become_43 cpl_LawCode_34 sk_27 sk_22 rfl (Nat.le_of_ble_eq_true rfl) (Nat.le_of_ble_eq_true rfl) (Nat.le_of_ble_eq_true rfl) c1 (Nat.le_of_ble_eq_true rfl) ?_
  refine a_aload_n dX0_become_46 rfl ?_
  refine a_aload_n dX0_become_47 rfl ?_
  refine a_getI' (kz := 5) dX0_become_48 fl_LawCode_27 sk_5 rfl rfl (rfl) ?_
  refine a_putI (kz := 5) dX0_become_51 fp_LawCode_27 sk_3 rfl rfl ?_
  refine a_aload_n dX0_become_54 rfl ?_
  refine a_aload_n dX0_become_55 rfl ?_
  refine a_getI' (kz := 6) dX0_become_56 fl_LawCode_31 sk_5 rfl rfl (rI_ne (by decide)) ?_
  refine a_putI (kz := 6) dX0_become_59 fp_LawCode_31 sk_3 rfl rfl ?_
  refine a_aload_n dX0_become_62 rfl ?_
  refine a_dupR dX0_become_63 ?_
  refine a_getI' (kz := 7) dX0_become_64 fl_LawCode_40 sk_3 rfl rfl ((rI_nk (by decide)).trans (rI_nk (by decide))) ?_
  refine a_iconst (x := 1) dX0_become_67 rfl ⟨by decide, by decide⟩ ?_
  obtain ⟨c2, hy⟩ := hy
  refine a_iadd dX0_become_68 c2 ?_
  refine a_putI (kz := 7) dX0_become_69 fp_LawCode_40 sk_3 rfl rfl ?_
  exact a_vret dX0_become_72 rfl hy
def A_LawCode_costOfNamed_4 (d : Nat) (Q : Int → AH → Prop) (v1 : Int) (v2 : Int) (h : AH) : Prop := AW d M_LawCode_costOfNamed Q 4 [some (vR 3 (-1)), some (vI v1), some (vI v2), none, none] [] h
def A_LawCode_costOfNamed_36 (d : Nat) (Q : Int → AH → Prop) (v1 : Int) (v2 : Int) (v3 : Int) (h : AH) : Prop := AW d M_LawCode_costOfNamed Q 36 [some (vR 3 (-1)), some (vI v1), some (vI v2), some (vI v3), none] [] h
def A_LawCode_costOfNamed_91 (d : Nat) (Q : Int → AH → Prop) (v2 : Int) (h : AH) : Prop := AW d M_LawCode_costOfNamed Q 91 [some (vR 3 (-1)), none, some (vI v2), none, none] [] h
def A_LawCode_costOfNamed_92 (d : Nat) (Q : Int → AH → Prop) (v2 : Int) (s0 : Int) (h : AH) : Prop := AW d M_LawCode_costOfNamed Q 92 [some (vR 3 (-1)), none, some (vI v2), none, none] [vI s0] h
theorem s_LawCode_costOfNamed_4 {d : Nat} {Q : Int → AH → Prop} {v1 : Int} {v2 : Int} {h : AH} (hy : (((h.1 3 6) ≤ v2 → ((v1 ≠ 0 → Q v1 h) ∧ (v1 = 0 → Q 1 h))) ∧ (v2 < (h.1 3 6) → (inb v2 12 ∧ (((if (h.1 21 v2) = (-1) then (1 : Int) else 0) ≠ 0 → A_LawCode_costOfNamed_36 d Q v1 v2 (if (h.1 21 v2) = (-1) then (1 : Int) else 0) h) ∧ ((if (h.1 21 v2) = (-1) then (1 : Int) else 0) = 0 → ((v1 ≠ 0 → (inI (v2 + 1) ∧ A_LawCode_costOfNamed_4 d Q v1 (v2 + 1) h)) ∧ (v1 = 0 → A_LawCode_costOfNamed_36 d Q v1 v2 (if (h.1 21 v2) = (-1) then (1 : Int) else 0) h)))))))) : A_LawCode_costOfNamed_4 d Q v1 v2 h := by
  show AW d M_LawCode_costOfNamed Q 4 [some (vR 3 (-1)), some (vI v1), some (vI v2), none, none] [] h
  refine a_iload_n dX0_costOfNamed_4 rfl ?_
  refine a_aload_n dX0_costOfNamed_5 rfl ?_
  refine a_getI' (kz := 6) dX0_costOfNamed_6 fl_LawCode_31 sk_3 rfl rfl (rfl) ?_
  refine a_icmp_ge (tgt := 112) dX0_costOfNamed_9 (by decide) (fun c => ?_) (fun c => ?_)
  · have hy := hy.1 c
    refine a_iload_n dX0_costOfNamed_112 rfl ?_
    refine a_if_ne (tgt := 120) dX0_costOfNamed_113 (by decide) (fun c => ?_) (fun c => ?_)
    · have hy := hy.1 c
      refine a_iload_n dX0_costOfNamed_120 rfl ?_
      exact a_iret dX0_costOfNamed_121 rfl hy
    · have hy := hy.2 (Decidable.not_not.mp c)
      refine a_iconst (x := 1) dX0_costOfNamed_116 rfl ⟨by decide, by decide⟩ ?_
      refine a_goto (tgt := 121) dX0_costOfNamed_117 (by decide) ?_
      exact a_iret dX0_costOfNamed_121 rfl hy
  · have hy := hy.2 (Int.not_le.mp c)
    refine a_aload_n dX0_costOfNamed_12 rfl ?_
    refine a_getR dX0_costOfNamed_13 fl_LawCode_15 sk_3 rfl ?_
    refine a_iload_n dX0_costOfNamed_16 rfl ?_
    obtain ⟨c1, hy⟩ := hy
    refine a_iald' dX0_costOfNamed_17 sk_21 c1 (rfl) ?_
    refine a_iconst (x := (-1)) dX0_costOfNamed_18 rfl ⟨by decide, by decide⟩ ?_
    have J : AW d M_LawCode_costOfNamed Q 27 [some (vR 3 (-1)), some (vI v1), some (vI v2), none, none] [vI (if (h.1 21 v2) = (-1) then (1 : Int) else 0)] h := by
      refine a_istore_n (i := 3) (ls2 := [some (vR 3 (-1)), some (vI v1), some (vI v2), some (vI (if (h.1 21 v2) = (-1) then (1 : Int) else 0)), none]) dX0_costOfNamed_27 rfl (Nat.le_of_ble_eq_true rfl) rfl ?_
      refine a_iload_n dX0_costOfNamed_28 rfl ?_
      refine a_if_ne (tgt := 36) dX0_costOfNamed_29 (by decide) (fun c => ?_) (fun c => ?_)
      · have hy := hy.1 c
        exact hy
      · have hy := hy.2 (Decidable.not_not.mp c)
        refine a_iload_n dX0_costOfNamed_32 rfl ?_
        refine a_if_ne (tgt := 106) dX0_costOfNamed_33 (by decide) (fun c => ?_) (fun c => ?_)
        · have hy := hy.1 c
          obtain ⟨c2, hy⟩ := hy
          refine a_iinc (y := v2 + 1) (ls2 := [some (vR 3 (-1)), some (vI v1), some (vI (v2 + 1)), some (vI (if (h.1 21 v2) = (-1) then (1 : Int) else 0)), none]) dX0_costOfNamed_106 rfl rfl c2 rfl ?_
          refine a_goto (tgt := 4) dX0_costOfNamed_109 (by decide) ?_
          refine a_mask [true, true, true, false, true] (ls2 := [some (vR 3 (-1)), some (vI v1), some (vI (v2 + 1)), none, none]) rfl rfl ?_
          exact hy
        · have hy := hy.2 (Decidable.not_not.mp c)
          exact hy
    refine a_icmp_ne (tgt := 26) dX0_costOfNamed_19 (by decide) (fun e3 => ?_) (fun e3 => ?_)
    · refine a_iconst (x := 0) dX0_costOfNamed_26 rfl ⟨by decide, by decide⟩ ?_
      exact a_cast (by first | rfl | simp only [if_neg e3]) (by first | rfl | simp only [if_neg e3]) J
    · refine a_iconst (x := 1) dX0_costOfNamed_22 rfl ⟨by decide, by decide⟩ ?_
      refine a_goto (tgt := 27) dX0_costOfNamed_23 (by decide) ?_
      exact a_cast (by first | rfl | simp only [if_pos (Decidable.not_not.mp e3)]) (by first | rfl | simp only [if_pos (Decidable.not_not.mp e3)]) J
theorem s_LawCode_costOfNamed_36 {d : Nat} {Q : Int → AH → Prop} {v1 : Int} {v2 : Int} {v3 : Int} {h : AH} (hy : inb v2 12 ∧ (Call d M_LawCode_runsThrough [vR 3 (-1), vI (h.1 22 v2)] h (fun r3 h2 => ((r3 = 0 → (inI (v2 + 1) ∧ A_LawCode_costOfNamed_4 d Q v1 (v2 + 1) h2)) ∧ (r3 ≠ 0 → (((h2.1 3 9) = 0 → (inI (v2 + 1) ∧ A_LawCode_costOfNamed_4 d Q v1 (v2 + 1) h2)) ∧ ((h2.1 3 9) ≠ 0 → ((v3 = 0 → (Call d M_LawCode_runsThrough [vR 3 (-1), vI (h2.1 21 v2)] h2 (fun r7 h6 => ((r7 = 0 → A_LawCode_costOfNamed_91 d Q v2 h6) ∧ (r7 ≠ 0 → (((h6.1 3 8) ≤ 0 → A_LawCode_costOfNamed_91 d Q v2 h6) ∧ (0 < (h6.1 3 8) → A_LawCode_costOfNamed_92 d Q v2 (h6.1 24 0) h6))))))) ∧ (v3 ≠ 0 → Q 0 h2))))))))) : A_LawCode_costOfNamed_36 d Q v1 v2 v3 h := by
  show AW d M_LawCode_costOfNamed Q 36 [some (vR 3 (-1)), some (vI v1), some (vI v2), some (vI v3), none] [] h
  refine a_aload_n dX0_costOfNamed_36 rfl ?_
  refine a_aload_n dX0_costOfNamed_37 rfl ?_
  refine a_getR dX0_costOfNamed_38 fl_LawCode_18 sk_3 rfl ?_
  refine a_iload_n dX0_costOfNamed_41 rfl ?_
  obtain ⟨c1, hy⟩ := hy
  refine a_iald' dX0_costOfNamed_42 sk_22 c1 (rfl) ?_
  refine a_callVi (as := [vI (h.1 22 v2)]) (st := []) dX0_costOfNamed_43 lk_LawCode_43 sk_3 rfl rfl (Nat.le_of_ble_eq_true rfl) (Or.inr rfl) (Call.mono hy (fun r3 h2 _ hy => ?_))
  refine a_if_eq (tgt := 106) dX0_costOfNamed_46 (by decide) (fun c => ?_) (fun c => ?_)
  · have hy := hy.1 c
    obtain ⟨c4, hy⟩ := hy
    refine a_iinc (y := v2 + 1) (ls2 := [some (vR 3 (-1)), some (vI v1), some (vI (v2 + 1)), some (vI v3), none]) dX0_costOfNamed_106 rfl rfl c4 rfl ?_
    refine a_goto (tgt := 4) dX0_costOfNamed_109 (by decide) ?_
    refine a_mask [true, true, true, false, true] (ls2 := [some (vR 3 (-1)), some (vI v1), some (vI (v2 + 1)), none, none]) rfl rfl ?_
    exact hy
  · have hy := hy.2 (c)
    refine a_aload_n dX0_costOfNamed_49 rfl ?_
    refine a_getI' (kz := 9) dX0_costOfNamed_50 fl_LawCode_47 sk_3 rfl rfl (rfl) ?_
    refine a_if_eq (tgt := 106) dX0_costOfNamed_53 (by decide) (fun c => ?_) (fun c => ?_)
    · have hy := hy.1 c
      obtain ⟨c5, hy⟩ := hy
      refine a_iinc (y := v2 + 1) (ls2 := [some (vR 3 (-1)), some (vI v1), some (vI (v2 + 1)), some (vI v3), none]) dX0_costOfNamed_106 rfl rfl c5 rfl ?_
      refine a_goto (tgt := 4) dX0_costOfNamed_109 (by decide) ?_
      refine a_mask [true, true, true, false, true] (ls2 := [some (vR 3 (-1)), some (vI v1), some (vI (v2 + 1)), none, none]) rfl rfl ?_
      exact hy
    · have hy := hy.2 (c)
      refine a_iload_n dX0_costOfNamed_56 rfl ?_
      refine a_if_eq (tgt := 62) dX0_costOfNamed_57 (by decide) (fun c => ?_) (fun c => ?_)
      · have hy := hy.1 c
        refine a_aload_n dX0_costOfNamed_62 rfl ?_
        refine a_aload_n dX0_costOfNamed_63 rfl ?_
        refine a_getR dX0_costOfNamed_64 fl_LawCode_15 sk_3 rfl ?_
        refine a_iload_n dX0_costOfNamed_67 rfl ?_
        refine a_iald' dX0_costOfNamed_68 sk_21 c1 (rfl) ?_
        refine a_callVi (as := [vI (h2.1 21 v2)]) (st := []) dX0_costOfNamed_69 lk_LawCode_43 sk_3 rfl rfl (Nat.le_of_ble_eq_true rfl) (Or.inr rfl) (Call.mono hy (fun r7 h6 _ hy => ?_))
        refine a_if_eq (tgt := 91) dX0_costOfNamed_72 (by decide) (fun c => ?_) (fun c => ?_)
        · have hy := hy.1 c
          refine a_mask [true, false, true, false, true] (ls2 := [some (vR 3 (-1)), none, some (vI v2), none, none]) rfl rfl ?_
          exact hy
        · have hy := hy.2 (c)
          refine a_aload_n dX0_costOfNamed_75 rfl ?_
          refine a_getI' (kz := 8) dX0_costOfNamed_76 fl_LawCode_51 sk_3 rfl rfl (rfl) ?_
          refine a_if_le (tgt := 91) dX0_costOfNamed_79 (by decide) (fun c => ?_) (fun c => ?_)
          · have hy := hy.1 c
            refine a_mask [true, false, true, false, true] (ls2 := [some (vR 3 (-1)), none, some (vI v2), none, none]) rfl rfl ?_
            exact hy
          · have hy := hy.2 (Int.not_le.mp c)
            refine a_aload_n dX0_costOfNamed_82 rfl ?_
            refine a_getR dX0_costOfNamed_83 fl_LawCode_24 sk_3 rfl ?_
            refine a_iconst (x := 0) dX0_costOfNamed_86 rfl ⟨by decide, by decide⟩ ?_
            refine a_iald' dX0_costOfNamed_87 sk_24 ⟨by decide, by decide⟩ (rfl) ?_
            refine a_goto (tgt := 92) dX0_costOfNamed_88 (by decide) ?_
            refine a_mask [true, false, true, false, true] (ls2 := [some (vR 3 (-1)), none, some (vI v2), none, none]) rfl rfl ?_
            exact hy
      · have hy := hy.2 (c)
        refine a_iconst (x := 0) dX0_costOfNamed_60 rfl ⟨by decide, by decide⟩ ?_
        exact a_iret dX0_costOfNamed_61 rfl hy
theorem s_LawCode_costOfNamed_91 {d : Nat} {Q : Int → AH → Prop} {v2 : Int} {h : AH} (hy : A_LawCode_costOfNamed_92 d Q v2 0 h) : A_LawCode_costOfNamed_91 d Q v2 h := by
  show AW d M_LawCode_costOfNamed Q 91 [some (vR 3 (-1)), none, some (vI v2), none, none] [] h
  refine a_iconst (x := 0) dX0_costOfNamed_91 rfl ⟨by decide, by decide⟩ ?_
  exact hy
theorem s_LawCode_costOfNamed_92 {d : Nat} {Q : Int → AH → Prop} {v2 : Int} {s0 : Int} {h : AH} (hy : 1 ≤ d ∧ (inI (v2 + 1) ∧ A_LawCode_costOfNamed_4 d Q (max 1 (min 99 s0)) (v2 + 1) h)) : A_LawCode_costOfNamed_92 d Q v2 s0 h := by
  show AW d M_LawCode_costOfNamed Q 92 [some (vR 3 (-1)), none, some (vI v2), none, none] [vI s0] h
  refine a_istore (ls2 := [some (vR 3 (-1)), none, some (vI v2), none, some (vI s0)]) dX0_costOfNamed_92 (Nat.le_of_ble_eq_true rfl) rfl ?_
  refine a_iconst (x := 1) dX0_costOfNamed_94 rfl ⟨by decide, by decide⟩ ?_
  refine a_bipush (x := 99) dX0_costOfNamed_95 (by decide) ⟨by decide, by decide⟩ ?_
  refine a_iload dX0_costOfNamed_97 rfl ?_
  obtain ⟨c1, hy⟩ := hy
  refine a_mmin' dX0_costOfNamed_99 ml_LawCode_54 c1 (Nat.le_of_ble_eq_true rfl) ?_
  refine a_mmax' dX0_costOfNamed_102 ml_LawCode_60 c1 (Nat.le_of_ble_eq_true rfl) ?_
  refine a_istore_n (i := 1) (ls2 := [some (vR 3 (-1)), some (vI (max 1 (min 99 s0))), some (vI v2), none, some (vI s0)]) dX0_costOfNamed_105 rfl (Nat.le_of_ble_eq_true rfl) rfl ?_
  obtain ⟨c2, hy⟩ := hy
  refine a_iinc (y := v2 + 1) (ls2 := [some (vR 3 (-1)), some (vI (max 1 (min 99 s0))), some (vI (v2 + 1)), none, some (vI s0)]) dX0_costOfNamed_106 rfl rfl c2 rfl ?_
  refine a_goto (tgt := 4) dX0_costOfNamed_109 (by decide) ?_
  refine a_mask [true, true, true, true, false] (ls2 := [some (vR 3 (-1)), some (vI (max 1 (min 99 s0))), some (vI (v2 + 1)), none, none]) rfl rfl ?_
  exact hy
theorem c_LawCode_costOfNamed {d : Nat} (d0 : Nat) (hd : d0 < d)  {h : AH} {Q : Int → AH → Prop} (hy : A_LawCode_costOfNamed_4 d0 Q 0 0 h) : Call d M_LawCode_costOfNamed [vR 3 (-1)] h Q := by
  refine ⟨d0, hd, Big.of rfl (Nat.le_of_ble_eq_true rfl) ?_⟩
  show AW d0 M_LawCode_costOfNamed Q 0 [some (vR 3 (-1)), none, none, none, none] [] h
  refine a_iconst (x := 0) dX0_costOfNamed_0 rfl ⟨by decide, by decide⟩ ?_
  refine a_istore_n (i := 1) (ls2 := [some (vR 3 (-1)), some (vI 0), none, none, none]) dX0_costOfNamed_1 rfl (Nat.le_of_ble_eq_true rfl) rfl ?_
  refine a_iconst (x := 0) dX0_costOfNamed_2 rfl ⟨by decide, by decide⟩ ?_
  refine a_istore_n (i := 2) (ls2 := [some (vR 3 (-1)), some (vI 0), some (vI 0), none, none]) dX0_costOfNamed_3 rfl (Nat.le_of_ble_eq_true rfl) rfl ?_
  exact hy
def A_LawCode_joinsTwo_61 (d : Nat) (Q : Int → AH → Prop) (p1 : Int) (v2 : Int) (v3 : Int) (h : AH) : Prop := AW d M_LawCode_joinsTwo Q 61 [some (vR 3 (-1)), some (vI p1), some (vI v2), some (vI v3), none] [] h
def A_LawCode_joinsTwo_137 (d : Nat) (Q : Int → AH → Prop) (p1 : Int) (v2 : Int) (v3 : Int) (h : AH) : Prop := AW d M_LawCode_joinsTwo Q 137 [some (vR 3 (-1)), some (vI p1), some (vI v2), some (vI v3), none] [] h
def A_LawCode_joinsTwo_192 (d : Nat) (Q : Int → AH → Prop) (s0 : Int) (h : AH) : Prop := AW d M_LawCode_joinsTwo Q 192 [some (vR 3 (-1)), none, none, none, none] [vI s0] h
def A_LawCode_joinsTwo_194 (d : Nat) (Q : Int → AH → Prop) (v4 : Int) (h : AH) : Prop := AW d M_LawCode_joinsTwo Q 194 [some (vR 3 (-1)), none, none, none, some (vI v4)] [] h
def A_LawCode_joinsTwo_152 (d : Nat) (Q : Int → AH → Prop) (s0 : Int) (h : AH) : Prop := AW d M_LawCode_joinsTwo Q 152 [some (vR 3 (-1)), none, none, none, none] [vI s0] h
theorem s_LawCode_joinsTwo_61 {d : Nat} {Q : Int → AH → Prop} {p1 : Int} {v2 : Int} {v3 : Int} {h : AH} (hy : ((if p1 = 60 then (if v3 ≤ v2 then (0 : Int) else 1 : Int) else if p1 = 62 then (if v2 ≤ v3 then (0 : Int) else 1 : Int) else if v2 = v3 then (1 : Int) else 0) = 0 ∨ (if p1 = 60 then (if v3 ≤ v2 then (0 : Int) else 1 : Int) else if p1 = 62 then (if v2 ≤ v3 then (0 : Int) else 1 : Int) else if v2 = v3 then (1 : Int) else 0) = 1) ∧ Q 1 (wI (wI h 3 8 (w32 ((h.1 3 8) - 2))) 3 9 (if p1 = 60 then (if v3 ≤ v2 then (0 : Int) else 1 : Int) else if p1 = 62 then (if v2 ≤ v3 then (0 : Int) else 1 : Int) else if v2 = v3 then (1 : Int) else 0))) : A_LawCode_joinsTwo_61 d Q p1 v2 v3 h := by
  show AW d M_LawCode_joinsTwo Q 61 [some (vR 3 (-1)), some (vI p1), some (vI v2), some (vI v3), none] [] h
  refine a_aload_n dX0_joinsTwo_61 rfl ?_
  refine a_dupR dX0_joinsTwo_62 ?_
  refine a_getI' (kz := 8) dX0_joinsTwo_63 fl_LawCode_51 sk_3 rfl rfl (rfl) ?_
  refine a_iconst (x := 2) dX0_joinsTwo_66 rfl ⟨by decide, by decide⟩ ?_
  refine a_isubW dX0_joinsTwo_67 ?_
  refine a_putI (kz := 8) dX0_joinsTwo_68 fp_LawCode_51 sk_3 rfl rfl ?_
  refine a_aload_n dX0_joinsTwo_71 rfl ?_
  refine a_iload_n dX0_joinsTwo_72 rfl ?_
  refine a_bipush (x := 60) dX0_joinsTwo_73 (by decide) ⟨by decide, by decide⟩ ?_
  have J : AW d M_LawCode_joinsTwo Q 120 [some (vR 3 (-1)), some (vI p1), some (vI v2), some (vI v3), none] [vI (if p1 = 60 then (if v3 ≤ v2 then (0 : Int) else 1 : Int) else if p1 = 62 then (if v2 ≤ v3 then (0 : Int) else 1 : Int) else if v2 = v3 then (1 : Int) else 0), vR 3 (-1)] (wI h 3 8 (w32 ((h.1 3 8) - 2))) := by
    obtain ⟨c1, hy⟩ := hy
    refine a_putZ (kz := 9) dX0_joinsTwo_120 fp_LawCode_47 sk_3 rfl rfl c1 ?_
    refine a_iconst (x := 1) dX0_joinsTwo_123 rfl ⟨by decide, by decide⟩ ?_
    exact a_zret dX0_joinsTwo_124 rfl (Or.inr rfl) hy
  refine a_icmp_ne (tgt := 91) dX0_joinsTwo_75 (by decide) (fun e2 => ?_) (fun e2 => ?_)
  · refine a_iload_n dX0_joinsTwo_91 rfl ?_
    refine a_bipush (x := 62) dX0_joinsTwo_92 (by decide) ⟨by decide, by decide⟩ ?_
    refine a_icmp_ne (tgt := 110) dX0_joinsTwo_94 (by decide) (fun e3 => ?_) (fun e3 => ?_)
    · refine a_iload_n dX0_joinsTwo_110 rfl ?_
      refine a_iload_n dX0_joinsTwo_111 rfl ?_
      refine a_icmp_ne (tgt := 119) dX0_joinsTwo_112 (by decide) (fun e4 => ?_) (fun e4 => ?_)
      · refine a_iconst (x := 0) dX0_joinsTwo_119 rfl ⟨by decide, by decide⟩ ?_
        exact a_cast (by first | rfl | simp only [if_neg e2, if_neg e3, if_neg e4]) (by first | rfl | simp only [if_neg e2, if_neg e3, if_neg e4]) J
      · refine a_iconst (x := 1) dX0_joinsTwo_115 rfl ⟨by decide, by decide⟩ ?_
        refine a_goto (tgt := 120) dX0_joinsTwo_116 (by decide) ?_
        exact a_cast (by first | rfl | simp only [if_neg e2, if_neg e3, if_pos (Decidable.not_not.mp e4)]) (by first | rfl | simp only [if_neg e2, if_neg e3, if_pos (Decidable.not_not.mp e4)]) J
    · refine a_iload_n dX0_joinsTwo_97 rfl ?_
      refine a_iload_n dX0_joinsTwo_98 rfl ?_
      refine a_icmp_le (tgt := 106) dX0_joinsTwo_99 (by decide) (fun e5 => ?_) (fun e5 => ?_)
      · refine a_iconst (x := 0) dX0_joinsTwo_106 rfl ⟨by decide, by decide⟩ ?_
        refine a_goto (tgt := 120) dX0_joinsTwo_107 (by decide) ?_
        exact a_cast (by first | rfl | simp only [if_neg e2, if_pos (Decidable.not_not.mp e3), if_pos e5]) (by first | rfl | simp only [if_neg e2, if_pos (Decidable.not_not.mp e3), if_pos e5]) J
      · refine a_iconst (x := 1) dX0_joinsTwo_102 rfl ⟨by decide, by decide⟩ ?_
        refine a_goto (tgt := 120) dX0_joinsTwo_103 (by decide) ?_
        exact a_cast (by first | rfl | simp only [if_neg e2, if_pos (Decidable.not_not.mp e3), if_neg e5]) (by first | rfl | simp only [if_neg e2, if_pos (Decidable.not_not.mp e3), if_neg e5]) J
  · refine a_iload_n dX0_joinsTwo_78 rfl ?_
    refine a_iload_n dX0_joinsTwo_79 rfl ?_
    refine a_icmp_ge (tgt := 87) dX0_joinsTwo_80 (by decide) (fun e6 => ?_) (fun e6 => ?_)
    · refine a_iconst (x := 0) dX0_joinsTwo_87 rfl ⟨by decide, by decide⟩ ?_
      refine a_goto (tgt := 120) dX0_joinsTwo_88 (by decide) ?_
      exact a_cast (by first | rfl | simp only [if_pos (Decidable.not_not.mp e2), if_pos e6]) (by first | rfl | simp only [if_pos (Decidable.not_not.mp e2), if_pos e6]) J
    · refine a_iconst (x := 1) dX0_joinsTwo_83 rfl ⟨by decide, by decide⟩ ?_
      refine a_goto (tgt := 120) dX0_joinsTwo_84 (by decide) ?_
      exact a_cast (by first | rfl | simp only [if_pos (Decidable.not_not.mp e2), if_neg e6]) (by first | rfl | simp only [if_pos (Decidable.not_not.mp e2), if_neg e6]) J
theorem s_LawCode_joinsTwo_137 {d : Nat} {Q : Int → AH → Prop} {p1 : Int} {v2 : Int} {v3 : Int} {h : AH} (hy : ((p1 ≠ 43 → A_LawCode_joinsTwo_152 d Q (w32 (v2 - v3)) h) ∧ (p1 = 43 → A_LawCode_joinsTwo_152 d Q (w32 (v2 + v3)) h))) : A_LawCode_joinsTwo_137 d Q p1 v2 v3 h := by
  show AW d M_LawCode_joinsTwo Q 137 [some (vR 3 (-1)), some (vI p1), some (vI v2), some (vI v3), none] [] h
  refine a_iload_n dX0_joinsTwo_137 rfl ?_
  refine a_bipush (x := 43) dX0_joinsTwo_138 (by decide) ⟨by decide, by decide⟩ ?_
  refine a_icmp_ne (tgt := 149) dX0_joinsTwo_140 (by decide) (fun c => ?_) (fun c => ?_)
  · have hy := hy.1 c
    refine a_iload_n dX0_joinsTwo_149 rfl ?_
    refine a_iload_n dX0_joinsTwo_150 rfl ?_
    refine a_isubW dX0_joinsTwo_151 ?_
    refine a_mask [true, false, false, false, true] (ls2 := [some (vR 3 (-1)), none, none, none, none]) rfl rfl ?_
    exact hy
  · have hy := hy.2 (Decidable.not_not.mp c)
    refine a_iload_n dX0_joinsTwo_143 rfl ?_
    refine a_iload_n dX0_joinsTwo_144 rfl ?_
    refine a_iaddW dX0_joinsTwo_145 ?_
    refine a_goto (tgt := 152) dX0_joinsTwo_146 (by decide) ?_
    refine a_mask [true, false, false, false, true] (ls2 := [some (vR 3 (-1)), none, none, none, none]) rfl rfl ?_
    exact hy
theorem s_LawCode_joinsTwo_192 {d : Nat} {Q : Int → AH → Prop} {s0 : Int} {h : AH} (hy : A_LawCode_joinsTwo_194 d Q s0 h) : A_LawCode_joinsTwo_192 d Q s0 h := by
  show AW d M_LawCode_joinsTwo Q 192 [some (vR 3 (-1)), none, none, none, none] [vI s0] h
  refine a_istore (ls2 := [some (vR 3 (-1)), none, none, none, some (vI s0)]) dX0_joinsTwo_192 (Nat.le_of_ble_eq_true rfl) rfl ?_
  exact hy
theorem s_LawCode_joinsTwo_194 {d : Nat} {Q : Int → AH → Prop} {v4 : Int} {h : AH} (hy : inb (w32 ((w32 ((h.1 3 8) - 1)) - 1)) 32 ∧ Q 1 (wI (wI h 3 8 (w32 ((h.1 3 8) - 1))) 24 (w32 ((w32 ((h.1 3 8) - 1)) - 1)) v4)) : A_LawCode_joinsTwo_194 d Q v4 h := by
  show AW d M_LawCode_joinsTwo Q 194 [some (vR 3 (-1)), none, none, none, some (vI v4)] [] h
  refine a_aload_n dX0_joinsTwo_194 rfl ?_
  refine a_dupR dX0_joinsTwo_195 ?_
  refine a_getI' (kz := 8) dX0_joinsTwo_196 fl_LawCode_51 sk_3 rfl rfl (rfl) ?_
  refine a_iconst (x := 1) dX0_joinsTwo_199 rfl ⟨by decide, by decide⟩ ?_
  refine a_isubW dX0_joinsTwo_200 ?_
  refine a_putI (kz := 8) dX0_joinsTwo_201 fp_LawCode_51 sk_3 rfl rfl ?_
  refine a_aload_n dX0_joinsTwo_204 rfl ?_
  refine a_getR dX0_joinsTwo_205 fl_LawCode_24 sk_3 rfl ?_
  refine a_aload_n dX0_joinsTwo_208 rfl ?_
  refine a_getI' (kz := 8) dX0_joinsTwo_209 fl_LawCode_51 sk_3 rfl rfl (rI_eq) ?_
  refine a_iconst (x := 1) dX0_joinsTwo_212 rfl ⟨by decide, by decide⟩ ?_
  refine a_isubW dX0_joinsTwo_213 ?_
  refine a_iload dX0_joinsTwo_214 rfl ?_
  obtain ⟨c1, hy⟩ := hy
  refine a_iast dX0_joinsTwo_216 sk_24 c1 ?_
  refine a_iconst (x := 1) dX0_joinsTwo_217 rfl ⟨by decide, by decide⟩ ?_
  exact a_zret dX0_joinsTwo_218 rfl (Or.inr rfl) hy
theorem s_LawCode_joinsTwo_152 {d : Nat} {Q : Int → AH → Prop} {s0 : Int} {h : AH} (hy : A_LawCode_joinsTwo_194 d Q s0 h) : A_LawCode_joinsTwo_152 d Q s0 h := by
  show AW d M_LawCode_joinsTwo Q 152 [some (vR 3 (-1)), none, none, none, none] [vI s0] h
  refine a_istore (ls2 := [some (vR 3 (-1)), none, none, none, some (vI s0)]) dX0_joinsTwo_152 (Nat.le_of_ble_eq_true rfl) rfl ?_
  refine a_goto (tgt := 194) dX0_joinsTwo_154 (by decide) ?_
  exact hy
theorem c_LawCode_joinsTwo {d : Nat} (d0 : Nat) (hd : d0 < d) {p1 : Int} {h : AH} {Q : Int → AH → Prop} (hy : (((h.1 3 8) < 2 → Q 0 h) ∧ (2 ≤ (h.1 3 8) → (((h.1 3 8) ≤ 32 → (inb (w32 ((h.1 3 8) - 2)) 32 ∧ (inb (w32 ((h.1 3 8) - 1)) 32 ∧ ((p1 = 60 → A_LawCode_joinsTwo_61 d0 Q p1 (h.1 24 (w32 ((h.1 3 8) - 2))) (h.1 24 (w32 ((h.1 3 8) - 1))) h) ∧ (p1 ≠ 60 → ((p1 = 62 → A_LawCode_joinsTwo_61 d0 Q p1 (h.1 24 (w32 ((h.1 3 8) - 2))) (h.1 24 (w32 ((h.1 3 8) - 1))) h) ∧ (p1 ≠ 62 → ((p1 ≠ 61 → ((p1 = 43 → A_LawCode_joinsTwo_137 d0 Q p1 (h.1 24 (w32 ((h.1 3 8) - 2))) (h.1 24 (w32 ((h.1 3 8) - 1))) h) ∧ (p1 ≠ 43 → ((p1 ≠ 45 → ((p1 ≠ 42 → (((h.1 24 (w32 ((h.1 3 8) - 1))) ≠ 0 → ((p1 ≠ 47 → ((h.1 24 (w32 ((h.1 3 8) - 1))) ≠ 0 ∧ A_LawCode_joinsTwo_192 d0 Q (Int.tmod (h.1 24 (w32 ((h.1 3 8) - 2))) (h.1 24 (w32 ((h.1 3 8) - 1)))) h)) ∧ (p1 = 47 → ((h.1 24 (w32 ((h.1 3 8) - 1))) ≠ 0 ∧ A_LawCode_joinsTwo_192 d0 Q (w32 (Int.tdiv (h.1 24 (w32 ((h.1 3 8) - 2))) (h.1 24 (w32 ((h.1 3 8) - 1))))) h)))) ∧ ((h.1 24 (w32 ((h.1 3 8) - 1))) = 0 → Q 0 h))) ∧ (p1 = 42 → A_LawCode_joinsTwo_194 d0 Q (w32 ((h.1 24 (w32 ((h.1 3 8) - 2))) * (h.1 24 (w32 ((h.1 3 8) - 1))))) h))) ∧ (p1 = 45 → A_LawCode_joinsTwo_137 d0 Q p1 (h.1 24 (w32 ((h.1 3 8) - 2))) (h.1 24 (w32 ((h.1 3 8) - 1))) h))))) ∧ (p1 = 61 → A_LawCode_joinsTwo_61 d0 Q p1 (h.1 24 (w32 ((h.1 3 8) - 2))) (h.1 24 (w32 ((h.1 3 8) - 1))) h))))))))) ∧ (32 < (h.1 3 8) → Q 0 h))))) : Call d M_LawCode_joinsTwo [vR 3 (-1), vI p1] h Q := by
  refine ⟨d0, hd, Big.of rfl (Nat.le_of_ble_eq_true rfl) ?_⟩
  show AW d0 M_LawCode_joinsTwo Q 0 [some (vR 3 (-1)), some (vI p1), none, none, none] [] h
  refine a_aload_n dX0_joinsTwo_0 rfl ?_
  refine a_getI' (kz := 8) dX0_joinsTwo_1 fl_LawCode_51 sk_3 rfl rfl (rfl) ?_
  refine a_iconst (x := 2) dX0_joinsTwo_4 rfl ⟨by decide, by decide⟩ ?_
  refine a_icmp_lt (tgt := 17) dX0_joinsTwo_5 (by decide) (fun c => ?_) (fun c => ?_)
  · have hy := hy.1 c
    refine a_iconst (x := 0) dX0_joinsTwo_17 rfl ⟨by decide, by decide⟩ ?_
    exact a_zret dX0_joinsTwo_18 rfl (Or.inl rfl) hy
  · have hy := hy.2 (Int.not_lt.mp c)
    refine a_aload_n dX0_joinsTwo_8 rfl ?_
    refine a_getI' (kz := 8) dX0_joinsTwo_9 fl_LawCode_51 sk_3 rfl rfl (rfl) ?_
    refine a_bipush (x := 32) dX0_joinsTwo_12 (by decide) ⟨by decide, by decide⟩ ?_
    refine a_icmp_le (tgt := 19) dX0_joinsTwo_14 (by decide) (fun c => ?_) (fun c => ?_)
    · have hy := hy.1 c
      refine a_aload_n dX0_joinsTwo_19 rfl ?_
      refine a_getR dX0_joinsTwo_20 fl_LawCode_24 sk_3 rfl ?_
      refine a_aload_n dX0_joinsTwo_23 rfl ?_
      refine a_getI' (kz := 8) dX0_joinsTwo_24 fl_LawCode_51 sk_3 rfl rfl (rfl) ?_
      refine a_iconst (x := 2) dX0_joinsTwo_27 rfl ⟨by decide, by decide⟩ ?_
      refine a_isubW dX0_joinsTwo_28 ?_
      obtain ⟨c1, hy⟩ := hy
      refine a_iald' dX0_joinsTwo_29 sk_24 c1 (rfl) ?_
      refine a_istore_n (i := 2) (ls2 := [some (vR 3 (-1)), some (vI p1), some (vI (h.1 24 (w32 ((h.1 3 8) - 2)))), none, none]) dX0_joinsTwo_30 rfl (Nat.le_of_ble_eq_true rfl) rfl ?_
      refine a_aload_n dX0_joinsTwo_31 rfl ?_
      refine a_getR dX0_joinsTwo_32 fl_LawCode_24 sk_3 rfl ?_
      refine a_aload_n dX0_joinsTwo_35 rfl ?_
      refine a_getI' (kz := 8) dX0_joinsTwo_36 fl_LawCode_51 sk_3 rfl rfl (rfl) ?_
      refine a_iconst (x := 1) dX0_joinsTwo_39 rfl ⟨by decide, by decide⟩ ?_
      refine a_isubW dX0_joinsTwo_40 ?_
      obtain ⟨c2, hy⟩ := hy
      refine a_iald' dX0_joinsTwo_41 sk_24 c2 (rfl) ?_
      refine a_istore_n (i := 3) (ls2 := [some (vR 3 (-1)), some (vI p1), some (vI (h.1 24 (w32 ((h.1 3 8) - 2)))), some (vI (h.1 24 (w32 ((h.1 3 8) - 1)))), none]) dX0_joinsTwo_42 rfl (Nat.le_of_ble_eq_true rfl) rfl ?_
      refine a_iload_n dX0_joinsTwo_43 rfl ?_
      refine a_bipush (x := 60) dX0_joinsTwo_44 (by decide) ⟨by decide, by decide⟩ ?_
      refine a_icmp_eq (tgt := 61) dX0_joinsTwo_46 (by decide) (fun c => ?_) (fun c => ?_)
      · have hy := hy.1 c
        exact hy
      · have hy := hy.2 (c)
        refine a_iload_n dX0_joinsTwo_49 rfl ?_
        refine a_bipush (x := 62) dX0_joinsTwo_50 (by decide) ⟨by decide, by decide⟩ ?_
        refine a_icmp_eq (tgt := 61) dX0_joinsTwo_52 (by decide) (fun c => ?_) (fun c => ?_)
        · have hy := hy.1 c
          exact hy
        · have hy := hy.2 (c)
          refine a_iload_n dX0_joinsTwo_55 rfl ?_
          refine a_bipush (x := 61) dX0_joinsTwo_56 (by decide) ⟨by decide, by decide⟩ ?_
          refine a_icmp_ne (tgt := 125) dX0_joinsTwo_58 (by decide) (fun c => ?_) (fun c => ?_)
          · have hy := hy.1 c
            refine a_iload_n dX0_joinsTwo_125 rfl ?_
            refine a_bipush (x := 43) dX0_joinsTwo_126 (by decide) ⟨by decide, by decide⟩ ?_
            refine a_icmp_eq (tgt := 137) dX0_joinsTwo_128 (by decide) (fun c => ?_) (fun c => ?_)
            · have hy := hy.1 c
              exact hy
            · have hy := hy.2 (c)
              refine a_iload_n dX0_joinsTwo_131 rfl ?_
              refine a_bipush (x := 45) dX0_joinsTwo_132 (by decide) ⟨by decide, by decide⟩ ?_
              refine a_icmp_ne (tgt := 157) dX0_joinsTwo_134 (by decide) (fun c => ?_) (fun c => ?_)
              · have hy := hy.1 c
                refine a_iload_n dX0_joinsTwo_157 rfl ?_
                refine a_bipush (x := 42) dX0_joinsTwo_158 (by decide) ⟨by decide, by decide⟩ ?_
                refine a_icmp_ne (tgt := 171) dX0_joinsTwo_160 (by decide) (fun c => ?_) (fun c => ?_)
                · have hy := hy.1 c
                  refine a_iload_n dX0_joinsTwo_171 rfl ?_
                  refine a_if_ne (tgt := 177) dX0_joinsTwo_172 (by decide) (fun c => ?_) (fun c => ?_)
                  · have hy := hy.1 c
                    refine a_iload_n dX0_joinsTwo_177 rfl ?_
                    refine a_bipush (x := 47) dX0_joinsTwo_178 (by decide) ⟨by decide, by decide⟩ ?_
                    refine a_icmp_ne (tgt := 189) dX0_joinsTwo_180 (by decide) (fun c => ?_) (fun c => ?_)
                    · have hy := hy.1 c
                      refine a_iload_n dX0_joinsTwo_189 rfl ?_
                      refine a_iload_n dX0_joinsTwo_190 rfl ?_
                      obtain ⟨c3, hy⟩ := hy
                      refine a_irem dX0_joinsTwo_191 c3 ?_
                      refine a_mask [true, false, false, false, true] (ls2 := [some (vR 3 (-1)), none, none, none, none]) rfl rfl ?_
                      exact hy
                    · have hy := hy.2 (Decidable.not_not.mp c)
                      refine a_iload_n dX0_joinsTwo_183 rfl ?_
                      refine a_iload_n dX0_joinsTwo_184 rfl ?_
                      obtain ⟨c4, hy⟩ := hy
                      refine a_idivW dX0_joinsTwo_185 c4 ?_
                      refine a_goto (tgt := 192) dX0_joinsTwo_186 (by decide) ?_
                      refine a_mask [true, false, false, false, true] (ls2 := [some (vR 3 (-1)), none, none, none, none]) rfl rfl ?_
                      exact hy
                  · have hy := hy.2 (Decidable.not_not.mp c)
                    refine a_iconst (x := 0) dX0_joinsTwo_175 rfl ⟨by decide, by decide⟩ ?_
                    exact a_zret dX0_joinsTwo_176 rfl (Or.inl rfl) hy
                · have hy := hy.2 (Decidable.not_not.mp c)
                  refine a_iload_n dX0_joinsTwo_163 rfl ?_
                  refine a_iload_n dX0_joinsTwo_164 rfl ?_
                  refine a_imulW dX0_joinsTwo_165 ?_
                  refine a_istore (ls2 := [some (vR 3 (-1)), some (vI p1), some (vI (h.1 24 (w32 ((h.1 3 8) - 2)))), some (vI (h.1 24 (w32 ((h.1 3 8) - 1)))), some (vI (w32 ((h.1 24 (w32 ((h.1 3 8) - 2))) * (h.1 24 (w32 ((h.1 3 8) - 1))))))]) dX0_joinsTwo_166 (Nat.le_of_ble_eq_true rfl) rfl ?_
                  refine a_goto (tgt := 194) dX0_joinsTwo_168 (by decide) ?_
                  refine a_mask [true, false, false, false, true] (ls2 := [some (vR 3 (-1)), none, none, none, some (vI (w32 ((h.1 24 (w32 ((h.1 3 8) - 2))) * (h.1 24 (w32 ((h.1 3 8) - 1))))))]) rfl rfl ?_
                  exact hy
              · have hy := hy.2 (Decidable.not_not.mp c)
                exact hy
          · have hy := hy.2 (Decidable.not_not.mp c)
            exact hy
    · have hy := hy.2 (Int.not_le.mp c)
      refine a_iconst (x := 0) dX0_joinsTwo_17 rfl ⟨by decide, by decide⟩ ?_
      exact a_zret dX0_joinsTwo_18 rfl (Or.inl rfl) hy
def A_LawCode_landHere_4 (d : Nat) (Q : Int → AH → Prop) (v2 : Int) (v3 : Int) (h : AH) : Prop := AW d M_LawCode_landHere Q 4 [some (vR 5 (-1)), none, some (vI v2), some (vI v3), none] [] h
theorem s_LawCode_landHere_4 {d : Nat} {Q : Int → AH → Prop} {v2 : Int} {v3 : Int} {h : AH} (hy : ((400 ≤ v3 → Q 0 h) ∧ (v3 < 400 → ((v2 < 0 → Q 0 h) ∧ (0 ≤ v2 → (inI (v2 + 1) ∧ ((400 ≤ (v2 + 1) → Q 0 h) ∧ ((v2 + 1) < 400 → (inb (v2 + 1) 400 ∧ (inI (v3 + 1) ∧ A_LawCode_landHere_4 d Q (h.1 25 (v2 + 1)) (v3 + 1) (wI h 25 (v2 + 1) (h.1 5 5)))))))))))) : A_LawCode_landHere_4 d Q v2 v3 h := by
  show AW d M_LawCode_landHere Q 4 [some (vR 5 (-1)), none, some (vI v2), some (vI v3), none] [] h
  refine a_iload_n dX0_landHere_4 rfl ?_
  refine a_sipush (x := 400) dX0_landHere_5 (by decide) ⟨by decide, by decide⟩ ?_
  refine a_icmp_ge (tgt := 55) dX0_landHere_8 (by decide) (fun c => ?_) (fun c => ?_)
  · have hy := hy.1 c
    exact a_vret dX0_landHere_55 rfl hy
  · have hy := hy.2 (Int.not_le.mp c)
    refine a_iload_n dX0_landHere_11 rfl ?_
    refine a_if_lt (tgt := 55) dX0_landHere_12 (by decide) (fun c => ?_) (fun c => ?_)
    · have hy := hy.1 c
      exact a_vret dX0_landHere_55 rfl hy
    · have hy := hy.2 (Int.not_lt.mp c)
      refine a_iload_n dX0_landHere_15 rfl ?_
      refine a_iconst (x := 1) dX0_landHere_16 rfl ⟨by decide, by decide⟩ ?_
      obtain ⟨c1, hy⟩ := hy
      refine a_iadd dX0_landHere_17 c1 ?_
      refine a_sipush (x := 400) dX0_landHere_18 (by decide) ⟨by decide, by decide⟩ ?_
      refine a_icmp_ge (tgt := 55) dX0_landHere_21 (by decide) (fun c => ?_) (fun c => ?_)
      · have hy := hy.1 c
        exact a_vret dX0_landHere_55 rfl hy
      · have hy := hy.2 (Int.not_le.mp c)
        refine a_aload_n dX0_landHere_24 rfl ?_
        refine a_getR dX0_landHere_25 fl_LawCode_11 sk_5 rfl ?_
        refine a_iload_n dX0_landHere_28 rfl ?_
        refine a_iconst (x := 1) dX0_landHere_29 rfl ⟨by decide, by decide⟩ ?_
        refine a_iadd dX0_landHere_30 c1 ?_
        obtain ⟨c2, hy⟩ := hy
        refine a_iald' dX0_landHere_31 sk_25 c2 (rfl) ?_
        refine a_istore (ls2 := [some (vR 5 (-1)), none, some (vI v2), some (vI v3), some (vI (h.1 25 (v2 + 1)))]) dX0_landHere_32 (Nat.le_of_ble_eq_true rfl) rfl ?_
        refine a_aload_n dX0_landHere_34 rfl ?_
        refine a_getR dX0_landHere_35 fl_LawCode_11 sk_5 rfl ?_
        refine a_iload_n dX0_landHere_38 rfl ?_
        refine a_iconst (x := 1) dX0_landHere_39 rfl ⟨by decide, by decide⟩ ?_
        refine a_iadd dX0_landHere_40 c1 ?_
        refine a_aload_n dX0_landHere_41 rfl ?_
        refine a_getI' (kz := 5) dX0_landHere_42 fl_LawCode_27 sk_5 rfl rfl (rfl) ?_
        refine a_iast dX0_landHere_45 sk_25 c2 ?_
        refine a_iload dX0_landHere_46 rfl ?_
        refine a_istore_n (i := 2) (ls2 := [some (vR 5 (-1)), none, some (vI (h.1 25 (v2 + 1))), some (vI v3), some (vI (h.1 25 (v2 + 1)))]) dX0_landHere_48 rfl (Nat.le_of_ble_eq_true rfl) rfl ?_
        obtain ⟨c3, hy⟩ := hy
        refine a_iinc (y := v3 + 1) (ls2 := [some (vR 5 (-1)), none, some (vI (h.1 25 (v2 + 1))), some (vI (v3 + 1)), some (vI (h.1 25 (v2 + 1)))]) dX0_landHere_49 rfl rfl c3 rfl ?_
        refine a_goto (tgt := 4) dX0_landHere_52 (by decide) ?_
        refine a_mask [true, true, true, true, false] (ls2 := [some (vR 5 (-1)), none, some (vI (h.1 25 (v2 + 1))), some (vI (v3 + 1)), none]) rfl rfl ?_
        exact hy
theorem c_LawCode_landHere {d : Nat} (d0 : Nat) (hd : d0 < d) {p1 : Int} {h : AH} {Q : Int → AH → Prop} (hy : A_LawCode_landHere_4 d0 Q p1 0 h) : Call d M_LawCode_landHere [vR 5 (-1), vI p1] h Q := by
  refine ⟨d0, hd, Big.of rfl (Nat.le_of_ble_eq_true rfl) ?_⟩
  show AW d0 M_LawCode_landHere Q 0 [some (vR 5 (-1)), some (vI p1), none, none, none] [] h
  refine a_iload_n dX0_landHere_0 rfl ?_
  refine a_istore_n (i := 2) (ls2 := [some (vR 5 (-1)), some (vI p1), some (vI p1), none, none]) dX0_landHere_1 rfl (Nat.le_of_ble_eq_true rfl) rfl ?_
  refine a_iconst (x := 0) dX0_landHere_2 rfl ⟨by decide, by decide⟩ ?_
  refine a_istore_n (i := 3) (ls2 := [some (vR 5 (-1)), some (vI p1), some (vI p1), some (vI 0), none]) dX0_landHere_3 rfl (Nat.le_of_ble_eq_true rfl) rfl ?_
  refine a_mask [true, false, true, true, true] (ls2 := [some (vR 5 (-1)), none, some (vI p1), some (vI 0), none]) rfl rfl ?_
  exact hy
theorem c_LawCode_put {d : Nat} (d0 : Nat) (hd : d0 < d) {p1 : Int} {p2 : Int} {h : AH} {Q : Int → AH → Prop} (hy : inI ((h.1 5 5) + 2) ∧ ((((h.1 5 5) + 2) ≤ 400 → (inb (h.1 5 5) 400 ∧ (inI ((h.1 5 5) + 1) ∧ (inb ((h.1 5 5) + 1) 400 ∧ Q (h.1 5 5) (wI (wI (wI h 25 (h.1 5 5) p1) 25 ((h.1 5 5) + 1) p2) 5 5 ((h.1 5 5) + 2)))))) ∧ (400 < ((h.1 5 5) + 2) → Q (-1) h))) : Call d M_LawCode_put [vR 5 (-1), vI p1, vI p2] h Q := by
  refine ⟨d0, hd, Big.of rfl (Nat.le_of_ble_eq_true rfl) ?_⟩
  show AW d0 M_LawCode_put Q 0 [some (vR 5 (-1)), some (vI p1), some (vI p2), none] [] h
  refine a_aload_n dX0_put_0 rfl ?_
  refine a_getI' (kz := 5) dX0_put_1 fl_LawCode_27 sk_5 rfl rfl (rfl) ?_
  refine a_istore_n (i := 3) (ls2 := [some (vR 5 (-1)), some (vI p1), some (vI p2), some (vI (h.1 5 5))]) dX0_put_4 rfl (Nat.le_of_ble_eq_true rfl) rfl ?_
  refine a_iload_n dX0_put_5 rfl ?_
  refine a_iconst (x := 2) dX0_put_6 rfl ⟨by decide, by decide⟩ ?_
  obtain ⟨c1, hy⟩ := hy
  refine a_iadd dX0_put_7 c1 ?_
  refine a_sipush (x := 400) dX0_put_8 (by decide) ⟨by decide, by decide⟩ ?_
  refine a_icmp_le (tgt := 16) dX0_put_11 (by decide) (fun c => ?_) (fun c => ?_)
  · have hy := hy.1 c
    refine a_aload_n dX0_put_16 rfl ?_
    refine a_getR dX0_put_17 fl_LawCode_11 sk_5 rfl ?_
    refine a_iload_n dX0_put_20 rfl ?_
    refine a_iload_n dX0_put_21 rfl ?_
    obtain ⟨c2, hy⟩ := hy
    refine a_iast dX0_put_22 sk_25 c2 ?_
    refine a_aload_n dX0_put_23 rfl ?_
    refine a_getR dX0_put_24 fl_LawCode_11 sk_5 rfl ?_
    refine a_iload_n dX0_put_27 rfl ?_
    refine a_iconst (x := 1) dX0_put_28 rfl ⟨by decide, by decide⟩ ?_
    obtain ⟨c3, hy⟩ := hy
    refine a_iadd dX0_put_29 c3 ?_
    refine a_iload_n dX0_put_30 rfl ?_
    obtain ⟨c4, hy⟩ := hy
    refine a_iast dX0_put_31 sk_25 c4 ?_
    refine a_aload_n dX0_put_32 rfl ?_
    refine a_dupR dX0_put_33 ?_
    refine a_getI' (kz := 5) dX0_put_34 fl_LawCode_27 sk_5 rfl rfl ((rI_ne (by decide)).trans (rI_ne (by decide))) ?_
    refine a_iconst (x := 2) dX0_put_37 rfl ⟨by decide, by decide⟩ ?_
    refine a_iadd dX0_put_38 c1 ?_
    refine a_putI (kz := 5) dX0_put_39 fp_LawCode_27 sk_5 rfl rfl ?_
    refine a_iload_n dX0_put_42 rfl ?_
    exact a_iret dX0_put_43 rfl hy
  · have hy := hy.2 (Int.not_le.mp c)
    refine a_iconst (x := (-1)) dX0_put_14 rfl ⟨by decide, by decide⟩ ?_
    exact a_iret dX0_put_15 rfl hy
def A_LawCode_reckons_16 (d : Nat) (Q : Int → AH → Prop) (p1 : Int) (p2 : Int) (h : AH) : Prop := AW d M_LawCode_reckons Q 16 [some (vR 3 (-1)), some (vI p1), some (vI p2)] [] h
def A_LawCode_reckons_49 (d : Nat) (Q : Int → AH → Prop) (p1 : Int) (p2 : Int) (h : AH) : Prop := AW d M_LawCode_reckons Q 49 [some (vR 3 (-1)), some (vI p1), some (vI p2)] [] h
def A_LawCode_reckons_72 (d : Nat) (Q : Int → AH → Prop) (s1 : Int) (s2 : Int) (h : AH) : Prop := AW d M_LawCode_reckons Q 72 [some (vR 3 (-1)), none, none] [vI s2, vI s1, vR 24 (-1)] h
theorem s_LawCode_reckons_16 {d : Nat} {Q : Int → AH → Prop} {p1 : Int} {p2 : Int} {h : AH} (hy : (((h.1 3 8) < 0 → Q 0 h) ∧ (0 ≤ (h.1 3 8) → ((32 ≤ (h.1 3 8) → Q 0 h) ∧ ((h.1 3 8) < 32 → ((p1 ≠ 2 → A_LawCode_reckons_49 d Q p1 p2 h) ∧ (p1 = 2 → ((p2 < 0 → Q 0 h) ∧ (0 ≤ p2 → ((p2 < 9 → A_LawCode_reckons_49 d Q p1 p2 h) ∧ (9 ≤ p2 → Q 0 h))))))))))) : A_LawCode_reckons_16 d Q p1 p2 h := by
  show AW d M_LawCode_reckons Q 16 [some (vR 3 (-1)), some (vI p1), some (vI p2)] [] h
  refine a_aload_n dX0_reckons_16 rfl ?_
  refine a_getI' (kz := 8) dX0_reckons_17 fl_LawCode_51 sk_3 rfl rfl (rfl) ?_
  refine a_if_lt (tgt := 47) dX0_reckons_20 (by decide) (fun c => ?_) (fun c => ?_)
  · have hy := hy.1 c
    refine a_iconst (x := 0) dX0_reckons_47 rfl ⟨by decide, by decide⟩ ?_
    exact a_zret dX0_reckons_48 rfl (Or.inl rfl) hy
  · have hy := hy.2 (Int.not_lt.mp c)
    refine a_aload_n dX0_reckons_23 rfl ?_
    refine a_getI' (kz := 8) dX0_reckons_24 fl_LawCode_51 sk_3 rfl rfl (rfl) ?_
    refine a_bipush (x := 32) dX0_reckons_27 (by decide) ⟨by decide, by decide⟩ ?_
    refine a_icmp_ge (tgt := 47) dX0_reckons_29 (by decide) (fun c => ?_) (fun c => ?_)
    · have hy := hy.1 c
      refine a_iconst (x := 0) dX0_reckons_47 rfl ⟨by decide, by decide⟩ ?_
      exact a_zret dX0_reckons_48 rfl (Or.inl rfl) hy
    · have hy := hy.2 (Int.not_le.mp c)
      refine a_iload_n dX0_reckons_32 rfl ?_
      refine a_iconst (x := 2) dX0_reckons_33 rfl ⟨by decide, by decide⟩ ?_
      refine a_icmp_ne (tgt := 49) dX0_reckons_34 (by decide) (fun c => ?_) (fun c => ?_)
      · have hy := hy.1 c
        exact hy
      · have hy := hy.2 (Decidable.not_not.mp c)
        refine a_iload_n dX0_reckons_37 rfl ?_
        refine a_if_lt (tgt := 47) dX0_reckons_38 (by decide) (fun c => ?_) (fun c => ?_)
        · have hy := hy.1 c
          refine a_iconst (x := 0) dX0_reckons_47 rfl ⟨by decide, by decide⟩ ?_
          exact a_zret dX0_reckons_48 rfl (Or.inl rfl) hy
        · have hy := hy.2 (Int.not_lt.mp c)
          refine a_iload_n dX0_reckons_41 rfl ?_
          refine a_bipush (x := 9) dX0_reckons_42 (by decide) ⟨by decide, by decide⟩ ?_
          refine a_icmp_lt (tgt := 49) dX0_reckons_44 (by decide) (fun c => ?_) (fun c => ?_)
          · have hy := hy.1 c
            exact hy
          · have hy := hy.2 (Int.not_lt.mp c)
            refine a_iconst (x := 0) dX0_reckons_47 rfl ⟨by decide, by decide⟩ ?_
            exact a_zret dX0_reckons_48 rfl (Or.inl rfl) hy
theorem s_LawCode_reckons_49 {d : Nat} {Q : Int → AH → Prop} {p1 : Int} {p2 : Int} {h : AH} (hy : ((p1 ≠ 1 → (inb p2 9 ∧ A_LawCode_reckons_72 d Q (h.1 3 8) (h.1 23 p2) h)) ∧ (p1 = 1 → A_LawCode_reckons_72 d Q (h.1 3 8) p2 h))) : A_LawCode_reckons_49 d Q p1 p2 h := by
  show AW d M_LawCode_reckons Q 49 [some (vR 3 (-1)), some (vI p1), some (vI p2)] [] h
  refine a_aload_n dX0_reckons_49 rfl ?_
  refine a_getR dX0_reckons_50 fl_LawCode_24 sk_3 rfl ?_
  refine a_aload_n dX0_reckons_53 rfl ?_
  refine a_getI' (kz := 8) dX0_reckons_54 fl_LawCode_51 sk_3 rfl rfl (rfl) ?_
  refine a_iload_n dX0_reckons_57 rfl ?_
  refine a_iconst (x := 1) dX0_reckons_58 rfl ⟨by decide, by decide⟩ ?_
  refine a_icmp_ne (tgt := 66) dX0_reckons_59 (by decide) (fun c => ?_) (fun c => ?_)
  · have hy := hy.1 c
    refine a_aload_n dX0_reckons_66 rfl ?_
    refine a_getR dX0_reckons_67 fl_LawCode_21 sk_3 rfl ?_
    refine a_iload_n dX0_reckons_70 rfl ?_
    obtain ⟨c1, hy⟩ := hy
    refine a_iald' dX0_reckons_71 sk_23 c1 (rfl) ?_
    refine a_mask [true, false, false] (ls2 := [some (vR 3 (-1)), none, none]) rfl rfl ?_
    exact hy
  · have hy := hy.2 (Decidable.not_not.mp c)
    refine a_iload_n dX0_reckons_62 rfl ?_
    refine a_goto (tgt := 72) dX0_reckons_63 (by decide) ?_
    refine a_mask [true, false, false] (ls2 := [some (vR 3 (-1)), none, none]) rfl rfl ?_
    exact hy
theorem s_LawCode_reckons_72 {d : Nat} {Q : Int → AH → Prop} {s1 : Int} {s2 : Int} {h : AH} (hy : inb s1 32 ∧ (inI ((h.1 3 8) + 1) ∧ Q 1 (wI (wI h 24 s1 s2) 3 8 ((h.1 3 8) + 1)))) : A_LawCode_reckons_72 d Q s1 s2 h := by
  show AW d M_LawCode_reckons Q 72 [some (vR 3 (-1)), none, none] [vI s2, vI s1, vR 24 (-1)] h
  obtain ⟨c1, hy⟩ := hy
  refine a_iast dX0_reckons_72 sk_24 c1 ?_
  refine a_aload_n dX0_reckons_73 rfl ?_
  refine a_dupR dX0_reckons_74 ?_
  refine a_getI' (kz := 8) dX0_reckons_75 fl_LawCode_51 sk_3 rfl rfl (rI_ne (by decide)) ?_
  refine a_iconst (x := 1) dX0_reckons_78 rfl ⟨by decide, by decide⟩ ?_
  obtain ⟨c2, hy⟩ := hy
  refine a_iadd dX0_reckons_79 c2 ?_
  refine a_putI (kz := 8) dX0_reckons_80 fp_LawCode_51 sk_3 rfl rfl ?_
  refine a_iconst (x := 1) dX0_reckons_83 rfl ⟨by decide, by decide⟩ ?_
  exact a_zret dX0_reckons_84 rfl (Or.inr rfl) hy
theorem c_LawCode_reckons {d : Nat} (d0 : Nat) (hd : d0 < d) {p1 : Int} {p2 : Int} {h : AH} {Q : Int → AH → Prop} (hy : ((p1 = 1 → A_LawCode_reckons_16 d0 Q p1 p2 h) ∧ (p1 ≠ 1 → ((p1 = 2 → A_LawCode_reckons_16 d0 Q p1 p2 h) ∧ (p1 ≠ 2 → (Call d0 M_LawCode_joinsTwo [vR 3 (-1), vI p1] h (fun r2 h1 => (r2 = 0 ∨ r2 = 1) ∧ Q r2 h1))))))) : Call d M_LawCode_reckons [vR 3 (-1), vI p1, vI p2] h Q := by
  refine ⟨d0, hd, Big.of rfl (Nat.le_of_ble_eq_true rfl) ?_⟩
  show AW d0 M_LawCode_reckons Q 0 [some (vR 3 (-1)), some (vI p1), some (vI p2)] [] h
  refine a_iload_n dX0_reckons_0 rfl ?_
  refine a_iconst (x := 1) dX0_reckons_1 rfl ⟨by decide, by decide⟩ ?_
  refine a_icmp_eq (tgt := 16) dX0_reckons_2 (by decide) (fun c => ?_) (fun c => ?_)
  · have hy := hy.1 c
    exact hy
  · have hy := hy.2 (c)
    refine a_iload_n dX0_reckons_5 rfl ?_
    refine a_iconst (x := 2) dX0_reckons_6 rfl ⟨by decide, by decide⟩ ?_
    refine a_icmp_eq (tgt := 16) dX0_reckons_7 (by decide) (fun c => ?_) (fun c => ?_)
    · have hy := hy.1 c
      exact hy
    · have hy := hy.2 (c)
      refine a_aload_n dX0_reckons_10 rfl ?_
      refine a_iload_n dX0_reckons_11 rfl ?_
      refine a_callVi (as := [vI p1]) (st := []) dX0_reckons_12 lk_LawCode_67 sk_3 rfl rfl (Nat.le_of_ble_eq_true rfl) (Or.inr rfl) (Call.mono hy (fun r2 h1 _ hy => ?_))
      obtain ⟨c3, hy⟩ := hy
      exact a_zret dX0_reckons_15 rfl c3 hy
theorem c_LawCode_restart {d : Nat} (d0 : Nat) (hd : d0 < d)  {h : AH} {Q : Int → AH → Prop} (hy : Q 0 (wI (wI h 5 5 0) 5 6 0)) : Call d M_LawCode_restart [vR 5 (-1)] h Q := by
  refine ⟨d0, hd, Big.of rfl (Nat.le_of_ble_eq_true rfl) ?_⟩
  show AW d0 M_LawCode_restart Q 0 [some (vR 5 (-1))] [] h
  refine a_aload_n dX0_restart_0 rfl ?_
  refine a_iconst (x := 0) dX0_restart_1 rfl ⟨by decide, by decide⟩ ?_
  refine a_putI (kz := 5) dX0_restart_2 fp_LawCode_27 sk_5 rfl rfl ?_
  refine a_aload_n dX0_restart_5 rfl ?_
  refine a_iconst (x := 0) dX0_restart_6 rfl ⟨by decide, by decide⟩ ?_
  refine a_putI (kz := 6) dX0_restart_7 fp_LawCode_31 sk_5 rfl rfl ?_
  exact a_vret dX0_restart_10 rfl hy
def A_LawCode_runsThrough_14 (d : Nat) (Q : Int → AH → Prop) (v2 : Int) (v3 : Int) (h : AH) : Prop := AW d M_LawCode_runsThrough Q 14 [some (vR 3 (-1)), none, some (vI v2), some (vI v3), none, none] [] h
def A_LawCode_runsThrough_101 (d : Nat) (Q : Int → AH → Prop) (v2 : Int) (v3 : Int) (v4 : Int) (v5 : Int) (h : AH) : Prop := AW d M_LawCode_runsThrough Q 101 [some (vR 3 (-1)), none, some (vI v2), some (vI v3), some (vI v4), some (vI v5)] [] h
theorem s_LawCode_runsThrough_14 {d : Nat} {Q : Int → AH → Prop} {v2 : Int} {v3 : Int} {h : AH} (hy : ((400 ≤ v3 → Q 0 h) ∧ (v3 < 400 → ((v2 < 0 → Q 0 h) ∧ (0 ≤ v2 → (inI (v2 + 1) ∧ (((v2 + 1) < 400 → (inb v2 400 ∧ (inb (v2 + 1) 400 ∧ (inI (v2 + 2) ∧ (((h.1 20 v2) ≠ 0 → (((h.1 20 v2) ≠ 3 → (((h.1 20 v2) = 4 → A_LawCode_runsThrough_101 d Q (v2 + 2) v3 (h.1 20 v2) (h.1 20 (v2 + 1)) h) ∧ ((h.1 20 v2) ≠ 4 → (((h.1 20 v2) ≠ 5 → (Call d M_LawCode_reckons [vR 3 (-1), vI (h.1 20 v2), vI (h.1 20 (v2 + 1))] h (fun r6 h5 => ((r6 ≠ 0 → (inI (v3 + 1) ∧ A_LawCode_runsThrough_14 d Q (v2 + 2) (v3 + 1) h5)) ∧ (r6 = 0 → Q 0 h5))))) ∧ ((h.1 20 v2) = 5 → A_LawCode_runsThrough_101 d Q (v2 + 2) v3 (h.1 20 v2) (h.1 20 (v2 + 1)) h))))) ∧ ((h.1 20 v2) = 3 → (((if (h.1 3 9) = 0 then (1 : Int) else 0) = 0 ∨ (if (h.1 3 9) = 0 then (1 : Int) else 0) = 1) ∧ (inI (v3 + 1) ∧ A_LawCode_runsThrough_14 d Q (v2 + 2) (v3 + 1) (wI h 3 9 (if (h.1 3 9) = 0 then (1 : Int) else 0))))))) ∧ ((h.1 20 v2) = 0 → Q 1 h)))))) ∧ (400 ≤ (v2 + 1) → Q 0 h)))))))) : A_LawCode_runsThrough_14 d Q v2 v3 h := by
  show AW d M_LawCode_runsThrough Q 14 [some (vR 3 (-1)), none, some (vI v2), some (vI v3), none, none] [] h
  refine a_iload_n dX0_runsThrough_14 rfl ?_
  refine a_sipush (x := 400) dX0_runsThrough_15 (by decide) ⟨by decide, by decide⟩ ?_
  refine a_icmp_ge (tgt := 148) dX0_runsThrough_18 (by decide) (fun c => ?_) (fun c => ?_)
  · have hy := hy.1 c
    refine a_iconst (x := 0) dX0_runsThrough_148 rfl ⟨by decide, by decide⟩ ?_
    exact a_zret dX0_runsThrough_149 rfl (Or.inl rfl) hy
  · have hy := hy.2 (Int.not_le.mp c)
    refine a_iload_n dX0_runsThrough_21 rfl ?_
    refine a_if_lt (tgt := 34) dX0_runsThrough_22 (by decide) (fun c => ?_) (fun c => ?_)
    · have hy := hy.1 c
      refine a_iconst (x := 0) dX0_runsThrough_34 rfl ⟨by decide, by decide⟩ ?_
      exact a_zret dX0_runsThrough_35 rfl (Or.inl rfl) hy
    · have hy := hy.2 (Int.not_lt.mp c)
      refine a_iload_n dX0_runsThrough_25 rfl ?_
      refine a_iconst (x := 1) dX0_runsThrough_26 rfl ⟨by decide, by decide⟩ ?_
      obtain ⟨c1, hy⟩ := hy
      refine a_iadd dX0_runsThrough_27 c1 ?_
      refine a_sipush (x := 400) dX0_runsThrough_28 (by decide) ⟨by decide, by decide⟩ ?_
      refine a_icmp_lt (tgt := 36) dX0_runsThrough_31 (by decide) (fun c => ?_) (fun c => ?_)
      · have hy := hy.1 c
        refine a_aload_n dX0_runsThrough_36 rfl ?_
        refine a_getR dX0_runsThrough_37 fl_LawCode_11 sk_3 rfl ?_
        refine a_iload_n dX0_runsThrough_40 rfl ?_
        obtain ⟨c2, hy⟩ := hy
        refine a_iald' dX0_runsThrough_41 sk_20 c2 (rfl) ?_
        refine a_istore (ls2 := [some (vR 3 (-1)), none, some (vI v2), some (vI v3), some (vI (h.1 20 v2)), none]) dX0_runsThrough_42 (Nat.le_of_ble_eq_true rfl) rfl ?_
        refine a_aload_n dX0_runsThrough_44 rfl ?_
        refine a_getR dX0_runsThrough_45 fl_LawCode_11 sk_3 rfl ?_
        refine a_iload_n dX0_runsThrough_48 rfl ?_
        refine a_iconst (x := 1) dX0_runsThrough_49 rfl ⟨by decide, by decide⟩ ?_
        refine a_iadd dX0_runsThrough_50 c1 ?_
        obtain ⟨c3, hy⟩ := hy
        refine a_iald' dX0_runsThrough_51 sk_20 c3 (rfl) ?_
        refine a_istore (ls2 := [some (vR 3 (-1)), none, some (vI v2), some (vI v3), some (vI (h.1 20 v2)), some (vI (h.1 20 (v2 + 1)))]) dX0_runsThrough_52 (Nat.le_of_ble_eq_true rfl) rfl ?_
        obtain ⟨c4, hy⟩ := hy
        refine a_iinc (y := v2 + 2) (ls2 := [some (vR 3 (-1)), none, some (vI (v2 + 2)), some (vI v3), some (vI (h.1 20 v2)), some (vI (h.1 20 (v2 + 1)))]) dX0_runsThrough_54 rfl rfl c4 rfl ?_
        refine a_iload dX0_runsThrough_57 rfl ?_
        refine a_if_ne (tgt := 64) dX0_runsThrough_59 (by decide) (fun c => ?_) (fun c => ?_)
        · have hy := hy.1 c
          refine a_iload dX0_runsThrough_64 rfl ?_
          refine a_iconst (x := 3) dX0_runsThrough_66 rfl ⟨by decide, by decide⟩ ?_
          refine a_icmp_ne (tgt := 89) dX0_runsThrough_67 (by decide) (fun c => ?_) (fun c => ?_)
          · have hy := hy.1 c
            refine a_iload dX0_runsThrough_89 rfl ?_
            refine a_iconst (x := 4) dX0_runsThrough_91 rfl ⟨by decide, by decide⟩ ?_
            refine a_icmp_eq (tgt := 101) dX0_runsThrough_92 (by decide) (fun c => ?_) (fun c => ?_)
            · have hy := hy.1 c
              exact hy
            · have hy := hy.2 (c)
              refine a_iload dX0_runsThrough_95 rfl ?_
              refine a_iconst (x := 5) dX0_runsThrough_97 rfl ⟨by decide, by decide⟩ ?_
              refine a_icmp_ne (tgt := 129) dX0_runsThrough_98 (by decide) (fun c => ?_) (fun c => ?_)
              · have hy := hy.1 c
                refine a_aload_n dX0_runsThrough_129 rfl ?_
                refine a_iload dX0_runsThrough_130 rfl ?_
                refine a_iload dX0_runsThrough_132 rfl ?_
                refine a_callVi (as := [vI (h.1 20 v2), vI (h.1 20 (v2 + 1))]) (st := []) dX0_runsThrough_134 lk_LawCode_63 sk_3 rfl rfl (Nat.le_of_ble_eq_true rfl) (Or.inr rfl) (Call.mono hy (fun r6 h5 _ hy => ?_))
                refine a_if_ne (tgt := 142) dX0_runsThrough_137 (by decide) (fun c => ?_) (fun c => ?_)
                · have hy := hy.1 c
                  obtain ⟨c7, hy⟩ := hy
                  refine a_iinc (y := v3 + 1) (ls2 := [some (vR 3 (-1)), none, some (vI (v2 + 2)), some (vI (v3 + 1)), some (vI (h.1 20 v2)), some (vI (h.1 20 (v2 + 1)))]) dX0_runsThrough_142 rfl rfl c7 rfl ?_
                  refine a_goto (tgt := 14) dX0_runsThrough_145 (by decide) ?_
                  refine a_mask [true, true, true, true, false, false] (ls2 := [some (vR 3 (-1)), none, some (vI (v2 + 2)), some (vI (v3 + 1)), none, none]) rfl rfl ?_
                  exact hy
                · have hy := hy.2 (Decidable.not_not.mp c)
                  refine a_iconst (x := 0) dX0_runsThrough_140 rfl ⟨by decide, by decide⟩ ?_
                  exact a_zret dX0_runsThrough_141 rfl (Or.inl rfl) hy
              · have hy := hy.2 (Decidable.not_not.mp c)
                exact hy
          · have hy := hy.2 (Decidable.not_not.mp c)
            refine a_aload_n dX0_runsThrough_70 rfl ?_
            refine a_aload_n dX0_runsThrough_71 rfl ?_
            refine a_getI' (kz := 9) dX0_runsThrough_72 fl_LawCode_47 sk_3 rfl rfl (rfl) ?_
            have J : AW d M_LawCode_runsThrough Q 83 [some (vR 3 (-1)), none, some (vI (v2 + 2)), some (vI v3), some (vI (h.1 20 v2)), some (vI (h.1 20 (v2 + 1)))] [vI (if (h.1 3 9) = 0 then (1 : Int) else 0), vR 3 (-1)] h := by
              obtain ⟨c8, hy⟩ := hy
              refine a_putZ (kz := 9) dX0_runsThrough_83 fp_LawCode_47 sk_3 rfl rfl c8 ?_
              refine a_goto (tgt := 142) dX0_runsThrough_86 (by decide) ?_
              obtain ⟨c9, hy⟩ := hy
              refine a_iinc (y := v3 + 1) (ls2 := [some (vR 3 (-1)), none, some (vI (v2 + 2)), some (vI (v3 + 1)), some (vI (h.1 20 v2)), some (vI (h.1 20 (v2 + 1)))]) dX0_runsThrough_142 rfl rfl c9 rfl ?_
              refine a_goto (tgt := 14) dX0_runsThrough_145 (by decide) ?_
              refine a_mask [true, true, true, true, false, false] (ls2 := [some (vR 3 (-1)), none, some (vI (v2 + 2)), some (vI (v3 + 1)), none, none]) rfl rfl ?_
              exact hy
            refine a_if_ne (tgt := 82) dX0_runsThrough_75 (by decide) (fun e10 => ?_) (fun e10 => ?_)
            · refine a_iconst (x := 0) dX0_runsThrough_82 rfl ⟨by decide, by decide⟩ ?_
              exact a_cast (by first | rfl | simp only [if_neg e10]) (by first | rfl | simp only [if_neg e10]) J
            · refine a_iconst (x := 1) dX0_runsThrough_78 rfl ⟨by decide, by decide⟩ ?_
              refine a_goto (tgt := 83) dX0_runsThrough_79 (by decide) ?_
              exact a_cast (by first | rfl | simp only [if_pos (Decidable.not_not.mp e10)]) (by first | rfl | simp only [if_pos (Decidable.not_not.mp e10)]) J
        · have hy := hy.2 (Decidable.not_not.mp c)
          refine a_iconst (x := 1) dX0_runsThrough_62 rfl ⟨by decide, by decide⟩ ?_
          exact a_zret dX0_runsThrough_63 rfl (Or.inr rfl) hy
      · have hy := hy.2 (Int.not_lt.mp c)
        refine a_iconst (x := 0) dX0_runsThrough_34 rfl ⟨by decide, by decide⟩ ?_
        exact a_zret dX0_runsThrough_35 rfl (Or.inl rfl) hy
theorem s_LawCode_runsThrough_101 {d : Nat} {Q : Int → AH → Prop} {v2 : Int} {v3 : Int} {v4 : Int} {v5 : Int} {h : AH} (hy : inI (v3 + 1) ∧ A_LawCode_runsThrough_14 d Q (if (h.1 3 9) = (if v4 = 4 then (1 : Int) else 0) then (v5 : Int) else v2) (v3 + 1) h) : A_LawCode_runsThrough_101 d Q v2 v3 v4 v5 h := by
  show AW d M_LawCode_runsThrough Q 101 [some (vR 3 (-1)), none, some (vI v2), some (vI v3), some (vI v4), some (vI v5)] [] h
  refine a_aload_n dX0_runsThrough_101 rfl ?_
  refine a_getI' (kz := 9) dX0_runsThrough_102 fl_LawCode_47 sk_3 rfl rfl (rfl) ?_
  refine a_iload dX0_runsThrough_105 rfl ?_
  refine a_iconst (x := 4) dX0_runsThrough_107 rfl ⟨by decide, by decide⟩ ?_
  have J : AW d M_LawCode_runsThrough Q 116 [some (vR 3 (-1)), none, some (vI v2), some (vI v3), some (vI v4), some (vI v5)] [vI (if v4 = 4 then (1 : Int) else 0), vI (h.1 3 9)] h := by
    have J : AW d M_LawCode_runsThrough Q 125 [some (vR 3 (-1)), none, some (vI v2), some (vI v3), some (vI v4), some (vI v5)] [vI (if (h.1 3 9) = (if v4 = 4 then (1 : Int) else 0) then (v5 : Int) else v2)] h := by
      refine a_istore_n (i := 2) (ls2 := [some (vR 3 (-1)), none, some (vI (if (h.1 3 9) = (if v4 = 4 then (1 : Int) else 0) then (v5 : Int) else v2)), some (vI v3), some (vI v4), some (vI v5)]) dX0_runsThrough_125 rfl (Nat.le_of_ble_eq_true rfl) rfl ?_
      refine a_goto (tgt := 142) dX0_runsThrough_126 (by decide) ?_
      obtain ⟨c1, hy⟩ := hy
      refine a_iinc (y := v3 + 1) (ls2 := [some (vR 3 (-1)), none, some (vI (if (h.1 3 9) = (if v4 = 4 then (1 : Int) else 0) then (v5 : Int) else v2)), some (vI (v3 + 1)), some (vI v4), some (vI v5)]) dX0_runsThrough_142 rfl rfl c1 rfl ?_
      refine a_goto (tgt := 14) dX0_runsThrough_145 (by decide) ?_
      refine a_mask [true, true, true, true, false, false] (ls2 := [some (vR 3 (-1)), none, some (vI (if (h.1 3 9) = (if v4 = 4 then (1 : Int) else 0) then (v5 : Int) else v2)), some (vI (v3 + 1)), none, none]) rfl rfl ?_
      exact hy
    refine a_icmp_ne (tgt := 124) dX0_runsThrough_116 (by decide) (fun e2 => ?_) (fun e2 => ?_)
    · refine a_iload_n dX0_runsThrough_124 rfl ?_
      exact a_cast (by first | rfl | simp only [if_neg e2]) (by first | rfl | simp only [if_neg e2]) J
    · refine a_iload dX0_runsThrough_119 rfl ?_
      refine a_goto (tgt := 125) dX0_runsThrough_121 (by decide) ?_
      exact a_cast (by first | rfl | simp only [if_pos (Decidable.not_not.mp e2)]) (by first | rfl | simp only [if_pos (Decidable.not_not.mp e2)]) J
  refine a_icmp_ne (tgt := 115) dX0_runsThrough_108 (by decide) (fun e3 => ?_) (fun e3 => ?_)
  · refine a_iconst (x := 0) dX0_runsThrough_115 rfl ⟨by decide, by decide⟩ ?_
    exact a_cast (by first | rfl | simp only [if_neg e3]) (by first | rfl | simp only [if_neg e3]) J
  · refine a_iconst (x := 1) dX0_runsThrough_111 rfl ⟨by decide, by decide⟩ ?_
    refine a_goto (tgt := 116) dX0_runsThrough_112 (by decide) ?_
    exact a_cast (by first | rfl | simp only [if_pos (Decidable.not_not.mp e3)]) (by first | rfl | simp only [if_pos (Decidable.not_not.mp e3)]) J
theorem c_LawCode_runsThrough {d : Nat} (d0 : Nat) (hd : d0 < d) {p1 : Int} {h : AH} {Q : Int → AH → Prop} (hy : A_LawCode_runsThrough_14 d0 Q p1 0 (wI (wI h 3 8 0) 3 9 0)) : Call d M_LawCode_runsThrough [vR 3 (-1), vI p1] h Q := by
  refine ⟨d0, hd, Big.of rfl (Nat.le_of_ble_eq_true rfl) ?_⟩
  show AW d0 M_LawCode_runsThrough Q 0 [some (vR 3 (-1)), some (vI p1), none, none, none, none] [] h
  refine a_iload_n dX0_runsThrough_0 rfl ?_
  refine a_istore_n (i := 2) (ls2 := [some (vR 3 (-1)), some (vI p1), some (vI p1), none, none, none]) dX0_runsThrough_1 rfl (Nat.le_of_ble_eq_true rfl) rfl ?_
  refine a_aload_n dX0_runsThrough_2 rfl ?_
  refine a_iconst (x := 0) dX0_runsThrough_3 rfl ⟨by decide, by decide⟩ ?_
  refine a_putI (kz := 8) dX0_runsThrough_4 fp_LawCode_51 sk_3 rfl rfl ?_
  refine a_aload_n dX0_runsThrough_7 rfl ?_
  refine a_iconst (x := 0) dX0_runsThrough_8 rfl ⟨by decide, by decide⟩ ?_
  refine a_putZ (kz := 9) dX0_runsThrough_9 fp_LawCode_47 sk_3 rfl rfl (Or.inl rfl) ?_
  refine a_iconst (x := 0) dX0_runsThrough_12 rfl ⟨by decide, by decide⟩ ?_
  refine a_istore_n (i := 3) (ls2 := [some (vR 3 (-1)), some (vI p1), some (vI p1), some (vI 0), none, none]) dX0_runsThrough_13 rfl (Nat.le_of_ble_eq_true rfl) rfl ?_
  refine a_mask [true, false, true, true, true, true] (ls2 := [some (vR 3 (-1)), none, some (vI p1), some (vI 0), none, none]) rfl rfl ?_
  exact hy

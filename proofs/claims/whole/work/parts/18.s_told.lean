def A_Told_areUsed_2 (d : Nat) (Q : Int → AH → Prop) (v1 : Int) (h : AH) : Prop := AW d M_Told_areUsed Q 2 [some (vR 10 (-1)), some (vI v1)] [] h
theorem s_Told_areUsed_2 {d : Nat} {Q : Int → AH → Prop} {v1 : Int} {h : AH} (hy : (((h.1 10 10) ≤ v1 → Q 1 h) ∧ (v1 < (h.1 10 10) → (inb v1 14 ∧ (Call d M_Words_isUsed [vR 2 (-1), vI (h.1 48 v1)] h (fun r3 h2 => ((r3 ≠ 0 → (inI (v1 + 1) ∧ A_Told_areUsed_2 d Q (v1 + 1) h2)) ∧ (r3 = 0 → Q 0 h2)))))))) : A_Told_areUsed_2 d Q v1 h := by
  show AW d M_Told_areUsed Q 2 [some (vR 10 (-1)), some (vI v1)] [] h
  refine a_iload_n dX7_areUsed_2 rfl ?_
  refine a_aload_n dX7_areUsed_3 rfl ?_
  refine a_getI' (kz := 10) dX7_areUsed_4 fl_Told_47 sk_10 rfl rfl (rfl) ?_
  refine a_icmp_ge (tgt := 34) dX7_areUsed_7 (by decide) (fun c => ?_) (fun c => ?_)
  · have hy := hy.1 c
    refine a_iconst (x := 1) dX7_areUsed_34 rfl ⟨by decide, by decide⟩ ?_
    exact a_zret dX7_areUsed_35 rfl (Or.inr rfl) hy
  · have hy := hy.2 (Int.not_le.mp c)
    refine a_aload_n dX7_areUsed_10 rfl ?_
    refine a_getR dX7_areUsed_11 fl_Told_31 sk_10 rfl ?_
    refine a_aload_n dX7_areUsed_14 rfl ?_
    refine a_getR dX7_areUsed_15 fl_Told_9 sk_10 rfl ?_
    refine a_iload_n dX7_areUsed_18 rfl ?_
    obtain ⟨c1, hy⟩ := hy
    refine a_iald' dX7_areUsed_19 sk_48 c1 (rfl) ?_
    refine a_callVi (as := [vI (h.1 48 v1)]) (st := []) dX7_areUsed_20 lk_Told_63 sk_2 rfl rfl (Nat.le_of_ble_eq_true rfl) (Or.inr rfl) (Call.mono hy (fun r3 h2 _ hy => ?_))
    refine a_if_ne (tgt := 28) dX7_areUsed_23 (by decide) (fun c => ?_) (fun c => ?_)
    · have hy := hy.1 c
      obtain ⟨c4, hy⟩ := hy
      refine a_iinc (y := v1 + 1) (ls2 := [some (vR 10 (-1)), some (vI (v1 + 1))]) dX7_areUsed_28 rfl rfl c4 rfl ?_
      refine a_goto (tgt := 2) dX7_areUsed_31 (by decide) ?_
      exact hy
    · have hy := hy.2 (Decidable.not_not.mp c)
      refine a_iconst (x := 0) dX7_areUsed_26 rfl ⟨by decide, by decide⟩ ?_
      exact a_zret dX7_areUsed_27 rfl (Or.inl rfl) hy
theorem c_Told_areUsed {d : Nat} (d0 : Nat) (hd : d0 < d)  {h : AH} {Q : Int → AH → Prop} (hy : A_Told_areUsed_2 d0 Q 0 h) : Call d M_Told_areUsed [vR 10 (-1)] h Q := by
  refine ⟨d0, hd, Big.of rfl (Nat.le_of_ble_eq_true rfl) ?_⟩
  show AW d0 M_Told_areUsed Q 0 [some (vR 10 (-1)), none] [] h
  refine a_iconst (x := 0) dX7_areUsed_0 rfl ⟨by decide, by decide⟩ ?_
  refine a_istore_n (i := 1) (ls2 := [some (vR 10 (-1)), some (vI 0)]) dX7_areUsed_1 rfl (Nat.le_of_ble_eq_true rfl) rfl ?_
  exact hy
def A_Told_costOnward_20 (d : Nat) (Q : Int → AH → Prop) (p1 : Int) (p2 : Int) (v3 : Int) (v4 : Int) (h : AH) : Prop := AW d M_Told_costOnward Q 20 [some (vR 10 (-1)), some (vI p1), some (vI p2), some (vI v3), some (vI v4), none] [] h
theorem s_Told_costOnward_20 {d : Nat} {Q : Int → AH → Prop} {p1 : Int} {p2 : Int} {v3 : Int} {v4 : Int} {h : AH} (hy : (((h.1 10 10) ≤ v4 → Q v3 h) ∧ (v4 < (h.1 10 10) → (inI (p2 * (h.1 10 10)) ∧ (inI ((p2 * (h.1 10 10)) + v4) ∧ (inb ((p2 * (h.1 10 10)) + v4) 100 ∧ (((h.1 49 ((p2 * (h.1 10 10)) + v4)) = 0 → (inI (v4 + 1) ∧ A_Told_costOnward_20 d Q p1 p2 v3 (v4 + 1) h)) ∧ ((h.1 49 ((p2 * (h.1 10 10)) + v4)) ≠ 0 → (((iand (iushr p1 v4) 1) ≠ 0 → (inI (v4 + 1) ∧ A_Told_costOnward_20 d Q p1 p2 v3 (v4 + 1) h)) ∧ ((iand (iushr p1 v4) 1) = 0 → (inI ((ior p1 (ishl 1 v4)) * (h.1 10 10)) ∧ (inI (((ior p1 (ishl 1 v4)) * (h.1 10 10)) + v4) ∧ (inb (((ior p1 (ishl 1 v4)) * (h.1 10 10)) + v4) 10240 ∧ (inI ((h.1 49 ((p2 * (h.1 10 10)) + v4)) + (h.1 50 (((ior p1 (ishl 1 v4)) * (h.1 10 10)) + v4))) ∧ (1 ≤ d ∧ (inI (v4 + 1) ∧ A_Told_costOnward_20 d Q p1 p2 (min v3 ((h.1 49 ((p2 * (h.1 10 10)) + v4)) + (h.1 50 (((ior p1 (ishl 1 v4)) * (h.1 10 10)) + v4)))) (v4 + 1) h)))))))))))))))) : A_Told_costOnward_20 d Q p1 p2 v3 v4 h := by
  show AW d M_Told_costOnward Q 20 [some (vR 10 (-1)), some (vI p1), some (vI p2), some (vI v3), some (vI v4), none] [] h
  refine a_iload dX7_costOnward_20 rfl ?_
  refine a_aload_n dX7_costOnward_22 rfl ?_
  refine a_getI' (kz := 10) dX7_costOnward_23 fl_Told_47 sk_10 rfl rfl (rfl) ?_
  refine a_icmp_ge (tgt := 92) dX7_costOnward_26 (by decide) (fun c => ?_) (fun c => ?_)
  · have hy := hy.1 c
    refine a_iload_n dX7_costOnward_92 rfl ?_
    exact a_iret dX7_costOnward_93 rfl hy
  · have hy := hy.2 (Int.not_le.mp c)
    refine a_aload_n dX7_costOnward_29 rfl ?_
    refine a_getR dX7_costOnward_30 fl_Told_15 sk_10 rfl ?_
    refine a_iload_n dX7_costOnward_33 rfl ?_
    refine a_aload_n dX7_costOnward_34 rfl ?_
    refine a_getI' (kz := 10) dX7_costOnward_35 fl_Told_47 sk_10 rfl rfl (rfl) ?_
    obtain ⟨c1, hy⟩ := hy
    refine a_imul dX7_costOnward_38 c1 ?_
    refine a_iload dX7_costOnward_39 rfl ?_
    obtain ⟨c2, hy⟩ := hy
    refine a_iadd dX7_costOnward_41 c2 ?_
    obtain ⟨c3, hy⟩ := hy
    refine a_iald' dX7_costOnward_42 sk_49 c3 (rfl) ?_
    refine a_istore (ls2 := [some (vR 10 (-1)), some (vI p1), some (vI p2), some (vI v3), some (vI v4), some (vI (h.1 49 ((p2 * (h.1 10 10)) + v4)))]) dX7_costOnward_43 (Nat.le_of_ble_eq_true rfl) rfl ?_
    refine a_iload dX7_costOnward_45 rfl ?_
    refine a_if_eq (tgt := 86) dX7_costOnward_47 (by decide) (fun c => ?_) (fun c => ?_)
    · have hy := hy.1 c
      obtain ⟨c4, hy⟩ := hy
      refine a_iinc (y := v4 + 1) (ls2 := [some (vR 10 (-1)), some (vI p1), some (vI p2), some (vI v3), some (vI (v4 + 1)), some (vI (h.1 49 ((p2 * (h.1 10 10)) + v4)))]) dX7_costOnward_86 rfl rfl c4 rfl ?_
      refine a_goto (tgt := 20) dX7_costOnward_89 (by decide) ?_
      refine a_mask [true, true, true, true, true, false] (ls2 := [some (vR 10 (-1)), some (vI p1), some (vI p2), some (vI v3), some (vI (v4 + 1)), none]) rfl rfl ?_
      exact hy
    · have hy := hy.2 (c)
      refine a_iload_n dX7_costOnward_50 rfl ?_
      refine a_iload dX7_costOnward_51 rfl ?_
      refine a_iushr dX7_costOnward_53 ?_
      refine a_iconst (x := 1) dX7_costOnward_54 rfl ⟨by decide, by decide⟩ ?_
      refine a_iand dX7_costOnward_55 ?_
      refine a_if_ne (tgt := 86) dX7_costOnward_56 (by decide) (fun c => ?_) (fun c => ?_)
      · have hy := hy.1 c
        obtain ⟨c5, hy⟩ := hy
        refine a_iinc (y := v4 + 1) (ls2 := [some (vR 10 (-1)), some (vI p1), some (vI p2), some (vI v3), some (vI (v4 + 1)), some (vI (h.1 49 ((p2 * (h.1 10 10)) + v4)))]) dX7_costOnward_86 rfl rfl c5 rfl ?_
        refine a_goto (tgt := 20) dX7_costOnward_89 (by decide) ?_
        refine a_mask [true, true, true, true, true, false] (ls2 := [some (vR 10 (-1)), some (vI p1), some (vI p2), some (vI v3), some (vI (v4 + 1)), none]) rfl rfl ?_
        exact hy
      · have hy := hy.2 (Decidable.not_not.mp c)
        refine a_iload_n dX7_costOnward_59 rfl ?_
        refine a_iload dX7_costOnward_60 rfl ?_
        refine a_aload_n dX7_costOnward_62 rfl ?_
        refine a_getR dX7_costOnward_63 fl_Told_18 sk_10 rfl ?_
        refine a_iload_n dX7_costOnward_66 rfl ?_
        refine a_iconst (x := 1) dX7_costOnward_67 rfl ⟨by decide, by decide⟩ ?_
        refine a_iload dX7_costOnward_68 rfl ?_
        refine a_ishl dX7_costOnward_70 ?_
        refine a_ior dX7_costOnward_71 ?_
        refine a_aload_n dX7_costOnward_72 rfl ?_
        refine a_getI' (kz := 10) dX7_costOnward_73 fl_Told_47 sk_10 rfl rfl (rfl) ?_
        obtain ⟨c6, hy⟩ := hy
        refine a_imul dX7_costOnward_76 c6 ?_
        refine a_iload dX7_costOnward_77 rfl ?_
        obtain ⟨c7, hy⟩ := hy
        refine a_iadd dX7_costOnward_79 c7 ?_
        obtain ⟨c8, hy⟩ := hy
        refine a_iald' dX7_costOnward_80 sk_50 c8 (rfl) ?_
        obtain ⟨c9, hy⟩ := hy
        refine a_iadd dX7_costOnward_81 c9 ?_
        obtain ⟨c10, hy⟩ := hy
        refine a_mmin' dX7_costOnward_82 ml_Told_82 c10 (Nat.le_of_ble_eq_true rfl) ?_
        refine a_istore_n (i := 3) (ls2 := [some (vR 10 (-1)), some (vI p1), some (vI p2), some (vI (min v3 ((h.1 49 ((p2 * (h.1 10 10)) + v4)) + (h.1 50 (((ior p1 (ishl 1 v4)) * (h.1 10 10)) + v4))))), some (vI v4), some (vI (h.1 49 ((p2 * (h.1 10 10)) + v4)))]) dX7_costOnward_85 rfl (Nat.le_of_ble_eq_true rfl) rfl ?_
        obtain ⟨c11, hy⟩ := hy
        refine a_iinc (y := v4 + 1) (ls2 := [some (vR 10 (-1)), some (vI p1), some (vI p2), some (vI (min v3 ((h.1 49 ((p2 * (h.1 10 10)) + v4)) + (h.1 50 (((ior p1 (ishl 1 v4)) * (h.1 10 10)) + v4))))), some (vI (v4 + 1)), some (vI (h.1 49 ((p2 * (h.1 10 10)) + v4)))]) dX7_costOnward_86 rfl rfl c11 rfl ?_
        refine a_goto (tgt := 20) dX7_costOnward_89 (by decide) ?_
        refine a_mask [true, true, true, true, true, false] (ls2 := [some (vR 10 (-1)), some (vI p1), some (vI p2), some (vI (min v3 ((h.1 49 ((p2 * (h.1 10 10)) + v4)) + (h.1 50 (((ior p1 (ishl 1 v4)) * (h.1 10 10)) + v4))))), some (vI (v4 + 1)), none]) rfl rfl ?_
        exact hy
theorem c_Told_costOnward {d : Nat} (d0 : Nat) (hd : d0 < d) {p1 : Int} {p2 : Int} {h : AH} {Q : Int → AH → Prop} (hy : inI ((ishl 1 (h.1 10 10)) - 1) ∧ ((p1 ≠ ((ishl 1 (h.1 10 10)) - 1) → A_Told_costOnward_20 d0 Q p1 p2 536870912 0 h) ∧ (p1 = ((ishl 1 (h.1 10 10)) - 1) → Q 0 h))) : Call d M_Told_costOnward [vR 10 (-1), vI p1, vI p2] h Q := by
  refine ⟨d0, hd, Big.of rfl (Nat.le_of_ble_eq_true rfl) ?_⟩
  show AW d0 M_Told_costOnward Q 0 [some (vR 10 (-1)), some (vI p1), some (vI p2), none, none, none] [] h
  refine a_iload_n dX7_costOnward_0 rfl ?_
  refine a_iconst (x := 1) dX7_costOnward_1 rfl ⟨by decide, by decide⟩ ?_
  refine a_aload_n dX7_costOnward_2 rfl ?_
  refine a_getI' (kz := 10) dX7_costOnward_3 fl_Told_47 sk_10 rfl rfl (rfl) ?_
  refine a_ishl dX7_costOnward_6 ?_
  refine a_iconst (x := 1) dX7_costOnward_7 rfl ⟨by decide, by decide⟩ ?_
  obtain ⟨c1, hy⟩ := hy
  refine a_isub dX7_costOnward_8 c1 ?_
  refine a_icmp_ne (tgt := 14) dX7_costOnward_9 (by decide) (fun c => ?_) (fun c => ?_)
  · have hy := hy.1 c
    refine a_ldc (x := 536870912) dX7_costOnward_14 kc_Told_78 ⟨by decide, by decide⟩ ?_
    refine a_istore_n (i := 3) (ls2 := [some (vR 10 (-1)), some (vI p1), some (vI p2), some (vI 536870912), none, none]) dX7_costOnward_16 rfl (Nat.le_of_ble_eq_true rfl) rfl ?_
    refine a_iconst (x := 0) dX7_costOnward_17 rfl ⟨by decide, by decide⟩ ?_
    refine a_istore (ls2 := [some (vR 10 (-1)), some (vI p1), some (vI p2), some (vI 536870912), some (vI 0), none]) dX7_costOnward_18 (Nat.le_of_ble_eq_true rfl) rfl ?_
    exact hy
  · have hy := hy.2 (Decidable.not_not.mp c)
    refine a_iconst (x := 0) dX7_costOnward_12 rfl ⟨by decide, by decide⟩ ?_
    exact a_iret dX7_costOnward_13 rfl hy
def A_Told_findRow_17 (d : Nat) (Q : Int → AH → Prop) (v1 : Int) (h : AH) : Prop := AW d M_Told_findRow Q 17 [some (vR 10 (-1)), some (vI v1), none] [] h
def A_Told_findRow_88 (d : Nat) (Q : Int → AH → Prop) (v1 : Int) (h : AH) : Prop := AW d M_Told_findRow Q 88 [some (vR 10 (-1)), some (vI v1), none] [] h
def A_Told_findRow_27 (d : Nat) (Q : Int → AH → Prop) (v1 : Int) (v2 : Int) (h : AH) : Prop := AW d M_Told_findRow Q 27 [some (vR 10 (-1)), some (vI v1), some (vI v2)] [] h
def A_Told_findRow_149 (d : Nat) (Q : Int → AH → Prop) (v1 : Int) (h : AH) : Prop := AW d M_Told_findRow Q 149 [some (vR 10 (-1)), some (vI v1), none] [] h
def A_Told_findRow_94 (d : Nat) (Q : Int → AH → Prop) (v1 : Int) (v2 : Int) (h : AH) : Prop := AW d M_Told_findRow Q 94 [some (vR 10 (-1)), some (vI v1), some (vI v2)] [] h
theorem s_Told_findRow_17 {d : Nat} {Q : Int → AH → Prop} {v1 : Int} {h : AH} (hy : (((h.1 10 10) ≤ v1 → (inI ((ishl 1 (h.1 10 10)) - 1) ∧ A_Told_findRow_88 d Q ((ishl 1 (h.1 10 10)) - 1) h)) ∧ (v1 < (h.1 10 10) → A_Told_findRow_27 d Q v1 0 h))) : A_Told_findRow_17 d Q v1 h := by
  show AW d M_Told_findRow Q 17 [some (vR 10 (-1)), some (vI v1), none] [] h
  refine a_iload_n dX7_findRow_17 rfl ?_
  refine a_aload_n dX7_findRow_18 rfl ?_
  refine a_getI' (kz := 10) dX7_findRow_19 fl_Told_47 sk_10 rfl rfl (rfl) ?_
  refine a_icmp_ge (tgt := 79) dX7_findRow_22 (by decide) (fun c => ?_) (fun c => ?_)
  · have hy := hy.1 c
    refine a_iconst (x := 1) dX7_findRow_79 rfl ⟨by decide, by decide⟩ ?_
    refine a_aload_n dX7_findRow_80 rfl ?_
    refine a_getI' (kz := 10) dX7_findRow_81 fl_Told_47 sk_10 rfl rfl (rfl) ?_
    refine a_ishl dX7_findRow_84 ?_
    refine a_iconst (x := 1) dX7_findRow_85 rfl ⟨by decide, by decide⟩ ?_
    obtain ⟨c1, hy⟩ := hy
    refine a_isub dX7_findRow_86 c1 ?_
    refine a_istore_n (i := 1) (ls2 := [some (vR 10 (-1)), some (vI ((ishl 1 (h.1 10 10)) - 1)), none]) dX7_findRow_87 rfl (Nat.le_of_ble_eq_true rfl) rfl ?_
    exact hy
  · have hy := hy.2 (Int.not_le.mp c)
    refine a_iconst (x := 0) dX7_findRow_25 rfl ⟨by decide, by decide⟩ ?_
    refine a_istore_n (i := 2) (ls2 := [some (vR 10 (-1)), some (vI v1), some (vI 0)]) dX7_findRow_26 rfl (Nat.le_of_ble_eq_true rfl) rfl ?_
    exact hy
theorem s_Told_findRow_88 {d : Nat} {Q : Int → AH → Prop} {v1 : Int} {h : AH} (hy : ((v1 ≤ 0 → A_Told_findRow_149 d Q 0 (wI h 10 11 536870912)) ∧ (0 < v1 → A_Told_findRow_94 d Q v1 0 h))) : A_Told_findRow_88 d Q v1 h := by
  show AW d M_Told_findRow Q 88 [some (vR 10 (-1)), some (vI v1), none] [] h
  refine a_iload_n dX7_findRow_88 rfl ?_
  refine a_if_le (tgt := 141) dX7_findRow_89 (by decide) (fun c => ?_) (fun c => ?_)
  · have hy := hy.1 c
    refine a_aload_n dX7_findRow_141 rfl ?_
    refine a_ldc (x := 536870912) dX7_findRow_142 kc_Told_78 ⟨by decide, by decide⟩ ?_
    refine a_putI (kz := 11) dX7_findRow_144 fp_Told_79 sk_10 rfl rfl ?_
    refine a_iconst (x := 0) dX7_findRow_147 rfl ⟨by decide, by decide⟩ ?_
    refine a_istore_n (i := 1) (ls2 := [some (vR 10 (-1)), some (vI 0), none]) dX7_findRow_148 rfl (Nat.le_of_ble_eq_true rfl) rfl ?_
    exact hy
  · have hy := hy.2 (Int.not_le.mp c)
    refine a_iconst (x := 0) dX7_findRow_92 rfl ⟨by decide, by decide⟩ ?_
    refine a_istore_n (i := 2) (ls2 := [some (vR 10 (-1)), some (vI v1), some (vI 0)]) dX7_findRow_93 rfl (Nat.le_of_ble_eq_true rfl) rfl ?_
    exact hy
theorem s_Told_findRow_27 {d : Nat} {Q : Int → AH → Prop} {v1 : Int} {v2 : Int} {h : AH} (hy : (((h.1 10 10) ≤ v2 → (inI (v1 + 1) ∧ A_Told_findRow_17 d Q (v1 + 1) h)) ∧ (v2 < (h.1 10 10) → (inI (v1 * (h.1 10 10)) ∧ (inI ((v1 * (h.1 10 10)) + v2) ∧ (inb v1 14 ∧ (inb v2 14 ∧ (Call d M_Steps_costOf [vR 6 (-1), vI (h.1 48 v1), vI (h.1 48 v2)] h (fun r7 h6 => inb ((v1 * (h.1 10 10)) + v2) 100 ∧ (inI (v2 + 1) ∧ A_Told_findRow_27 d Q v1 (v2 + 1) (wI h6 49 ((v1 * (h.1 10 10)) + v2) r7))))))))))) : A_Told_findRow_27 d Q v1 v2 h := by
  show AW d M_Told_findRow Q 27 [some (vR 10 (-1)), some (vI v1), some (vI v2)] [] h
  refine a_iload_n dX7_findRow_27 rfl ?_
  refine a_aload_n dX7_findRow_28 rfl ?_
  refine a_getI' (kz := 10) dX7_findRow_29 fl_Told_47 sk_10 rfl rfl (rfl) ?_
  refine a_icmp_ge (tgt := 73) dX7_findRow_32 (by decide) (fun c => ?_) (fun c => ?_)
  · have hy := hy.1 c
    obtain ⟨c1, hy⟩ := hy
    refine a_iinc (y := v1 + 1) (ls2 := [some (vR 10 (-1)), some (vI (v1 + 1)), some (vI v2)]) dX7_findRow_73 rfl rfl c1 rfl ?_
    refine a_goto (tgt := 17) dX7_findRow_76 (by decide) ?_
    refine a_mask [true, true, false] (ls2 := [some (vR 10 (-1)), some (vI (v1 + 1)), none]) rfl rfl ?_
    exact hy
  · have hy := hy.2 (Int.not_le.mp c)
    refine a_aload_n dX7_findRow_35 rfl ?_
    refine a_getR dX7_findRow_36 fl_Told_15 sk_10 rfl ?_
    refine a_iload_n dX7_findRow_39 rfl ?_
    refine a_aload_n dX7_findRow_40 rfl ?_
    refine a_getI' (kz := 10) dX7_findRow_41 fl_Told_47 sk_10 rfl rfl (rfl) ?_
    obtain ⟨c2, hy⟩ := hy
    refine a_imul dX7_findRow_44 c2 ?_
    refine a_iload_n dX7_findRow_45 rfl ?_
    obtain ⟨c3, hy⟩ := hy
    refine a_iadd dX7_findRow_46 c3 ?_
    refine a_aload_n dX7_findRow_47 rfl ?_
    refine a_getR dX7_findRow_48 fl_Told_39 sk_10 rfl ?_
    refine a_aload_n dX7_findRow_51 rfl ?_
    refine a_getR dX7_findRow_52 fl_Told_9 sk_10 rfl ?_
    refine a_iload_n dX7_findRow_55 rfl ?_
    obtain ⟨c4, hy⟩ := hy
    refine a_iald' dX7_findRow_56 sk_48 c4 (rfl) ?_
    refine a_aload_n dX7_findRow_57 rfl ?_
    refine a_getR dX7_findRow_58 fl_Told_9 sk_10 rfl ?_
    refine a_iload_n dX7_findRow_61 rfl ?_
    obtain ⟨c5, hy⟩ := hy
    refine a_iald' dX7_findRow_62 sk_48 c5 (rfl) ?_
    refine a_callVi (as := [vI (h.1 48 v1), vI (h.1 48 v2)]) (st := [vI ((v1 * (h.1 10 10)) + v2), vR 49 (-1)]) dX7_findRow_63 lk_Told_69 sk_6 rfl rfl (Nat.le_of_ble_eq_true rfl) (Or.inl rfl) (Call.mono hy (fun r7 h6 _ hy => ?_))
    obtain ⟨c8, hy⟩ := hy
    refine a_iast dX7_findRow_66 sk_49 c8 ?_
    obtain ⟨c9, hy⟩ := hy
    refine a_iinc (y := v2 + 1) (ls2 := [some (vR 10 (-1)), some (vI v1), some (vI (v2 + 1))]) dX7_findRow_67 rfl rfl c9 rfl ?_
    refine a_goto (tgt := 27) dX7_findRow_70 (by decide) ?_
    exact hy
theorem s_Told_findRow_149 {d : Nat} {Q : Int → AH → Prop} {v1 : Int} {h : AH} (hy : (((h.1 10 10) ≤ v1 → ((536870912 ≤ (h.1 10 11) → Q 0 h) ∧ ((h.1 10 11) < 536870912 → Q 1 h))) ∧ (v1 < (h.1 10 10) → (inI ((ishl (h.1 10 10) v1) + v1) ∧ (inb ((ishl (h.1 10 10) v1) + v1) 10240 ∧ (1 ≤ d ∧ (inI (v1 + 1) ∧ A_Told_findRow_149 d Q (v1 + 1) (wI h 10 11 (min (h.1 10 11) (h.1 50 ((ishl (h.1 10 10) v1) + v1))))))))))) : A_Told_findRow_149 d Q v1 h := by
  show AW d M_Told_findRow Q 149 [some (vR 10 (-1)), some (vI v1), none] [] h
  refine a_iload_n dX7_findRow_149 rfl ?_
  refine a_aload_n dX7_findRow_150 rfl ?_
  refine a_getI' (kz := 10) dX7_findRow_151 fl_Told_47 sk_10 rfl rfl (rfl) ?_
  refine a_icmp_ge (tgt := 187) dX7_findRow_154 (by decide) (fun c => ?_) (fun c => ?_)
  · have hy := hy.1 c
    refine a_aload_n dX7_findRow_187 rfl ?_
    refine a_getI' (kz := 11) dX7_findRow_188 fl_Told_79 sk_10 rfl rfl (rfl) ?_
    refine a_ldc (x := 536870912) dX7_findRow_191 kc_Told_78 ⟨by decide, by decide⟩ ?_
    refine a_icmp_ge (tgt := 200) dX7_findRow_193 (by decide) (fun c => ?_) (fun c => ?_)
    · have hy := hy.1 c
      refine a_iconst (x := 0) dX7_findRow_200 rfl ⟨by decide, by decide⟩ ?_
      exact a_zret dX7_findRow_201 rfl (Or.inl rfl) hy
    · have hy := hy.2 (Int.not_le.mp c)
      refine a_iconst (x := 1) dX7_findRow_196 rfl ⟨by decide, by decide⟩ ?_
      refine a_goto (tgt := 201) dX7_findRow_197 (by decide) ?_
      exact a_zret dX7_findRow_201 rfl (Or.inr rfl) hy
  · have hy := hy.2 (Int.not_le.mp c)
    refine a_aload_n dX7_findRow_157 rfl ?_
    refine a_aload_n dX7_findRow_158 rfl ?_
    refine a_getI' (kz := 11) dX7_findRow_159 fl_Told_79 sk_10 rfl rfl (rfl) ?_
    refine a_aload_n dX7_findRow_162 rfl ?_
    refine a_getR dX7_findRow_163 fl_Told_18 sk_10 rfl ?_
    refine a_aload_n dX7_findRow_166 rfl ?_
    refine a_getI' (kz := 10) dX7_findRow_167 fl_Told_47 sk_10 rfl rfl (rfl) ?_
    refine a_iload_n dX7_findRow_170 rfl ?_
    refine a_ishl dX7_findRow_171 ?_
    refine a_iload_n dX7_findRow_172 rfl ?_
    obtain ⟨c1, hy⟩ := hy
    refine a_iadd dX7_findRow_173 c1 ?_
    obtain ⟨c2, hy⟩ := hy
    refine a_iald' dX7_findRow_174 sk_50 c2 (rfl) ?_
    obtain ⟨c3, hy⟩ := hy
    refine a_mmin' dX7_findRow_175 ml_Told_82 c3 (Nat.le_of_ble_eq_true rfl) ?_
    refine a_putI (kz := 11) dX7_findRow_178 fp_Told_79 sk_10 rfl rfl ?_
    obtain ⟨c4, hy⟩ := hy
    refine a_iinc (y := v1 + 1) (ls2 := [some (vR 10 (-1)), some (vI (v1 + 1)), none]) dX7_findRow_181 rfl rfl c4 rfl ?_
    refine a_goto (tgt := 149) dX7_findRow_184 (by decide) ?_
    exact hy
theorem s_Told_findRow_94 {d : Nat} {Q : Int → AH → Prop} {v1 : Int} {v2 : Int} {h : AH} (hy : (((h.1 10 10) ≤ v2 → (inI (v1 - 1) ∧ A_Told_findRow_88 d Q (v1 - 1) h)) ∧ (v2 < (h.1 10 10) → (((iand (iushr v1 v2) 1) = 0 → (inI (v2 + 1) ∧ A_Told_findRow_94 d Q v1 (v2 + 1) h)) ∧ ((iand (iushr v1 v2) 1) ≠ 0 → (inI (v1 * (h.1 10 10)) ∧ (inI ((v1 * (h.1 10 10)) + v2) ∧ (Call d M_Told_costOnward [vR 10 (-1), vI v1, vI v2] h (fun r6 h5 => inb ((v1 * (h.1 10 10)) + v2) 10240 ∧ (inI (v2 + 1) ∧ A_Told_findRow_94 d Q v1 (v2 + 1) (wI h5 50 ((v1 * (h.1 10 10)) + v2) r6))))))))))) : A_Told_findRow_94 d Q v1 v2 h := by
  show AW d M_Told_findRow Q 94 [some (vR 10 (-1)), some (vI v1), some (vI v2)] [] h
  refine a_iload_n dX7_findRow_94 rfl ?_
  refine a_aload_n dX7_findRow_95 rfl ?_
  refine a_getI' (kz := 10) dX7_findRow_96 fl_Told_47 sk_10 rfl rfl (rfl) ?_
  refine a_icmp_ge (tgt := 135) dX7_findRow_99 (by decide) (fun c => ?_) (fun c => ?_)
  · have hy := hy.1 c
    obtain ⟨c1, hy⟩ := hy
    refine a_iinc (y := v1 - 1) (ls2 := [some (vR 10 (-1)), some (vI (v1 - 1)), some (vI v2)]) dX7_findRow_135 rfl (by omega) c1 rfl ?_
    refine a_goto (tgt := 88) dX7_findRow_138 (by decide) ?_
    refine a_mask [true, true, false] (ls2 := [some (vR 10 (-1)), some (vI (v1 - 1)), none]) rfl rfl ?_
    exact hy
  · have hy := hy.2 (Int.not_le.mp c)
    refine a_iload_n dX7_findRow_102 rfl ?_
    refine a_iload_n dX7_findRow_103 rfl ?_
    refine a_iushr dX7_findRow_104 ?_
    refine a_iconst (x := 1) dX7_findRow_105 rfl ⟨by decide, by decide⟩ ?_
    refine a_iand dX7_findRow_106 ?_
    refine a_if_eq (tgt := 129) dX7_findRow_107 (by decide) (fun c => ?_) (fun c => ?_)
    · have hy := hy.1 c
      obtain ⟨c2, hy⟩ := hy
      refine a_iinc (y := v2 + 1) (ls2 := [some (vR 10 (-1)), some (vI v1), some (vI (v2 + 1))]) dX7_findRow_129 rfl rfl c2 rfl ?_
      refine a_goto (tgt := 94) dX7_findRow_132 (by decide) ?_
      exact hy
    · have hy := hy.2 (c)
      refine a_aload_n dX7_findRow_110 rfl ?_
      refine a_getR dX7_findRow_111 fl_Told_18 sk_10 rfl ?_
      refine a_iload_n dX7_findRow_114 rfl ?_
      refine a_aload_n dX7_findRow_115 rfl ?_
      refine a_getI' (kz := 10) dX7_findRow_116 fl_Told_47 sk_10 rfl rfl (rfl) ?_
      obtain ⟨c3, hy⟩ := hy
      refine a_imul dX7_findRow_119 c3 ?_
      refine a_iload_n dX7_findRow_120 rfl ?_
      obtain ⟨c4, hy⟩ := hy
      refine a_iadd dX7_findRow_121 c4 ?_
      refine a_aload_n dX7_findRow_122 rfl ?_
      refine a_iload_n dX7_findRow_123 rfl ?_
      refine a_iload_n dX7_findRow_124 rfl ?_
      refine a_callVi (as := [vI v1, vI v2]) (st := [vI ((v1 * (h.1 10 10)) + v2), vR 50 (-1)]) dX7_findRow_125 lk_Told_75 sk_10 rfl rfl (Nat.le_of_ble_eq_true rfl) (Or.inl rfl) (Call.mono hy (fun r6 h5 _ hy => ?_))
      obtain ⟨c7, hy⟩ := hy
      refine a_iast dX7_findRow_128 sk_50 c7 ?_
      obtain ⟨c8, hy⟩ := hy
      refine a_iinc (y := v2 + 1) (ls2 := [some (vR 10 (-1)), some (vI v1), some (vI (v2 + 1))]) dX7_findRow_129 rfl rfl c8 rfl ?_
      refine a_goto (tgt := 94) dX7_findRow_132 (by decide) ?_
      exact hy
theorem c_Told_findRow {d : Nat} (d0 : Nat) (hd : d0 < d)  {h : AH} {Q : Int → AH → Prop} (hy : (((h.1 10 10) ≤ 10 → (Call d0 M_Told_sortList [vR 10 (-1)] h (fun _ h1 => A_Told_findRow_17 d0 Q 0 h1))) ∧ (10 < (h.1 10 10) → Q 0 h))) : Call d M_Told_findRow [vR 10 (-1)] h Q := by
  refine ⟨d0, hd, Big.of rfl (Nat.le_of_ble_eq_true rfl) ?_⟩
  show AW d0 M_Told_findRow Q 0 [some (vR 10 (-1)), none, none] [] h
  refine a_aload_n dX7_findRow_0 rfl ?_
  refine a_getI' (kz := 10) dX7_findRow_1 fl_Told_47 sk_10 rfl rfl (rfl) ?_
  refine a_bipush (x := 10) dX7_findRow_4 (by decide) ⟨by decide, by decide⟩ ?_
  refine a_icmp_le (tgt := 11) dX7_findRow_6 (by decide) (fun c => ?_) (fun c => ?_)
  · have hy := hy.1 c
    refine a_aload_n dX7_findRow_11 rfl ?_
    refine a_callVv (as := []) (st := []) dX7_findRow_12 lk_Told_66 sk_10 rfl rfl (Nat.le_of_ble_eq_true rfl) rfl (Call.mono hy (fun _ h1 _ hy => ?_))
    refine a_iconst (x := 0) dX7_findRow_15 rfl ⟨by decide, by decide⟩ ?_
    refine a_istore_n (i := 1) (ls2 := [some (vR 10 (-1)), some (vI 0), none]) dX7_findRow_16 rfl (Nat.le_of_ble_eq_true rfl) rfl ?_
    exact hy
  · have hy := hy.2 (Int.not_le.mp c)
    refine a_iconst (x := 0) dX7_findRow_9 rfl ⟨by decide, by decide⟩ ?_
    exact a_zret dX7_findRow_10 rfl (Or.inl rfl) hy
def A_Told_findStepBits_2 (d : Nat) (Q : Int → AH → Prop) (v1 : Int) (h : AH) : Prop := AW d M_Told_findStepBits Q 2 [some (vR 10 (-1)), some (vI v1), none] [] h
def A_Told_findStepBits_25 (d : Nat) (Q : Int → AH → Prop) (v1 : Int) (v2 : Int) (h : AH) : Prop := AW d M_Told_findStepBits Q 25 [some (vR 10 (-1)), some (vI v1), some (vI v2)] [] h
theorem s_Told_findStepBits_2 {d : Nat} {Q : Int → AH → Prop} {v1 : Int} {h : AH} (hy : (((h.1 10 10) ≤ v1 → Q 0 h) ∧ (v1 < (h.1 10 10) → ((12 ≤ v1 → Q 0 h) ∧ (v1 < 12 → (inb v1 12 ∧ A_Told_findStepBits_25 d Q v1 0 (wI h 51 v1 0))))))) : A_Told_findStepBits_2 d Q v1 h := by
  show AW d M_Told_findStepBits Q 2 [some (vR 10 (-1)), some (vI v1), none] [] h
  refine a_iload_n dX7_findStepBits_2 rfl ?_
  refine a_aload_n dX7_findStepBits_3 rfl ?_
  refine a_getI' (kz := 10) dX7_findStepBits_4 fl_Told_47 sk_10 rfl rfl (rfl) ?_
  refine a_icmp_ge (tgt := 79) dX7_findStepBits_7 (by decide) (fun c => ?_) (fun c => ?_)
  · have hy := hy.1 c
    exact a_vret dX7_findStepBits_79 rfl hy
  · have hy := hy.2 (Int.not_le.mp c)
    refine a_iload_n dX7_findStepBits_10 rfl ?_
    refine a_bipush (x := 12) dX7_findStepBits_11 (by decide) ⟨by decide, by decide⟩ ?_
    refine a_icmp_ge (tgt := 79) dX7_findStepBits_13 (by decide) (fun c => ?_) (fun c => ?_)
    · have hy := hy.1 c
      exact a_vret dX7_findStepBits_79 rfl hy
    · have hy := hy.2 (Int.not_le.mp c)
      refine a_aload_n dX7_findStepBits_16 rfl ?_
      refine a_getR dX7_findStepBits_17 fl_Told_21 sk_10 rfl ?_
      refine a_iload_n dX7_findStepBits_20 rfl ?_
      refine a_iconst (x := 0) dX7_findStepBits_21 rfl ⟨by decide, by decide⟩ ?_
      obtain ⟨c1, hy⟩ := hy
      refine a_iast dX7_findStepBits_22 sk_51 c1 ?_
      refine a_iconst (x := 0) dX7_findStepBits_23 rfl ⟨by decide, by decide⟩ ?_
      refine a_istore_n (i := 2) (ls2 := [some (vR 10 (-1)), some (vI v1), some (vI 0)]) dX7_findStepBits_24 rfl (Nat.le_of_ble_eq_true rfl) rfl ?_
      exact hy
theorem s_Told_findStepBits_25 {d : Nat} {Q : Int → AH → Prop} {v1 : Int} {v2 : Int} {h : AH} (hy : (((h.1 10 10) ≤ v2 → (inI (v1 + 1) ∧ A_Told_findStepBits_2 d Q (v1 + 1) h)) ∧ (v2 < (h.1 10 10) → (inb v1 14 ∧ (inb v2 14 ∧ (Call d M_Steps_leads [vR 6 (-1), vI (h.1 48 v1), vI (h.1 48 v2)] h (fun r5 h4 => ((r5 = 0 → (inI (v2 + 1) ∧ A_Told_findStepBits_25 d Q v1 (v2 + 1) h4)) ∧ (r5 ≠ 0 → (inb v1 12 ∧ (inI (v2 + 1) ∧ A_Told_findStepBits_25 d Q v1 (v2 + 1) (wI h4 51 v1 (ior (h4.1 51 v1) (ishl 1 v2)))))))))))))) : A_Told_findStepBits_25 d Q v1 v2 h := by
  show AW d M_Told_findStepBits Q 25 [some (vR 10 (-1)), some (vI v1), some (vI v2)] [] h
  refine a_iload_n dX7_findStepBits_25 rfl ?_
  refine a_aload_n dX7_findStepBits_26 rfl ?_
  refine a_getI' (kz := 10) dX7_findStepBits_27 fl_Told_47 sk_10 rfl rfl (rfl) ?_
  refine a_icmp_ge (tgt := 73) dX7_findStepBits_30 (by decide) (fun c => ?_) (fun c => ?_)
  · have hy := hy.1 c
    obtain ⟨c1, hy⟩ := hy
    refine a_iinc (y := v1 + 1) (ls2 := [some (vR 10 (-1)), some (vI (v1 + 1)), some (vI v2)]) dX7_findStepBits_73 rfl rfl c1 rfl ?_
    refine a_goto (tgt := 2) dX7_findStepBits_76 (by decide) ?_
    refine a_mask [true, true, false] (ls2 := [some (vR 10 (-1)), some (vI (v1 + 1)), none]) rfl rfl ?_
    exact hy
  · have hy := hy.2 (Int.not_le.mp c)
    refine a_aload_n dX7_findStepBits_33 rfl ?_
    refine a_getR dX7_findStepBits_34 fl_Told_39 sk_10 rfl ?_
    refine a_aload_n dX7_findStepBits_37 rfl ?_
    refine a_getR dX7_findStepBits_38 fl_Told_9 sk_10 rfl ?_
    refine a_iload_n dX7_findStepBits_41 rfl ?_
    obtain ⟨c2, hy⟩ := hy
    refine a_iald' dX7_findStepBits_42 sk_48 c2 (rfl) ?_
    refine a_aload_n dX7_findStepBits_43 rfl ?_
    refine a_getR dX7_findStepBits_44 fl_Told_9 sk_10 rfl ?_
    refine a_iload_n dX7_findStepBits_47 rfl ?_
    obtain ⟨c3, hy⟩ := hy
    refine a_iald' dX7_findStepBits_48 sk_48 c3 (rfl) ?_
    refine a_callVi (as := [vI (h.1 48 v1), vI (h.1 48 v2)]) (st := []) dX7_findStepBits_49 lk_Told_100 sk_6 rfl rfl (Nat.le_of_ble_eq_true rfl) (Or.inr rfl) (Call.mono hy (fun r5 h4 _ hy => ?_))
    refine a_if_eq (tgt := 67) dX7_findStepBits_52 (by decide) (fun c => ?_) (fun c => ?_)
    · have hy := hy.1 c
      obtain ⟨c6, hy⟩ := hy
      refine a_iinc (y := v2 + 1) (ls2 := [some (vR 10 (-1)), some (vI v1), some (vI (v2 + 1))]) dX7_findStepBits_67 rfl rfl c6 rfl ?_
      refine a_goto (tgt := 25) dX7_findStepBits_70 (by decide) ?_
      exact hy
    · have hy := hy.2 (c)
      refine a_aload_n dX7_findStepBits_55 rfl ?_
      refine a_getR dX7_findStepBits_56 fl_Told_21 sk_10 rfl ?_
      refine a_iload_n dX7_findStepBits_59 rfl ?_
      refine a_dup2 dX7_findStepBits_60 ?_
      obtain ⟨c7, hy⟩ := hy
      refine a_iald' dX7_findStepBits_61 sk_51 c7 (rfl) ?_
      refine a_iconst (x := 1) dX7_findStepBits_62 rfl ⟨by decide, by decide⟩ ?_
      refine a_iload_n dX7_findStepBits_63 rfl ?_
      refine a_ishl dX7_findStepBits_64 ?_
      refine a_ior dX7_findStepBits_65 ?_
      refine a_iast dX7_findStepBits_66 sk_51 c7 ?_
      obtain ⟨c8, hy⟩ := hy
      refine a_iinc (y := v2 + 1) (ls2 := [some (vR 10 (-1)), some (vI v1), some (vI (v2 + 1))]) dX7_findStepBits_67 rfl rfl c8 rfl ?_
      refine a_goto (tgt := 25) dX7_findStepBits_70 (by decide) ?_
      exact hy
theorem c_Told_findStepBits {d : Nat} (d0 : Nat) (hd : d0 < d)  {h : AH} {Q : Int → AH → Prop} (hy : A_Told_findStepBits_2 d0 Q 0 h) : Call d M_Told_findStepBits [vR 10 (-1)] h Q := by
  refine ⟨d0, hd, Big.of rfl (Nat.le_of_ble_eq_true rfl) ?_⟩
  show AW d0 M_Told_findStepBits Q 0 [some (vR 10 (-1)), none, none] [] h
  refine a_iconst (x := 0) dX7_findStepBits_0 rfl ⟨by decide, by decide⟩ ?_
  refine a_istore_n (i := 1) (ls2 := [some (vR 10 (-1)), some (vI 0), none]) dX7_findStepBits_1 rfl (Nat.le_of_ble_eq_true rfl) rfl ?_
  exact hy
def A_Told_lostAfter_4 (d : Nat) (Q : Int → AH → Prop) (p1 : Int) (v2 : Int) (v3 : Int) (h : AH) : Prop := AW d M_Told_lostAfter Q 4 [some (vR 10 (-1)), some (vI p1), some (vI v2), some (vI v3), none] [] h
theorem s_Told_lostAfter_4 {d : Nat} {Q : Int → AH → Prop} {p1 : Int} {v2 : Int} {v3 : Int} {h : AH} (hy : (((h.1 10 10) ≤ v3 → Q v2 h) ∧ (v3 < (h.1 10 10) → (((iand p1 (ishl 1 v3)) ≠ 0 → (inI (v3 + 1) ∧ A_Told_lostAfter_4 d Q p1 v2 (v3 + 1) h)) ∧ ((iand p1 (ishl 1 v3)) = 0 → (inb (ior p1 (ishl 1 v3)) 4096 ∧ (((iand (h.1 52 (ior p1 (ishl 1 v3))) (ishl 1 v3)) ≠ 0 → (inI (v3 + 1) ∧ A_Told_lostAfter_4 d Q p1 v2 (v3 + 1) h)) ∧ ((iand (h.1 52 (ior p1 (ishl 1 v3))) (ishl 1 v3)) = 0 → (inI (v3 + 1) ∧ A_Told_lostAfter_4 d Q p1 (ior v2 (ishl 1 v3)) (v3 + 1) h))))))))) : A_Told_lostAfter_4 d Q p1 v2 v3 h := by
  show AW d M_Told_lostAfter Q 4 [some (vR 10 (-1)), some (vI p1), some (vI v2), some (vI v3), none] [] h
  refine a_iload_n dX7_lostAfter_4 rfl ?_
  refine a_aload_n dX7_lostAfter_5 rfl ?_
  refine a_getI' (kz := 10) dX7_lostAfter_6 fl_Told_47 sk_10 rfl rfl (rfl) ?_
  refine a_icmp_ge (tgt := 50) dX7_lostAfter_9 (by decide) (fun c => ?_) (fun c => ?_)
  · have hy := hy.1 c
    refine a_iload_n dX7_lostAfter_50 rfl ?_
    exact a_iret dX7_lostAfter_51 rfl hy
  · have hy := hy.2 (Int.not_le.mp c)
    refine a_iconst (x := 1) dX7_lostAfter_12 rfl ⟨by decide, by decide⟩ ?_
    refine a_iload_n dX7_lostAfter_13 rfl ?_
    refine a_ishl dX7_lostAfter_14 ?_
    refine a_istore (ls2 := [some (vR 10 (-1)), some (vI p1), some (vI v2), some (vI v3), some (vI (ishl 1 v3))]) dX7_lostAfter_15 (Nat.le_of_ble_eq_true rfl) rfl ?_
    refine a_iload_n dX7_lostAfter_17 rfl ?_
    refine a_iload dX7_lostAfter_18 rfl ?_
    refine a_iand dX7_lostAfter_20 ?_
    refine a_if_ne (tgt := 44) dX7_lostAfter_21 (by decide) (fun c => ?_) (fun c => ?_)
    · have hy := hy.1 c
      obtain ⟨c1, hy⟩ := hy
      refine a_iinc (y := v3 + 1) (ls2 := [some (vR 10 (-1)), some (vI p1), some (vI v2), some (vI (v3 + 1)), some (vI (ishl 1 v3))]) dX7_lostAfter_44 rfl rfl c1 rfl ?_
      refine a_goto (tgt := 4) dX7_lostAfter_47 (by decide) ?_
      refine a_mask [true, true, true, true, false] (ls2 := [some (vR 10 (-1)), some (vI p1), some (vI v2), some (vI (v3 + 1)), none]) rfl rfl ?_
      exact hy
    · have hy := hy.2 (Decidable.not_not.mp c)
      refine a_aload_n dX7_lostAfter_24 rfl ?_
      refine a_getR dX7_lostAfter_25 fl_Told_24 sk_10 rfl ?_
      refine a_iload_n dX7_lostAfter_28 rfl ?_
      refine a_iload dX7_lostAfter_29 rfl ?_
      refine a_ior dX7_lostAfter_31 ?_
      obtain ⟨c2, hy⟩ := hy
      refine a_iald' dX7_lostAfter_32 sk_52 c2 (rfl) ?_
      refine a_iload dX7_lostAfter_33 rfl ?_
      refine a_iand dX7_lostAfter_35 ?_
      refine a_if_ne (tgt := 44) dX7_lostAfter_36 (by decide) (fun c => ?_) (fun c => ?_)
      · have hy := hy.1 c
        obtain ⟨c3, hy⟩ := hy
        refine a_iinc (y := v3 + 1) (ls2 := [some (vR 10 (-1)), some (vI p1), some (vI v2), some (vI (v3 + 1)), some (vI (ishl 1 v3))]) dX7_lostAfter_44 rfl rfl c3 rfl ?_
        refine a_goto (tgt := 4) dX7_lostAfter_47 (by decide) ?_
        refine a_mask [true, true, true, true, false] (ls2 := [some (vR 10 (-1)), some (vI p1), some (vI v2), some (vI (v3 + 1)), none]) rfl rfl ?_
        exact hy
      · have hy := hy.2 (Decidable.not_not.mp c)
        refine a_iload_n dX7_lostAfter_39 rfl ?_
        refine a_iload dX7_lostAfter_40 rfl ?_
        refine a_ior dX7_lostAfter_42 ?_
        refine a_istore_n (i := 2) (ls2 := [some (vR 10 (-1)), some (vI p1), some (vI (ior v2 (ishl 1 v3))), some (vI v3), some (vI (ishl 1 v3))]) dX7_lostAfter_43 rfl (Nat.le_of_ble_eq_true rfl) rfl ?_
        obtain ⟨c4, hy⟩ := hy
        refine a_iinc (y := v3 + 1) (ls2 := [some (vR 10 (-1)), some (vI p1), some (vI (ior v2 (ishl 1 v3))), some (vI (v3 + 1)), some (vI (ishl 1 v3))]) dX7_lostAfter_44 rfl rfl c4 rfl ?_
        refine a_goto (tgt := 4) dX7_lostAfter_47 (by decide) ?_
        refine a_mask [true, true, true, true, false] (ls2 := [some (vR 10 (-1)), some (vI p1), some (vI (ior v2 (ishl 1 v3))), some (vI (v3 + 1)), none]) rfl rfl ?_
        exact hy
theorem c_Told_lostAfter {d : Nat} (d0 : Nat) (hd : d0 < d) {p1 : Int} {h : AH} {Q : Int → AH → Prop} (hy : A_Told_lostAfter_4 d0 Q p1 0 0 h) : Call d M_Told_lostAfter [vR 10 (-1), vI p1] h Q := by
  refine ⟨d0, hd, Big.of rfl (Nat.le_of_ble_eq_true rfl) ?_⟩
  show AW d0 M_Told_lostAfter Q 0 [some (vR 10 (-1)), some (vI p1), none, none, none] [] h
  refine a_iconst (x := 0) dX7_lostAfter_0 rfl ⟨by decide, by decide⟩ ?_
  refine a_istore_n (i := 2) (ls2 := [some (vR 10 (-1)), some (vI p1), some (vI 0), none, none]) dX7_lostAfter_1 rfl (Nat.le_of_ble_eq_true rfl) rfl ?_
  refine a_iconst (x := 0) dX7_lostAfter_2 rfl ⟨by decide, by decide⟩ ?_
  refine a_istore_n (i := 3) (ls2 := [some (vR 10 (-1)), some (vI p1), some (vI 0), some (vI 0), none]) dX7_lostAfter_3 rfl (Nat.le_of_ble_eq_true rfl) rfl ?_
  exact hy
def A_Told_mostApart_11 (d : Nat) (Q : Int → AH → Prop) (p1 : Int) (v2 : Int) (v3 : Int) (h : AH) : Prop := AW d M_Told_mostApart Q 11 [some (vR 10 (-1)), some (vI p1), some (vI v2), some (vI v3), none, none, none] [] h
def A_Told_mostApart_30 (d : Nat) (Q : Int → AH → Prop) (p1 : Int) (v2 : Int) (v3 : Int) (v4 : Int) (v5 : Int) (h : AH) : Prop := AW d M_Told_mostApart Q 30 [some (vR 10 (-1)), some (vI p1), some (vI v2), some (vI v3), some (vI v4), some (vI v5), none] [] h
theorem s_Told_mostApart_11 {d : Nat} {Q : Int → AH → Prop} {p1 : Int} {v2 : Int} {v3 : Int} {h : AH} (hy : (((h.1 10 10) ≤ v3 → Q v2 h) ∧ (v3 < (h.1 10 10) → (Call d M_Told_tooNearBefore [vR 10 (-1), vI v3, vI p1] h (fun r2 h1 => A_Told_mostApart_30 d Q p1 v2 v3 r2 0 h1))))) : A_Told_mostApart_11 d Q p1 v2 v3 h := by
  show AW d M_Told_mostApart Q 11 [some (vR 10 (-1)), some (vI p1), some (vI v2), some (vI v3), none, none, none] [] h
  refine a_iload_n dX7_mostApart_11 rfl ?_
  refine a_aload_n dX7_mostApart_12 rfl ?_
  refine a_getI' (kz := 10) dX7_mostApart_13 fl_Told_47 sk_10 rfl rfl (rfl) ?_
  refine a_icmp_ge (tgt := 113) dX7_mostApart_16 (by decide) (fun c => ?_) (fun c => ?_)
  · have hy := hy.1 c
    refine a_iload_n dX7_mostApart_113 rfl ?_
    exact a_iret dX7_mostApart_114 rfl hy
  · have hy := hy.2 (Int.not_le.mp c)
    refine a_aload_n dX7_mostApart_19 rfl ?_
    refine a_iload_n dX7_mostApart_20 rfl ?_
    refine a_iload_n dX7_mostApart_21 rfl ?_
    refine a_callVi (as := [vI v3, vI p1]) (st := []) dX7_mostApart_22 lk_Told_104 sk_10 rfl rfl (Nat.le_of_ble_eq_true rfl) (Or.inl rfl) (Call.mono hy (fun r2 h1 _ hy => ?_))
    refine a_istore (ls2 := [some (vR 10 (-1)), some (vI p1), some (vI v2), some (vI v3), some (vI r2), none, none]) dX7_mostApart_25 (Nat.le_of_ble_eq_true rfl) rfl ?_
    refine a_iconst (x := 0) dX7_mostApart_27 rfl ⟨by decide, by decide⟩ ?_
    refine a_istore (ls2 := [some (vR 10 (-1)), some (vI p1), some (vI v2), some (vI v3), some (vI r2), some (vI 0), none]) dX7_mostApart_28 (Nat.le_of_ble_eq_true rfl) rfl ?_
    exact hy
theorem s_Told_mostApart_30 {d : Nat} {Q : Int → AH → Prop} {p1 : Int} {v2 : Int} {v3 : Int} {v4 : Int} {v5 : Int} {h : AH} (hy : (((ishl 1 v3) ≤ v5 → (inI (v3 + 1) ∧ A_Told_mostApart_11 d Q p1 v2 (v3 + 1) h)) ∧ (v5 < (ishl 1 v3) → (inb v5 16384 ∧ (inb (ior v5 (ishl 1 v3)) 16384 ∧ ((if (h.1 53 v5) = 0 then (0 : Int) else if (iand v5 v4) = 0 then (1 : Int) else 0) = 0 ∨ (if (h.1 53 v5) = 0 then (0 : Int) else if (iand v5 v4) = 0 then (1 : Int) else 0) = 1) ∧ (((if (h.1 53 v5) = 0 then (0 : Int) else if (iand v5 v4) = 0 then (1 : Int) else 0) = 0 → (inI (v5 + 1) ∧ A_Told_mostApart_30 d Q p1 v2 v3 v4 (v5 + 1) (wI h 53 (ior v5 (ishl 1 v3)) (if (h.1 53 v5) = 0 then (0 : Int) else if (iand v5 v4) = 0 then (1 : Int) else 0)))) ∧ ((if (h.1 53 v5) = 0 then (0 : Int) else if (iand v5 v4) = 0 then (1 : Int) else 0) ≠ 0 → (Call d M_JInteger_bitCount [vI (ior v5 (ishl 1 v3))] (wI h 53 (ior v5 (ishl 1 v3)) (if (h.1 53 v5) = 0 then (0 : Int) else if (iand v5 v4) = 0 then (1 : Int) else 0)) (fun r7 h6 => Call d M_JInteger_bitCount [vI v2] h6 (fun r9 h8 => ((r7 ≤ r9 → (inI (v5 + 1) ∧ A_Told_mostApart_30 d Q p1 v2 v3 v4 (v5 + 1) h8)) ∧ (r9 < r7 → (inI (v5 + 1) ∧ A_Told_mostApart_30 d Q p1 (ior v5 (ishl 1 v3)) v3 v4 (v5 + 1) h8))))))))))))) : A_Told_mostApart_30 d Q p1 v2 v3 v4 v5 h := by
  show AW d M_Told_mostApart Q 30 [some (vR 10 (-1)), some (vI p1), some (vI v2), some (vI v3), some (vI v4), some (vI v5), none] [] h
  refine a_iload dX7_mostApart_30 rfl ?_
  refine a_iconst (x := 1) dX7_mostApart_32 rfl ⟨by decide, by decide⟩ ?_
  refine a_iload_n dX7_mostApart_33 rfl ?_
  refine a_ishl dX7_mostApart_34 ?_
  refine a_icmp_ge (tgt := 107) dX7_mostApart_35 (by decide) (fun c => ?_) (fun c => ?_)
  · have hy := hy.1 c
    obtain ⟨c1, hy⟩ := hy
    refine a_iinc (y := v3 + 1) (ls2 := [some (vR 10 (-1)), some (vI p1), some (vI v2), some (vI (v3 + 1)), some (vI v4), some (vI v5), none]) dX7_mostApart_107 rfl rfl c1 rfl ?_
    refine a_goto (tgt := 11) dX7_mostApart_110 (by decide) ?_
    refine a_mask [true, true, true, true, false, false, true] (ls2 := [some (vR 10 (-1)), some (vI p1), some (vI v2), some (vI (v3 + 1)), none, none, none]) rfl rfl ?_
    exact hy
  · have hy := hy.2 (Int.not_le.mp c)
    refine a_iload dX7_mostApart_38 rfl ?_
    refine a_iconst (x := 1) dX7_mostApart_40 rfl ⟨by decide, by decide⟩ ?_
    refine a_iload_n dX7_mostApart_41 rfl ?_
    refine a_ishl dX7_mostApart_42 ?_
    refine a_ior dX7_mostApart_43 ?_
    refine a_istore (ls2 := [some (vR 10 (-1)), some (vI p1), some (vI v2), some (vI v3), some (vI v4), some (vI v5), some (vI (ior v5 (ishl 1 v3)))]) dX7_mostApart_44 (Nat.le_of_ble_eq_true rfl) rfl ?_
    refine a_aload_n dX7_mostApart_46 rfl ?_
    refine a_getR dX7_mostApart_47 fl_Told_27 sk_10 rfl ?_
    refine a_iload dX7_mostApart_50 rfl ?_
    refine a_aload_n dX7_mostApart_52 rfl ?_
    refine a_getR dX7_mostApart_53 fl_Told_27 sk_10 rfl ?_
    refine a_iload dX7_mostApart_56 rfl ?_
    obtain ⟨c2, hy⟩ := hy
    refine a_zald' dX7_mostApart_58 sk_53 c2 (rfl) ?_
    have J : AW d M_Told_mostApart Q 75 [some (vR 10 (-1)), some (vI p1), some (vI v2), some (vI v3), some (vI v4), some (vI v5), some (vI (ior v5 (ishl 1 v3)))] [vI (if (h.1 53 v5) = 0 then (0 : Int) else if (iand v5 v4) = 0 then (1 : Int) else 0), vI (ior v5 (ishl 1 v3)), vR 53 (-1)] h := by
      obtain ⟨c3, hy⟩ := hy
      obtain ⟨c4, hy⟩ := hy
      refine a_zast dX7_mostApart_75 sk_53 c3 c4 ?_
      refine a_aload_n dX7_mostApart_76 rfl ?_
      refine a_getR dX7_mostApart_77 fl_Told_27 sk_10 rfl ?_
      refine a_iload dX7_mostApart_80 rfl ?_
      refine a_zald' dX7_mostApart_82 sk_53 c3 (rI_eq) ?_
      refine a_if_eq (tgt := 101) dX7_mostApart_83 (by decide) (fun c => ?_) (fun c => ?_)
      · have hy := hy.1 c
        obtain ⟨c5, hy⟩ := hy
        refine a_iinc (y := v5 + 1) (ls2 := [some (vR 10 (-1)), some (vI p1), some (vI v2), some (vI v3), some (vI v4), some (vI (v5 + 1)), some (vI (ior v5 (ishl 1 v3)))]) dX7_mostApart_101 rfl rfl c5 rfl ?_
        refine a_goto (tgt := 30) dX7_mostApart_104 (by decide) ?_
        refine a_mask [true, true, true, true, true, true, false] (ls2 := [some (vR 10 (-1)), some (vI p1), some (vI v2), some (vI v3), some (vI v4), some (vI (v5 + 1)), none]) rfl rfl ?_
        exact hy
      · have hy := hy.2 (c)
        refine a_iload dX7_mostApart_86 rfl ?_
        refine a_callSi (as := [vI (ior v5 (ishl 1 v3))]) (st := []) dX7_mostApart_88 lk_Told_107 rfl rfl (Nat.le_of_ble_eq_true rfl) (Or.inl rfl) (Call.mono hy (fun r7 h6 _ hy => ?_))
        refine a_iload_n dX7_mostApart_91 rfl ?_
        refine a_callSi (as := [vI v2]) (st := [vI r7]) dX7_mostApart_92 lk_Told_107 rfl rfl (Nat.le_of_ble_eq_true rfl) (Or.inl rfl) (Call.mono hy (fun r9 h8 _ hy => ?_))
        refine a_icmp_le (tgt := 101) dX7_mostApart_95 (by decide) (fun c => ?_) (fun c => ?_)
        · have hy := hy.1 c
          obtain ⟨c10, hy⟩ := hy
          refine a_iinc (y := v5 + 1) (ls2 := [some (vR 10 (-1)), some (vI p1), some (vI v2), some (vI v3), some (vI v4), some (vI (v5 + 1)), some (vI (ior v5 (ishl 1 v3)))]) dX7_mostApart_101 rfl rfl c10 rfl ?_
          refine a_goto (tgt := 30) dX7_mostApart_104 (by decide) ?_
          refine a_mask [true, true, true, true, true, true, false] (ls2 := [some (vR 10 (-1)), some (vI p1), some (vI v2), some (vI v3), some (vI v4), some (vI (v5 + 1)), none]) rfl rfl ?_
          exact hy
        · have hy := hy.2 (Int.not_le.mp c)
          refine a_iload dX7_mostApart_98 rfl ?_
          refine a_istore_n (i := 2) (ls2 := [some (vR 10 (-1)), some (vI p1), some (vI (ior v5 (ishl 1 v3))), some (vI v3), some (vI v4), some (vI v5), some (vI (ior v5 (ishl 1 v3)))]) dX7_mostApart_100 rfl (Nat.le_of_ble_eq_true rfl) rfl ?_
          obtain ⟨c11, hy⟩ := hy
          refine a_iinc (y := v5 + 1) (ls2 := [some (vR 10 (-1)), some (vI p1), some (vI (ior v5 (ishl 1 v3))), some (vI v3), some (vI v4), some (vI (v5 + 1)), some (vI (ior v5 (ishl 1 v3)))]) dX7_mostApart_101 rfl rfl c11 rfl ?_
          refine a_goto (tgt := 30) dX7_mostApart_104 (by decide) ?_
          refine a_mask [true, true, true, true, true, true, false] (ls2 := [some (vR 10 (-1)), some (vI p1), some (vI (ior v5 (ishl 1 v3))), some (vI v3), some (vI v4), some (vI (v5 + 1)), none]) rfl rfl ?_
          exact hy
    refine a_if_eq (tgt := 74) dX7_mostApart_59 (by decide) (fun e12 => ?_) (fun e12 => ?_)
    · refine a_iconst (x := 0) dX7_mostApart_74 rfl ⟨by decide, by decide⟩ ?_
      exact a_cast (by first | rfl | simp only [if_pos e12]) (by first | rfl | simp only [if_pos e12]) J
    · refine a_iload dX7_mostApart_62 rfl ?_
      refine a_iload dX7_mostApart_64 rfl ?_
      refine a_iand dX7_mostApart_66 ?_
      refine a_if_ne (tgt := 74) dX7_mostApart_67 (by decide) (fun e13 => ?_) (fun e13 => ?_)
      · refine a_iconst (x := 0) dX7_mostApart_74 rfl ⟨by decide, by decide⟩ ?_
        exact a_cast (by first | rfl | simp only [if_neg e12, if_neg e13]) (by first | rfl | simp only [if_neg e12, if_neg e13]) J
      · refine a_iconst (x := 1) dX7_mostApart_70 rfl ⟨by decide, by decide⟩ ?_
        refine a_goto (tgt := 75) dX7_mostApart_71 (by decide) ?_
        exact a_cast (by first | rfl | simp only [if_neg e12, if_pos (Decidable.not_not.mp e13)]) (by first | rfl | simp only [if_neg e12, if_pos (Decidable.not_not.mp e13)]) J
theorem c_Told_mostApart {d : Nat} (d0 : Nat) (hd : d0 < d) {p1 : Int} {h : AH} {Q : Int → AH → Prop} (hy : A_Told_mostApart_11 d0 Q p1 0 0 (wI h 53 0 1)) : Call d M_Told_mostApart [vR 10 (-1), vI p1] h Q := by
  refine ⟨d0, hd, Big.of rfl (Nat.le_of_ble_eq_true rfl) ?_⟩
  show AW d0 M_Told_mostApart Q 0 [some (vR 10 (-1)), some (vI p1), none, none, none, none, none] [] h
  refine a_iconst (x := 0) dX7_mostApart_0 rfl ⟨by decide, by decide⟩ ?_
  refine a_istore_n (i := 2) (ls2 := [some (vR 10 (-1)), some (vI p1), some (vI 0), none, none, none, none]) dX7_mostApart_1 rfl (Nat.le_of_ble_eq_true rfl) rfl ?_
  refine a_aload_n dX7_mostApart_2 rfl ?_
  refine a_getR dX7_mostApart_3 fl_Told_27 sk_10 rfl ?_
  refine a_iconst (x := 0) dX7_mostApart_6 rfl ⟨by decide, by decide⟩ ?_
  refine a_iconst (x := 1) dX7_mostApart_7 rfl ⟨by decide, by decide⟩ ?_
  refine a_zast dX7_mostApart_8 sk_53 ⟨by decide, by decide⟩ (Or.inr rfl) ?_
  refine a_iconst (x := 0) dX7_mostApart_9 rfl ⟨by decide, by decide⟩ ?_
  refine a_istore_n (i := 3) (ls2 := [some (vR 10 (-1)), some (vI p1), some (vI 0), some (vI 0), none, none, none]) dX7_mostApart_10 rfl (Nat.le_of_ble_eq_true rfl) rfl ?_
  exact hy
def A_Told_placesFrom_4 (d : Nat) (Q : Int → AH → Prop) (p1 : Int) (v2 : Int) (v3 : Int) (h : AH) : Prop := AW d M_Told_placesFrom Q 4 [some (vR 10 (-1)), some (vI p1), some (vI v2), some (vI v3)] [] h
theorem s_Told_placesFrom_4 {d : Nat} {Q : Int → AH → Prop} {p1 : Int} {v2 : Int} {v3 : Int} {h : AH} (hy : ((p1 = 0 → Q v2 h) ∧ (p1 ≠ 0 → (((h.1 10 10) ≤ v3 → Q v2 h) ∧ (v3 < (h.1 10 10) → ((12 ≤ v3 → Q v2 h) ∧ (v3 < 12 → (inb v3 12 ∧ (((iand (h.1 51 v3) p1) = 0 → (inI (v3 + 1) ∧ A_Told_placesFrom_4 d Q p1 v2 (v3 + 1) h)) ∧ ((iand (h.1 51 v3) p1) ≠ 0 → (inI (v3 + 1) ∧ A_Told_placesFrom_4 d Q p1 (ior v2 (ishl 1 v3)) (v3 + 1) h))))))))))) : A_Told_placesFrom_4 d Q p1 v2 v3 h := by
  show AW d M_Told_placesFrom Q 4 [some (vR 10 (-1)), some (vI p1), some (vI v2), some (vI v3)] [] h
  refine a_iload_n dX7_placesFrom_4 rfl ?_
  refine a_if_eq (tgt := 45) dX7_placesFrom_5 (by decide) (fun c => ?_) (fun c => ?_)
  · have hy := hy.1 c
    refine a_iload_n dX7_placesFrom_45 rfl ?_
    exact a_iret dX7_placesFrom_46 rfl hy
  · have hy := hy.2 (c)
    refine a_iload_n dX7_placesFrom_8 rfl ?_
    refine a_aload_n dX7_placesFrom_9 rfl ?_
    refine a_getI' (kz := 10) dX7_placesFrom_10 fl_Told_47 sk_10 rfl rfl (rfl) ?_
    refine a_icmp_ge (tgt := 45) dX7_placesFrom_13 (by decide) (fun c => ?_) (fun c => ?_)
    · have hy := hy.1 c
      refine a_iload_n dX7_placesFrom_45 rfl ?_
      exact a_iret dX7_placesFrom_46 rfl hy
    · have hy := hy.2 (Int.not_le.mp c)
      refine a_iload_n dX7_placesFrom_16 rfl ?_
      refine a_bipush (x := 12) dX7_placesFrom_17 (by decide) ⟨by decide, by decide⟩ ?_
      refine a_icmp_ge (tgt := 45) dX7_placesFrom_19 (by decide) (fun c => ?_) (fun c => ?_)
      · have hy := hy.1 c
        refine a_iload_n dX7_placesFrom_45 rfl ?_
        exact a_iret dX7_placesFrom_46 rfl hy
      · have hy := hy.2 (Int.not_le.mp c)
        refine a_aload_n dX7_placesFrom_22 rfl ?_
        refine a_getR dX7_placesFrom_23 fl_Told_21 sk_10 rfl ?_
        refine a_iload_n dX7_placesFrom_26 rfl ?_
        obtain ⟨c1, hy⟩ := hy
        refine a_iald' dX7_placesFrom_27 sk_51 c1 (rfl) ?_
        refine a_iload_n dX7_placesFrom_28 rfl ?_
        refine a_iand dX7_placesFrom_29 ?_
        refine a_if_eq (tgt := 39) dX7_placesFrom_30 (by decide) (fun c => ?_) (fun c => ?_)
        · have hy := hy.1 c
          obtain ⟨c2, hy⟩ := hy
          refine a_iinc (y := v3 + 1) (ls2 := [some (vR 10 (-1)), some (vI p1), some (vI v2), some (vI (v3 + 1))]) dX7_placesFrom_39 rfl rfl c2 rfl ?_
          refine a_goto (tgt := 4) dX7_placesFrom_42 (by decide) ?_
          exact hy
        · have hy := hy.2 (c)
          refine a_iload_n dX7_placesFrom_33 rfl ?_
          refine a_iconst (x := 1) dX7_placesFrom_34 rfl ⟨by decide, by decide⟩ ?_
          refine a_iload_n dX7_placesFrom_35 rfl ?_
          refine a_ishl dX7_placesFrom_36 ?_
          refine a_ior dX7_placesFrom_37 ?_
          refine a_istore_n (i := 2) (ls2 := [some (vR 10 (-1)), some (vI p1), some (vI (ior v2 (ishl 1 v3))), some (vI v3)]) dX7_placesFrom_38 rfl (Nat.le_of_ble_eq_true rfl) rfl ?_
          obtain ⟨c3, hy⟩ := hy
          refine a_iinc (y := v3 + 1) (ls2 := [some (vR 10 (-1)), some (vI p1), some (vI (ior v2 (ishl 1 v3))), some (vI (v3 + 1))]) dX7_placesFrom_39 rfl rfl c3 rfl ?_
          refine a_goto (tgt := 4) dX7_placesFrom_42 (by decide) ?_
          exact hy
theorem c_Told_placesFrom {d : Nat} (d0 : Nat) (hd : d0 < d) {p1 : Int} {h : AH} {Q : Int → AH → Prop} (hy : A_Told_placesFrom_4 d0 Q p1 0 0 h) : Call d M_Told_placesFrom [vR 10 (-1), vI p1] h Q := by
  refine ⟨d0, hd, Big.of rfl (Nat.le_of_ble_eq_true rfl) ?_⟩
  show AW d0 M_Told_placesFrom Q 0 [some (vR 10 (-1)), some (vI p1), none, none] [] h
  refine a_iconst (x := 0) dX7_placesFrom_0 rfl ⟨by decide, by decide⟩ ?_
  refine a_istore_n (i := 2) (ls2 := [some (vR 10 (-1)), some (vI p1), some (vI 0), none]) dX7_placesFrom_1 rfl (Nat.le_of_ble_eq_true rfl) rfl ?_
  refine a_iconst (x := 0) dX7_placesFrom_2 rfl ⟨by decide, by decide⟩ ?_
  refine a_istore_n (i := 3) (ls2 := [some (vR 10 (-1)), some (vI p1), some (vI 0), some (vI 0)]) dX7_placesFrom_3 rfl (Nat.le_of_ble_eq_true rfl) rfl ?_
  exact hy
def A_Told_readWords_10 (d : Nat) (Q : Int → AH → Prop) (p1 : Int) (v2 : Int) (v4 : Int) (h : AH) : Prop := AW d M_Told_readWords Q 10 [some (vR 10 (-1)), some (vI p1), some (vL v2), none, some (vI v4), none] [] h
theorem s_Told_readWords_10 {d : Nat} {Q : Int → AH → Prop} {p1 : Int} {v2 : Int} {v4 : Int} {h : AH} (hy : ((p1 ≤ v4 → Q 1 h) ∧ (v4 < p1 → ((14 ≤ v4 → Q 1 h) ∧ (v4 < 14 → (Call d M_Tape_byteAt [vR 1 (-1), vI v4] h (fun r2 h1 => Call d M_Words_has [vR 2 (-1), vI r2] h1 (fun r4 h3 => ((r4 = 0 → Q 0 h3) ∧ (r4 ≠ 0 → (((land (lushr v2 r2) 1) = 0 → (inb v4 14 ∧ (inI ((h3.1 10 10) + 1) ∧ (inI (v4 + 1) ∧ A_Told_readWords_10 d Q p1 (lor v2 (lshl 1 r2)) (v4 + 1) (wI (wI h3 48 v4 r2) 10 10 ((h3.1 10 10) + 1)))))) ∧ ((land (lushr v2 r2) 1) ≠ 0 → Q 0 h3)))))))))))) : A_Told_readWords_10 d Q p1 v2 v4 h := by
  show AW d M_Told_readWords Q 10 [some (vR 10 (-1)), some (vI p1), some (vL v2), none, some (vI v4), none] [] h
  refine a_iload dX7_readWords_10 rfl ?_
  refine a_iload_n dX7_readWords_12 rfl ?_
  refine a_icmp_ge (tgt := 91) dX7_readWords_13 (by decide) (fun c => ?_) (fun c => ?_)
  · have hy := hy.1 c
    refine a_iconst (x := 1) dX7_readWords_91 rfl ⟨by decide, by decide⟩ ?_
    exact a_zret dX7_readWords_92 rfl (Or.inr rfl) hy
  · have hy := hy.2 (Int.not_le.mp c)
    refine a_iload dX7_readWords_16 rfl ?_
    refine a_bipush (x := 14) dX7_readWords_18 (by decide) ⟨by decide, by decide⟩ ?_
    refine a_icmp_ge (tgt := 91) dX7_readWords_20 (by decide) (fun c => ?_) (fun c => ?_)
    · have hy := hy.1 c
      refine a_iconst (x := 1) dX7_readWords_91 rfl ⟨by decide, by decide⟩ ?_
      exact a_zret dX7_readWords_92 rfl (Or.inr rfl) hy
    · have hy := hy.2 (Int.not_le.mp c)
      refine a_aload_n dX7_readWords_23 rfl ?_
      refine a_getR dX7_readWords_24 fl_Told_35 sk_10 rfl ?_
      refine a_iload dX7_readWords_27 rfl ?_
      refine a_callVi (as := [vI v4]) (st := []) dX7_readWords_29 lk_Told_51 sk_1 rfl rfl (Nat.le_of_ble_eq_true rfl) (Or.inl rfl) (Call.mono hy (fun r2 h1 _ hy => ?_))
      refine a_istore (ls2 := [some (vR 10 (-1)), some (vI p1), some (vL v2), none, some (vI v4), some (vI r2)]) dX7_readWords_32 (Nat.le_of_ble_eq_true rfl) rfl ?_
      refine a_aload_n dX7_readWords_34 rfl ?_
      refine a_getR dX7_readWords_35 fl_Told_31 sk_10 rfl ?_
      refine a_iload dX7_readWords_38 rfl ?_
      refine a_callVi (as := [vI r2]) (st := []) dX7_readWords_40 lk_Told_57 sk_2 rfl rfl (Nat.le_of_ble_eq_true rfl) (Or.inr rfl) (Call.mono hy (fun r4 h3 _ hy => ?_))
      refine a_if_eq (tgt := 57) dX7_readWords_43 (by decide) (fun c => ?_) (fun c => ?_)
      · have hy := hy.1 c
        refine a_iconst (x := 0) dX7_readWords_57 rfl ⟨by decide, by decide⟩ ?_
        exact a_zret dX7_readWords_58 rfl (Or.inl rfl) hy
      · have hy := hy.2 (c)
        refine a_lload_n dX7_readWords_46 rfl ?_
        refine a_iload dX7_readWords_47 rfl ?_
        refine a_lushr dX7_readWords_49 ?_
        refine a_lconst (x := 1) dX7_readWords_50 rfl ⟨by decide, by decide⟩ ?_
        refine a_land dX7_readWords_51 ?_
        refine a_lconst (x := 0) dX7_readWords_52 rfl ⟨by decide, by decide⟩ ?_
        refine a_lc_eq (tgt := 59) dX7_readWords_53 dX7_readWords_54 (by decide) (fun c => ?_) (fun c => ?_)
        · have hy := hy.1 c
          refine a_lload_n dX7_readWords_59 rfl ?_
          refine a_lconst (x := 1) dX7_readWords_60 rfl ⟨by decide, by decide⟩ ?_
          refine a_iload dX7_readWords_61 rfl ?_
          refine a_lshl dX7_readWords_63 ?_
          refine a_lor dX7_readWords_64 ?_
          refine a_lstore_n (i := 2) (ls2 := [some (vR 10 (-1)), some (vI p1), some (vL (lor v2 (lshl 1 r2))), none, some (vI v4), some (vI r2)]) dX7_readWords_65 rfl (Nat.le_of_ble_eq_true rfl) rfl ?_
          refine a_aload_n dX7_readWords_66 rfl ?_
          refine a_getR dX7_readWords_67 fl_Told_9 sk_10 rfl ?_
          refine a_iload dX7_readWords_70 rfl ?_
          refine a_iload dX7_readWords_72 rfl ?_
          obtain ⟨c5, hy⟩ := hy
          refine a_iast dX7_readWords_74 sk_48 c5 ?_
          refine a_aload_n dX7_readWords_75 rfl ?_
          refine a_dupR dX7_readWords_76 ?_
          refine a_getI' (kz := 10) dX7_readWords_77 fl_Told_47 sk_10 rfl rfl (rI_ne (by decide)) ?_
          refine a_iconst (x := 1) dX7_readWords_80 rfl ⟨by decide, by decide⟩ ?_
          obtain ⟨c6, hy⟩ := hy
          refine a_iadd dX7_readWords_81 c6 ?_
          refine a_putI (kz := 10) dX7_readWords_82 fp_Told_47 sk_10 rfl rfl ?_
          obtain ⟨c7, hy⟩ := hy
          refine a_iinc (y := v4 + 1) (ls2 := [some (vR 10 (-1)), some (vI p1), some (vL (lor v2 (lshl 1 r2))), none, some (vI (v4 + 1)), some (vI r2)]) dX7_readWords_85 rfl rfl c7 rfl ?_
          refine a_goto (tgt := 10) dX7_readWords_88 (by decide) ?_
          refine a_mask [true, true, true, true, true, false] (ls2 := [some (vR 10 (-1)), some (vI p1), some (vL (lor v2 (lshl 1 r2))), none, some (vI (v4 + 1)), none]) rfl rfl ?_
          exact hy
        · have hy := hy.2 (c)
          refine a_iconst (x := 0) dX7_readWords_57 rfl ⟨by decide, by decide⟩ ?_
          exact a_zret dX7_readWords_58 rfl (Or.inl rfl) hy
theorem c_Told_readWords {d : Nat} (d0 : Nat) (hd : d0 < d) {p1 : Int} {h : AH} {Q : Int → AH → Prop} (hy : A_Told_readWords_10 d0 Q p1 0 0 (wI h 10 10 0)) : Call d M_Told_readWords [vR 10 (-1), vI p1] h Q := by
  refine ⟨d0, hd, Big.of rfl (Nat.le_of_ble_eq_true rfl) ?_⟩
  show AW d0 M_Told_readWords Q 0 [some (vR 10 (-1)), some (vI p1), none, none, none, none] [] h
  refine a_aload_n dX7_readWords_0 rfl ?_
  refine a_iconst (x := 0) dX7_readWords_1 rfl ⟨by decide, by decide⟩ ?_
  refine a_putI (kz := 10) dX7_readWords_2 fp_Told_47 sk_10 rfl rfl ?_
  refine a_lconst (x := 0) dX7_readWords_5 rfl ⟨by decide, by decide⟩ ?_
  refine a_lstore_n (i := 2) (ls2 := [some (vR 10 (-1)), some (vI p1), some (vL 0), none, none, none]) dX7_readWords_6 rfl (Nat.le_of_ble_eq_true rfl) rfl ?_
  refine a_iconst (x := 0) dX7_readWords_7 rfl ⟨by decide, by decide⟩ ?_
  refine a_istore (ls2 := [some (vR 10 (-1)), some (vI p1), some (vL 0), none, some (vI 0), none]) dX7_readWords_8 (Nat.le_of_ble_eq_true rfl) rfl ?_
  exact hy
def A_Told_rowPlaceAfter_3 (d : Nat) (Q : Int → AH → Prop) (p1 : Int) (p2 : Int) (p3 : Int) (v4 : Int) (h : AH) : Prop := AW d M_Told_rowPlaceAfter Q 3 [some (vR 10 (-1)), some (vI p1), some (vI p2), some (vI p3), some (vI v4), none, none] [] h
def A_Told_rowPlaceAfter_35 (d : Nat) (Q : Int → AH → Prop) (p1 : Int) (p2 : Int) (p3 : Int) (v4 : Int) (s0 : Int) (h : AH) : Prop := AW d M_Told_rowPlaceAfter Q 35 [some (vR 10 (-1)), some (vI p1), some (vI p2), some (vI p3), some (vI v4), none, none] [vI s0] h
theorem s_Told_rowPlaceAfter_3 {d : Nat} {Q : Int → AH → Prop} {p1 : Int} {p2 : Int} {p3 : Int} {v4 : Int} {h : AH} (hy : (((h.1 10 10) ≤ v4 → Q (-1) h) ∧ (v4 < (h.1 10 10) → ((p2 ≠ (-1) → (inI (p2 * (h.1 10 10)) ∧ (inI ((p2 * (h.1 10 10)) + v4) ∧ (inb ((p2 * (h.1 10 10)) + v4) 100 ∧ A_Told_rowPlaceAfter_35 d Q p1 p2 p3 v4 (h.1 49 ((p2 * (h.1 10 10)) + v4)) h)))) ∧ (p2 = (-1) → A_Told_rowPlaceAfter_35 d Q p1 p2 p3 v4 0 h))))) : A_Told_rowPlaceAfter_3 d Q p1 p2 p3 v4 h := by
  show AW d M_Told_rowPlaceAfter Q 3 [some (vR 10 (-1)), some (vI p1), some (vI p2), some (vI p3), some (vI v4), none, none] [] h
  refine a_iload dX7_rowPlaceAfter_3 rfl ?_
  refine a_aload_n dX7_rowPlaceAfter_5 rfl ?_
  refine a_getI' (kz := 10) dX7_rowPlaceAfter_6 fl_Told_47 sk_10 rfl rfl (rfl) ?_
  refine a_icmp_ge (tgt := 103) dX7_rowPlaceAfter_9 (by decide) (fun c => ?_) (fun c => ?_)
  · have hy := hy.1 c
    refine a_iconst (x := (-1)) dX7_rowPlaceAfter_103 rfl ⟨by decide, by decide⟩ ?_
    exact a_iret dX7_rowPlaceAfter_104 rfl hy
  · have hy := hy.2 (Int.not_le.mp c)
    refine a_iload_n dX7_rowPlaceAfter_12 rfl ?_
    refine a_iconst (x := (-1)) dX7_rowPlaceAfter_13 rfl ⟨by decide, by decide⟩ ?_
    refine a_icmp_ne (tgt := 21) dX7_rowPlaceAfter_14 (by decide) (fun c => ?_) (fun c => ?_)
    · have hy := hy.1 c
      refine a_aload_n dX7_rowPlaceAfter_21 rfl ?_
      refine a_getR dX7_rowPlaceAfter_22 fl_Told_15 sk_10 rfl ?_
      refine a_iload_n dX7_rowPlaceAfter_25 rfl ?_
      refine a_aload_n dX7_rowPlaceAfter_26 rfl ?_
      refine a_getI' (kz := 10) dX7_rowPlaceAfter_27 fl_Told_47 sk_10 rfl rfl (rfl) ?_
      obtain ⟨c1, hy⟩ := hy
      refine a_imul dX7_rowPlaceAfter_30 c1 ?_
      refine a_iload dX7_rowPlaceAfter_31 rfl ?_
      obtain ⟨c2, hy⟩ := hy
      refine a_iadd dX7_rowPlaceAfter_33 c2 ?_
      obtain ⟨c3, hy⟩ := hy
      refine a_iald' dX7_rowPlaceAfter_34 sk_49 c3 (rfl) ?_
      exact hy
    · have hy := hy.2 (Decidable.not_not.mp c)
      refine a_iconst (x := 0) dX7_rowPlaceAfter_17 rfl ⟨by decide, by decide⟩ ?_
      refine a_goto (tgt := 35) dX7_rowPlaceAfter_18 (by decide) ?_
      exact hy
theorem s_Told_rowPlaceAfter_35 {d : Nat} {Q : Int → AH → Prop} {p1 : Int} {p2 : Int} {p3 : Int} {v4 : Int} {s0 : Int} {h : AH} (hy : (((if (iand (iushr p1 v4) 1) = 0 then (if p2 = (-1) then (1 : Int) else if s0 = 0 then (0 : Int) else 1 : Int) else 0) = 0 → (inI (v4 + 1) ∧ A_Told_rowPlaceAfter_3 d Q p1 p2 p3 (v4 + 1) h)) ∧ ((if (iand (iushr p1 v4) 1) = 0 then (if p2 = (-1) then (1 : Int) else if s0 = 0 then (0 : Int) else 1 : Int) else 0) ≠ 0 → (inI ((ior p1 (ishl 1 v4)) * (h.1 10 10)) ∧ (inI (((ior p1 (ishl 1 v4)) * (h.1 10 10)) + v4) ∧ (inb (((ior p1 (ishl 1 v4)) * (h.1 10 10)) + v4) 10240 ∧ (inI (s0 + (h.1 50 (((ior p1 (ishl 1 v4)) * (h.1 10 10)) + v4))) ∧ (((s0 + (h.1 50 (((ior p1 (ishl 1 v4)) * (h.1 10 10)) + v4))) ≠ p3 → (inI (v4 + 1) ∧ A_Told_rowPlaceAfter_3 d Q p1 p2 p3 (v4 + 1) h)) ∧ ((s0 + (h.1 50 (((ior p1 (ishl 1 v4)) * (h.1 10 10)) + v4))) = p3 → Q v4 h))))))))) : A_Told_rowPlaceAfter_35 d Q p1 p2 p3 v4 s0 h := by
  show AW d M_Told_rowPlaceAfter Q 35 [some (vR 10 (-1)), some (vI p1), some (vI p2), some (vI p3), some (vI v4), none, none] [vI s0] h
  refine a_istore (ls2 := [some (vR 10 (-1)), some (vI p1), some (vI p2), some (vI p3), some (vI v4), some (vI s0), none]) dX7_rowPlaceAfter_35 (Nat.le_of_ble_eq_true rfl) rfl ?_
  refine a_iload_n dX7_rowPlaceAfter_37 rfl ?_
  refine a_iload dX7_rowPlaceAfter_38 rfl ?_
  refine a_iushr dX7_rowPlaceAfter_40 ?_
  refine a_iconst (x := 1) dX7_rowPlaceAfter_41 rfl ⟨by decide, by decide⟩ ?_
  refine a_iand dX7_rowPlaceAfter_42 ?_
  have J : AW d M_Told_rowPlaceAfter Q 61 [some (vR 10 (-1)), some (vI p1), some (vI p2), some (vI p3), some (vI v4), some (vI s0), none] [vI (if (iand (iushr p1 v4) 1) = 0 then (if p2 = (-1) then (1 : Int) else if s0 = 0 then (0 : Int) else 1 : Int) else 0)] h := by
    refine a_istore (ls2 := [some (vR 10 (-1)), some (vI p1), some (vI p2), some (vI p3), some (vI v4), some (vI s0), some (vI (if (iand (iushr p1 v4) 1) = 0 then (if p2 = (-1) then (1 : Int) else if s0 = 0 then (0 : Int) else 1 : Int) else 0))]) dX7_rowPlaceAfter_61 (Nat.le_of_ble_eq_true rfl) rfl ?_
    refine a_iload dX7_rowPlaceAfter_63 rfl ?_
    refine a_if_eq (tgt := 97) dX7_rowPlaceAfter_65 (by decide) (fun c => ?_) (fun c => ?_)
    · have hy := hy.1 c
      obtain ⟨c1, hy⟩ := hy
      refine a_iinc (y := v4 + 1) (ls2 := [some (vR 10 (-1)), some (vI p1), some (vI p2), some (vI p3), some (vI (v4 + 1)), some (vI s0), some (vI (if (iand (iushr p1 v4) 1) = 0 then (if p2 = (-1) then (1 : Int) else if s0 = 0 then (0 : Int) else 1 : Int) else 0))]) dX7_rowPlaceAfter_97 rfl rfl c1 rfl ?_
      refine a_goto (tgt := 3) dX7_rowPlaceAfter_100 (by decide) ?_
      refine a_mask [true, true, true, true, true, false, false] (ls2 := [some (vR 10 (-1)), some (vI p1), some (vI p2), some (vI p3), some (vI (v4 + 1)), none, none]) rfl rfl ?_
      exact hy
    · have hy := hy.2 (c)
      refine a_iload dX7_rowPlaceAfter_68 rfl ?_
      refine a_aload_n dX7_rowPlaceAfter_70 rfl ?_
      refine a_getR dX7_rowPlaceAfter_71 fl_Told_18 sk_10 rfl ?_
      refine a_iload_n dX7_rowPlaceAfter_74 rfl ?_
      refine a_iconst (x := 1) dX7_rowPlaceAfter_75 rfl ⟨by decide, by decide⟩ ?_
      refine a_iload dX7_rowPlaceAfter_76 rfl ?_
      refine a_ishl dX7_rowPlaceAfter_78 ?_
      refine a_ior dX7_rowPlaceAfter_79 ?_
      refine a_aload_n dX7_rowPlaceAfter_80 rfl ?_
      refine a_getI' (kz := 10) dX7_rowPlaceAfter_81 fl_Told_47 sk_10 rfl rfl (rfl) ?_
      obtain ⟨c2, hy⟩ := hy
      refine a_imul dX7_rowPlaceAfter_84 c2 ?_
      refine a_iload dX7_rowPlaceAfter_85 rfl ?_
      obtain ⟨c3, hy⟩ := hy
      refine a_iadd dX7_rowPlaceAfter_87 c3 ?_
      obtain ⟨c4, hy⟩ := hy
      refine a_iald' dX7_rowPlaceAfter_88 sk_50 c4 (rfl) ?_
      obtain ⟨c5, hy⟩ := hy
      refine a_iadd dX7_rowPlaceAfter_89 c5 ?_
      refine a_iload_n dX7_rowPlaceAfter_90 rfl ?_
      refine a_icmp_ne (tgt := 97) dX7_rowPlaceAfter_91 (by decide) (fun c => ?_) (fun c => ?_)
      · have hy := hy.1 c
        obtain ⟨c6, hy⟩ := hy
        refine a_iinc (y := v4 + 1) (ls2 := [some (vR 10 (-1)), some (vI p1), some (vI p2), some (vI p3), some (vI (v4 + 1)), some (vI s0), some (vI (if (iand (iushr p1 v4) 1) = 0 then (if p2 = (-1) then (1 : Int) else if s0 = 0 then (0 : Int) else 1 : Int) else 0))]) dX7_rowPlaceAfter_97 rfl rfl c6 rfl ?_
        refine a_goto (tgt := 3) dX7_rowPlaceAfter_100 (by decide) ?_
        refine a_mask [true, true, true, true, true, false, false] (ls2 := [some (vR 10 (-1)), some (vI p1), some (vI p2), some (vI p3), some (vI (v4 + 1)), none, none]) rfl rfl ?_
        exact hy
      · have hy := hy.2 (Decidable.not_not.mp c)
        refine a_iload dX7_rowPlaceAfter_94 rfl ?_
        exact a_iret dX7_rowPlaceAfter_96 rfl hy
  refine a_if_ne (tgt := 60) dX7_rowPlaceAfter_43 (by decide) (fun e7 => ?_) (fun e7 => ?_)
  · refine a_iconst (x := 0) dX7_rowPlaceAfter_60 rfl ⟨by decide, by decide⟩ ?_
    exact a_cast (by first | rfl | simp only [if_neg e7]) (by first | rfl | simp only [if_neg e7]) J
  · refine a_iload_n dX7_rowPlaceAfter_46 rfl ?_
    refine a_iconst (x := (-1)) dX7_rowPlaceAfter_47 rfl ⟨by decide, by decide⟩ ?_
    refine a_icmp_eq (tgt := 56) dX7_rowPlaceAfter_48 (by decide) (fun e8 => ?_) (fun e8 => ?_)
    · refine a_iconst (x := 1) dX7_rowPlaceAfter_56 rfl ⟨by decide, by decide⟩ ?_
      refine a_goto (tgt := 61) dX7_rowPlaceAfter_57 (by decide) ?_
      exact a_cast (by first | rfl | simp only [if_pos (Decidable.not_not.mp e7), if_pos e8]) (by first | rfl | simp only [if_pos (Decidable.not_not.mp e7), if_pos e8]) J
    · refine a_iload dX7_rowPlaceAfter_51 rfl ?_
      refine a_if_eq (tgt := 60) dX7_rowPlaceAfter_53 (by decide) (fun e9 => ?_) (fun e9 => ?_)
      · refine a_iconst (x := 0) dX7_rowPlaceAfter_60 rfl ⟨by decide, by decide⟩ ?_
        exact a_cast (by first | rfl | simp only [if_pos (Decidable.not_not.mp e7), if_neg e8, if_pos e9]) (by first | rfl | simp only [if_pos (Decidable.not_not.mp e7), if_neg e8, if_pos e9]) J
      · refine a_iconst (x := 1) dX7_rowPlaceAfter_56 rfl ⟨by decide, by decide⟩ ?_
        refine a_goto (tgt := 61) dX7_rowPlaceAfter_57 (by decide) ?_
        exact a_cast (by first | rfl | simp only [if_pos (Decidable.not_not.mp e7), if_neg e8, if_neg e9]) (by first | rfl | simp only [if_pos (Decidable.not_not.mp e7), if_neg e8, if_neg e9]) J
theorem c_Told_rowPlaceAfter {d : Nat} (d0 : Nat) (hd : d0 < d) {p1 : Int} {p2 : Int} {p3 : Int} {h : AH} {Q : Int → AH → Prop} (hy : A_Told_rowPlaceAfter_3 d0 Q p1 p2 p3 0 h) : Call d M_Told_rowPlaceAfter [vR 10 (-1), vI p1, vI p2, vI p3] h Q := by
  refine ⟨d0, hd, Big.of rfl (Nat.le_of_ble_eq_true rfl) ?_⟩
  show AW d0 M_Told_rowPlaceAfter Q 0 [some (vR 10 (-1)), some (vI p1), some (vI p2), some (vI p3), none, none, none] [] h
  refine a_iconst (x := 0) dX7_rowPlaceAfter_0 rfl ⟨by decide, by decide⟩ ?_
  refine a_istore (ls2 := [some (vR 10 (-1)), some (vI p1), some (vI p2), some (vI p3), some (vI 0), none, none]) dX7_rowPlaceAfter_1 (Nat.le_of_ble_eq_true rfl) rfl ?_
  exact hy
def A_Told_rowWordAt_13 (d : Nat) (Q : Int → AH → Prop) (p1 : Int) (v2 : Int) (v3 : Int) (v4 : Int) (v5 : Int) (h : AH) : Prop := AW d M_Told_rowWordAt Q 13 [some (vR 10 (-1)), some (vI p1), some (vI v2), some (vI v3), some (vI v4), some (vI v5), none] [] h
def A_Told_rowWordAt_90 (d : Nat) (Q : Int → AH → Prop) (v3 : Int) (h : AH) : Prop := AW d M_Told_rowWordAt Q 90 [some (vR 10 (-1)), none, none, some (vI v3), none, none, none] [] h
def A_Told_rowWordAt_71 (d : Nat) (Q : Int → AH → Prop) (p1 : Int) (v2 : Int) (v5 : Int) (v6 : Int) (s0 : Int) (s1 : Int) (h : AH) : Prop := AW d M_Told_rowWordAt Q 71 [some (vR 10 (-1)), some (vI p1), some (vI v2), none, none, some (vI v5), some (vI v6)] [vI s1, vI s0] h
theorem s_Told_rowWordAt_13 {d : Nat} {Q : Int → AH → Prop} {p1 : Int} {v2 : Int} {v3 : Int} {v4 : Int} {v5 : Int} {h : AH} (hy : ((p1 < v5 → A_Told_rowWordAt_90 d Q v3 h) ∧ (v5 ≤ p1 → (((h.1 10 10) ≤ v5 → A_Told_rowWordAt_90 d Q v3 h) ∧ (v5 < (h.1 10 10) → (Call d M_Told_rowPlaceAfter [vR 10 (-1), vI v2, vI v3, vI v4] h (fun r2 h1 => ((r2 ≠ (-1) → ((v3 ≠ (-1) → (inI (v3 * (h1.1 10 10)) ∧ (inI ((v3 * (h1.1 10 10)) + r2) ∧ (inb ((v3 * (h1.1 10 10)) + r2) 100 ∧ A_Told_rowWordAt_71 d Q p1 v2 v5 r2 v4 (h1.1 49 ((v3 * (h1.1 10 10)) + r2)) h1)))) ∧ (v3 = (-1) → A_Told_rowWordAt_71 d Q p1 v2 v5 r2 v4 0 h1))) ∧ (r2 = (-1) → Q (-1) h1))))))))) : A_Told_rowWordAt_13 d Q p1 v2 v3 v4 v5 h := by
  show AW d M_Told_rowWordAt Q 13 [some (vR 10 (-1)), some (vI p1), some (vI v2), some (vI v3), some (vI v4), some (vI v5), none] [] h
  refine a_iload dX7_rowWordAt_13 rfl ?_
  refine a_iload_n dX7_rowWordAt_15 rfl ?_
  refine a_icmp_gt (tgt := 90) dX7_rowWordAt_16 (by decide) (fun c => ?_) (fun c => ?_)
  · have hy := hy.1 c
    refine a_mask [true, false, false, true, false, false, true] (ls2 := [some (vR 10 (-1)), none, none, some (vI v3), none, none, none]) rfl rfl ?_
    exact hy
  · have hy := hy.2 (Int.not_lt.mp c)
    refine a_iload dX7_rowWordAt_19 rfl ?_
    refine a_aload_n dX7_rowWordAt_21 rfl ?_
    refine a_getI' (kz := 10) dX7_rowWordAt_22 fl_Told_47 sk_10 rfl rfl (rfl) ?_
    refine a_icmp_ge (tgt := 90) dX7_rowWordAt_25 (by decide) (fun c => ?_) (fun c => ?_)
    · have hy := hy.1 c
      refine a_mask [true, false, false, true, false, false, true] (ls2 := [some (vR 10 (-1)), none, none, some (vI v3), none, none, none]) rfl rfl ?_
      exact hy
    · have hy := hy.2 (Int.not_le.mp c)
      refine a_aload_n dX7_rowWordAt_28 rfl ?_
      refine a_iload_n dX7_rowWordAt_29 rfl ?_
      refine a_iload_n dX7_rowWordAt_30 rfl ?_
      refine a_iload dX7_rowWordAt_31 rfl ?_
      refine a_callVi (as := [vI v2, vI v3, vI v4]) (st := []) dX7_rowWordAt_33 lk_Told_87 sk_10 rfl rfl (Nat.le_of_ble_eq_true rfl) (Or.inl rfl) (Call.mono hy (fun r2 h1 _ hy => ?_))
      refine a_istore (ls2 := [some (vR 10 (-1)), some (vI p1), some (vI v2), some (vI v3), some (vI v4), some (vI v5), some (vI r2)]) dX7_rowWordAt_36 (Nat.le_of_ble_eq_true rfl) rfl ?_
      refine a_iload dX7_rowWordAt_38 rfl ?_
      refine a_iconst (x := (-1)) dX7_rowWordAt_40 rfl ⟨by decide, by decide⟩ ?_
      refine a_icmp_ne (tgt := 46) dX7_rowWordAt_41 (by decide) (fun c => ?_) (fun c => ?_)
      · have hy := hy.1 c
        refine a_iload dX7_rowWordAt_46 rfl ?_
        refine a_iload_n dX7_rowWordAt_48 rfl ?_
        refine a_iconst (x := (-1)) dX7_rowWordAt_49 rfl ⟨by decide, by decide⟩ ?_
        refine a_icmp_ne (tgt := 57) dX7_rowWordAt_50 (by decide) (fun c => ?_) (fun c => ?_)
        · have hy := hy.1 c
          refine a_aload_n dX7_rowWordAt_57 rfl ?_
          refine a_getR dX7_rowWordAt_58 fl_Told_15 sk_10 rfl ?_
          refine a_iload_n dX7_rowWordAt_61 rfl ?_
          refine a_aload_n dX7_rowWordAt_62 rfl ?_
          refine a_getI' (kz := 10) dX7_rowWordAt_63 fl_Told_47 sk_10 rfl rfl (rfl) ?_
          obtain ⟨c3, hy⟩ := hy
          refine a_imul dX7_rowWordAt_66 c3 ?_
          refine a_iload dX7_rowWordAt_67 rfl ?_
          obtain ⟨c4, hy⟩ := hy
          refine a_iadd dX7_rowWordAt_69 c4 ?_
          obtain ⟨c5, hy⟩ := hy
          refine a_iald' dX7_rowWordAt_70 sk_49 c5 (rfl) ?_
          refine a_mask [true, true, true, false, false, true, true] (ls2 := [some (vR 10 (-1)), some (vI p1), some (vI v2), none, none, some (vI v5), some (vI r2)]) rfl rfl ?_
          exact hy
        · have hy := hy.2 (Decidable.not_not.mp c)
          refine a_iconst (x := 0) dX7_rowWordAt_53 rfl ⟨by decide, by decide⟩ ?_
          refine a_goto (tgt := 71) dX7_rowWordAt_54 (by decide) ?_
          refine a_mask [true, true, true, false, false, true, true] (ls2 := [some (vR 10 (-1)), some (vI p1), some (vI v2), none, none, some (vI v5), some (vI r2)]) rfl rfl ?_
          exact hy
      · have hy := hy.2 (Decidable.not_not.mp c)
        refine a_iconst (x := (-1)) dX7_rowWordAt_44 rfl ⟨by decide, by decide⟩ ?_
        exact a_iret dX7_rowWordAt_45 rfl hy
theorem s_Told_rowWordAt_90 {d : Nat} {Q : Int → AH → Prop} {v3 : Int} {h : AH} (hy : ((v3 ≠ (-1) → (inb v3 14 ∧ Q (h.1 48 v3) h)) ∧ (v3 = (-1) → Q (-1) h))) : A_Told_rowWordAt_90 d Q v3 h := by
  show AW d M_Told_rowWordAt Q 90 [some (vR 10 (-1)), none, none, some (vI v3), none, none, none] [] h
  refine a_iload_n dX7_rowWordAt_90 rfl ?_
  refine a_iconst (x := (-1)) dX7_rowWordAt_91 rfl ⟨by decide, by decide⟩ ?_
  refine a_icmp_ne (tgt := 99) dX7_rowWordAt_92 (by decide) (fun c => ?_) (fun c => ?_)
  · have hy := hy.1 c
    refine a_aload_n dX7_rowWordAt_99 rfl ?_
    refine a_getR dX7_rowWordAt_100 fl_Told_9 sk_10 rfl ?_
    refine a_iload_n dX7_rowWordAt_103 rfl ?_
    obtain ⟨c1, hy⟩ := hy
    refine a_iald' dX7_rowWordAt_104 sk_48 c1 (rfl) ?_
    exact a_iret dX7_rowWordAt_105 rfl hy
  · have hy := hy.2 (Decidable.not_not.mp c)
    refine a_iconst (x := (-1)) dX7_rowWordAt_95 rfl ⟨by decide, by decide⟩ ?_
    refine a_goto (tgt := 105) dX7_rowWordAt_96 (by decide) ?_
    exact a_iret dX7_rowWordAt_105 rfl hy
theorem s_Told_rowWordAt_71 {d : Nat} {Q : Int → AH → Prop} {p1 : Int} {v2 : Int} {v5 : Int} {v6 : Int} {s0 : Int} {s1 : Int} {h : AH} (hy : inI (s0 - s1) ∧ (inI (v5 + 1) ∧ A_Told_rowWordAt_13 d Q p1 (ior v2 (ishl 1 v6)) v6 (s0 - s1) (v5 + 1) h)) : A_Told_rowWordAt_71 d Q p1 v2 v5 v6 s0 s1 h := by
  show AW d M_Told_rowWordAt Q 71 [some (vR 10 (-1)), some (vI p1), some (vI v2), none, none, some (vI v5), some (vI v6)] [vI s1, vI s0] h
  obtain ⟨c1, hy⟩ := hy
  refine a_isub dX7_rowWordAt_71 c1 ?_
  refine a_istore (ls2 := [some (vR 10 (-1)), some (vI p1), some (vI v2), none, some (vI (s0 - s1)), some (vI v5), some (vI v6)]) dX7_rowWordAt_72 (Nat.le_of_ble_eq_true rfl) rfl ?_
  refine a_iload_n dX7_rowWordAt_74 rfl ?_
  refine a_iconst (x := 1) dX7_rowWordAt_75 rfl ⟨by decide, by decide⟩ ?_
  refine a_iload dX7_rowWordAt_76 rfl ?_
  refine a_ishl dX7_rowWordAt_78 ?_
  refine a_ior dX7_rowWordAt_79 ?_
  refine a_istore_n (i := 2) (ls2 := [some (vR 10 (-1)), some (vI p1), some (vI (ior v2 (ishl 1 v6))), none, some (vI (s0 - s1)), some (vI v5), some (vI v6)]) dX7_rowWordAt_80 rfl (Nat.le_of_ble_eq_true rfl) rfl ?_
  refine a_iload dX7_rowWordAt_81 rfl ?_
  refine a_istore_n (i := 3) (ls2 := [some (vR 10 (-1)), some (vI p1), some (vI (ior v2 (ishl 1 v6))), some (vI v6), some (vI (s0 - s1)), some (vI v5), some (vI v6)]) dX7_rowWordAt_83 rfl (Nat.le_of_ble_eq_true rfl) rfl ?_
  obtain ⟨c2, hy⟩ := hy
  refine a_iinc (y := v5 + 1) (ls2 := [some (vR 10 (-1)), some (vI p1), some (vI (ior v2 (ishl 1 v6))), some (vI v6), some (vI (s0 - s1)), some (vI (v5 + 1)), some (vI v6)]) dX7_rowWordAt_84 rfl rfl c2 rfl ?_
  refine a_goto (tgt := 13) dX7_rowWordAt_87 (by decide) ?_
  refine a_mask [true, true, true, true, true, true, false] (ls2 := [some (vR 10 (-1)), some (vI p1), some (vI (ior v2 (ishl 1 v6))), some (vI v6), some (vI (s0 - s1)), some (vI (v5 + 1)), none]) rfl rfl ?_
  exact hy
theorem c_Told_rowWordAt {d : Nat} (d0 : Nat) (hd : d0 < d) {p1 : Int} {h : AH} {Q : Int → AH → Prop} (hy : A_Told_rowWordAt_13 d0 Q p1 0 (-1) (h.1 10 11) 0 h) : Call d M_Told_rowWordAt [vR 10 (-1), vI p1] h Q := by
  refine ⟨d0, hd, Big.of rfl (Nat.le_of_ble_eq_true rfl) ?_⟩
  show AW d0 M_Told_rowWordAt Q 0 [some (vR 10 (-1)), some (vI p1), none, none, none, none, none] [] h
  refine a_iconst (x := 0) dX7_rowWordAt_0 rfl ⟨by decide, by decide⟩ ?_
  refine a_istore_n (i := 2) (ls2 := [some (vR 10 (-1)), some (vI p1), some (vI 0), none, none, none, none]) dX7_rowWordAt_1 rfl (Nat.le_of_ble_eq_true rfl) rfl ?_
  refine a_iconst (x := (-1)) dX7_rowWordAt_2 rfl ⟨by decide, by decide⟩ ?_
  refine a_istore_n (i := 3) (ls2 := [some (vR 10 (-1)), some (vI p1), some (vI 0), some (vI (-1)), none, none, none]) dX7_rowWordAt_3 rfl (Nat.le_of_ble_eq_true rfl) rfl ?_
  refine a_aload_n dX7_rowWordAt_4 rfl ?_
  refine a_getI' (kz := 11) dX7_rowWordAt_5 fl_Told_79 sk_10 rfl rfl (rfl) ?_
  refine a_istore (ls2 := [some (vR 10 (-1)), some (vI p1), some (vI 0), some (vI (-1)), some (vI (h.1 10 11)), none, none]) dX7_rowWordAt_8 (Nat.le_of_ble_eq_true rfl) rfl ?_
  refine a_iconst (x := 0) dX7_rowWordAt_10 rfl ⟨by decide, by decide⟩ ?_
  refine a_istore (ls2 := [some (vR 10 (-1)), some (vI p1), some (vI 0), some (vI (-1)), some (vI (h.1 10 11)), some (vI 0), none]) dX7_rowWordAt_11 (Nat.le_of_ble_eq_true rfl) rfl ?_
  exact hy
def A_Told_sortList_2 (d : Nat) (Q : Int → AH → Prop) (v1 : Int) (h : AH) : Prop := AW d M_Told_sortList Q 2 [some (vR 10 (-1)), some (vI v1), none, none] [] h
def A_Told_sortList_19 (d : Nat) (Q : Int → AH → Prop) (v1 : Int) (v2 : Int) (v3 : Int) (h : AH) : Prop := AW d M_Told_sortList Q 19 [some (vR 10 (-1)), some (vI v1), some (vI v2), some (vI v3)] [] h
def A_Told_sortList_55 (d : Nat) (Q : Int → AH → Prop) (v1 : Int) (v2 : Int) (v3 : Int) (h : AH) : Prop := AW d M_Told_sortList Q 55 [some (vR 10 (-1)), some (vI v1), some (vI v2), some (vI v3)] [] h
theorem s_Told_sortList_2 {d : Nat} {Q : Int → AH → Prop} {v1 : Int} {h : AH} (hy : (((h.1 10 10) ≤ v1 → Q 0 h) ∧ (v1 < (h.1 10 10) → (inb v1 14 ∧ A_Told_sortList_19 d Q v1 (h.1 48 v1) v1 h)))) : A_Told_sortList_2 d Q v1 h := by
  show AW d M_Told_sortList Q 2 [some (vR 10 (-1)), some (vI v1), none, none] [] h
  refine a_iload_n dX7_sortList_2 rfl ?_
  refine a_aload_n dX7_sortList_3 rfl ?_
  refine a_getI' (kz := 10) dX7_sortList_4 fl_Told_47 sk_10 rfl rfl (rfl) ?_
  refine a_icmp_ge (tgt := 68) dX7_sortList_7 (by decide) (fun c => ?_) (fun c => ?_)
  · have hy := hy.1 c
    exact a_vret dX7_sortList_68 rfl hy
  · have hy := hy.2 (Int.not_le.mp c)
    refine a_aload_n dX7_sortList_10 rfl ?_
    refine a_getR dX7_sortList_11 fl_Told_9 sk_10 rfl ?_
    refine a_iload_n dX7_sortList_14 rfl ?_
    obtain ⟨c1, hy⟩ := hy
    refine a_iald' dX7_sortList_15 sk_48 c1 (rfl) ?_
    refine a_istore_n (i := 2) (ls2 := [some (vR 10 (-1)), some (vI v1), some (vI (h.1 48 v1)), none]) dX7_sortList_16 rfl (Nat.le_of_ble_eq_true rfl) rfl ?_
    refine a_iload_n dX7_sortList_17 rfl ?_
    refine a_istore_n (i := 3) (ls2 := [some (vR 10 (-1)), some (vI v1), some (vI (h.1 48 v1)), some (vI v1)]) dX7_sortList_18 rfl (Nat.le_of_ble_eq_true rfl) rfl ?_
    exact hy
theorem s_Told_sortList_19 {d : Nat} {Q : Int → AH → Prop} {v1 : Int} {v2 : Int} {v3 : Int} {h : AH} (hy : ((v3 ≤ 0 → A_Told_sortList_55 d Q v1 v2 v3 h) ∧ (0 < v3 → (inI (v3 - 1) ∧ (inb (v3 - 1) 14 ∧ (((h.1 48 (v3 - 1)) ≤ v2 → A_Told_sortList_55 d Q v1 v2 v3 h) ∧ (v2 < (h.1 48 (v3 - 1)) → (inb v3 14 ∧ A_Told_sortList_19 d Q v1 v2 (v3 - 1) (wI h 48 v3 (h.1 48 (v3 - 1))))))))))) : A_Told_sortList_19 d Q v1 v2 v3 h := by
  show AW d M_Told_sortList Q 19 [some (vR 10 (-1)), some (vI v1), some (vI v2), some (vI v3)] [] h
  refine a_iload_n dX7_sortList_19 rfl ?_
  refine a_if_le (tgt := 55) dX7_sortList_20 (by decide) (fun c => ?_) (fun c => ?_)
  · have hy := hy.1 c
    exact hy
  · have hy := hy.2 (Int.not_le.mp c)
    refine a_aload_n dX7_sortList_23 rfl ?_
    refine a_getR dX7_sortList_24 fl_Told_9 sk_10 rfl ?_
    refine a_iload_n dX7_sortList_27 rfl ?_
    refine a_iconst (x := 1) dX7_sortList_28 rfl ⟨by decide, by decide⟩ ?_
    obtain ⟨c1, hy⟩ := hy
    refine a_isub dX7_sortList_29 c1 ?_
    obtain ⟨c2, hy⟩ := hy
    refine a_iald' dX7_sortList_30 sk_48 c2 (rfl) ?_
    refine a_iload_n dX7_sortList_31 rfl ?_
    refine a_icmp_le (tgt := 55) dX7_sortList_32 (by decide) (fun c => ?_) (fun c => ?_)
    · have hy := hy.1 c
      exact hy
    · have hy := hy.2 (Int.not_le.mp c)
      refine a_aload_n dX7_sortList_35 rfl ?_
      refine a_getR dX7_sortList_36 fl_Told_9 sk_10 rfl ?_
      refine a_iload_n dX7_sortList_39 rfl ?_
      refine a_aload_n dX7_sortList_40 rfl ?_
      refine a_getR dX7_sortList_41 fl_Told_9 sk_10 rfl ?_
      refine a_iload_n dX7_sortList_44 rfl ?_
      refine a_iconst (x := 1) dX7_sortList_45 rfl ⟨by decide, by decide⟩ ?_
      refine a_isub dX7_sortList_46 c1 ?_
      refine a_iald' dX7_sortList_47 sk_48 c2 (rfl) ?_
      obtain ⟨c3, hy⟩ := hy
      refine a_iast dX7_sortList_48 sk_48 c3 ?_
      refine a_iinc (y := v3 - 1) (ls2 := [some (vR 10 (-1)), some (vI v1), some (vI v2), some (vI (v3 - 1))]) dX7_sortList_49 rfl (by omega) c1 rfl ?_
      refine a_goto (tgt := 19) dX7_sortList_52 (by decide) ?_
      exact hy
theorem s_Told_sortList_55 {d : Nat} {Q : Int → AH → Prop} {v1 : Int} {v2 : Int} {v3 : Int} {h : AH} (hy : inb v3 14 ∧ (inI (v1 + 1) ∧ A_Told_sortList_2 d Q (v1 + 1) (wI h 48 v3 v2))) : A_Told_sortList_55 d Q v1 v2 v3 h := by
  show AW d M_Told_sortList Q 55 [some (vR 10 (-1)), some (vI v1), some (vI v2), some (vI v3)] [] h
  refine a_aload_n dX7_sortList_55 rfl ?_
  refine a_getR dX7_sortList_56 fl_Told_9 sk_10 rfl ?_
  refine a_iload_n dX7_sortList_59 rfl ?_
  refine a_iload_n dX7_sortList_60 rfl ?_
  obtain ⟨c1, hy⟩ := hy
  refine a_iast dX7_sortList_61 sk_48 c1 ?_
  obtain ⟨c2, hy⟩ := hy
  refine a_iinc (y := v1 + 1) (ls2 := [some (vR 10 (-1)), some (vI (v1 + 1)), some (vI v2), some (vI v3)]) dX7_sortList_62 rfl rfl c2 rfl ?_
  refine a_goto (tgt := 2) dX7_sortList_65 (by decide) ?_
  refine a_mask [true, true, false, false] (ls2 := [some (vR 10 (-1)), some (vI (v1 + 1)), none, none]) rfl rfl ?_
  exact hy
theorem c_Told_sortList {d : Nat} (d0 : Nat) (hd : d0 < d)  {h : AH} {Q : Int → AH → Prop} (hy : A_Told_sortList_2 d0 Q 1 h) : Call d M_Told_sortList [vR 10 (-1)] h Q := by
  refine ⟨d0, hd, Big.of rfl (Nat.le_of_ble_eq_true rfl) ?_⟩
  show AW d0 M_Told_sortList Q 0 [some (vR 10 (-1)), none, none, none] [] h
  refine a_iconst (x := 1) dX7_sortList_0 rfl ⟨by decide, by decide⟩ ?_
  refine a_istore_n (i := 1) (ls2 := [some (vR 10 (-1)), some (vI 1), none, none]) dX7_sortList_1 rfl (Nat.le_of_ble_eq_true rfl) rfl ?_
  exact hy
def A_Told_tooNearBefore_5 (d : Nat) (Q : Int → AH → Prop) (p1 : Int) (p2 : Int) (v3 : Int) (v4 : Int) (h : AH) : Prop := AW d M_Told_tooNearBefore Q 5 [some (vR 10 (-1)), some (vI p1), some (vI p2), some (vI v3), some (vI v4)] [] h
theorem s_Told_tooNearBefore_5 {d : Nat} {Q : Int → AH → Prop} {p1 : Int} {p2 : Int} {v3 : Int} {v4 : Int} {h : AH} (hy : ((p1 ≤ v4 → Q v3 h) ∧ (v4 < p1 → (inb v4 14 ∧ (inb p1 14 ∧ (Call d M_Spelling_apart [vR 9 (-1), vI (h.1 48 v4), vI (h.1 48 p1)] h (fun r4 h3 => ((p2 ≤ r4 → (inI (v4 + 1) ∧ A_Told_tooNearBefore_5 d Q p1 p2 v3 (v4 + 1) h3)) ∧ (r4 < p2 → (inI (v4 + 1) ∧ A_Told_tooNearBefore_5 d Q p1 p2 (ior v3 (ishl 1 v4)) (v4 + 1) h3)))))))))) : A_Told_tooNearBefore_5 d Q p1 p2 v3 v4 h := by
  show AW d M_Told_tooNearBefore Q 5 [some (vR 10 (-1)), some (vI p1), some (vI p2), some (vI v3), some (vI v4)] [] h
  refine a_iload dX7_tooNearBefore_5 rfl ?_
  refine a_iload_n dX7_tooNearBefore_7 rfl ?_
  refine a_icmp_ge (tgt := 48) dX7_tooNearBefore_8 (by decide) (fun c => ?_) (fun c => ?_)
  · have hy := hy.1 c
    refine a_iload_n dX7_tooNearBefore_48 rfl ?_
    exact a_iret dX7_tooNearBefore_49 rfl hy
  · have hy := hy.2 (Int.not_le.mp c)
    refine a_aload_n dX7_tooNearBefore_11 rfl ?_
    refine a_getR dX7_tooNearBefore_12 fl_Told_43 sk_10 rfl ?_
    refine a_aload_n dX7_tooNearBefore_15 rfl ?_
    refine a_getR dX7_tooNearBefore_16 fl_Told_9 sk_10 rfl ?_
    refine a_iload dX7_tooNearBefore_19 rfl ?_
    obtain ⟨c1, hy⟩ := hy
    refine a_iald' dX7_tooNearBefore_21 sk_48 c1 (rfl) ?_
    refine a_aload_n dX7_tooNearBefore_22 rfl ?_
    refine a_getR dX7_tooNearBefore_23 fl_Told_9 sk_10 rfl ?_
    refine a_iload_n dX7_tooNearBefore_26 rfl ?_
    obtain ⟨c2, hy⟩ := hy
    refine a_iald' dX7_tooNearBefore_27 sk_48 c2 (rfl) ?_
    refine a_callVi (as := [vI (h.1 48 v4), vI (h.1 48 p1)]) (st := []) dX7_tooNearBefore_28 lk_Told_112 sk_9 rfl rfl (Nat.le_of_ble_eq_true rfl) (Or.inl rfl) (Call.mono hy (fun r4 h3 _ hy => ?_))
    refine a_iload_n dX7_tooNearBefore_31 rfl ?_
    refine a_icmp_ge (tgt := 42) dX7_tooNearBefore_32 (by decide) (fun c => ?_) (fun c => ?_)
    · have hy := hy.1 c
      obtain ⟨c5, hy⟩ := hy
      refine a_iinc (y := v4 + 1) (ls2 := [some (vR 10 (-1)), some (vI p1), some (vI p2), some (vI v3), some (vI (v4 + 1))]) dX7_tooNearBefore_42 rfl rfl c5 rfl ?_
      refine a_goto (tgt := 5) dX7_tooNearBefore_45 (by decide) ?_
      exact hy
    · have hy := hy.2 (Int.not_le.mp c)
      refine a_iload_n dX7_tooNearBefore_35 rfl ?_
      refine a_iconst (x := 1) dX7_tooNearBefore_36 rfl ⟨by decide, by decide⟩ ?_
      refine a_iload dX7_tooNearBefore_37 rfl ?_
      refine a_ishl dX7_tooNearBefore_39 ?_
      refine a_ior dX7_tooNearBefore_40 ?_
      refine a_istore_n (i := 3) (ls2 := [some (vR 10 (-1)), some (vI p1), some (vI p2), some (vI (ior v3 (ishl 1 v4))), some (vI v4)]) dX7_tooNearBefore_41 rfl (Nat.le_of_ble_eq_true rfl) rfl ?_
      obtain ⟨c6, hy⟩ := hy
      refine a_iinc (y := v4 + 1) (ls2 := [some (vR 10 (-1)), some (vI p1), some (vI p2), some (vI (ior v3 (ishl 1 v4))), some (vI (v4 + 1))]) dX7_tooNearBefore_42 rfl rfl c6 rfl ?_
      refine a_goto (tgt := 5) dX7_tooNearBefore_45 (by decide) ?_
      exact hy
theorem c_Told_tooNearBefore {d : Nat} (d0 : Nat) (hd : d0 < d) {p1 : Int} {p2 : Int} {h : AH} {Q : Int → AH → Prop} (hy : A_Told_tooNearBefore_5 d0 Q p1 p2 0 0 h) : Call d M_Told_tooNearBefore [vR 10 (-1), vI p1, vI p2] h Q := by
  refine ⟨d0, hd, Big.of rfl (Nat.le_of_ble_eq_true rfl) ?_⟩
  show AW d0 M_Told_tooNearBefore Q 0 [some (vR 10 (-1)), some (vI p1), some (vI p2), none, none] [] h
  refine a_iconst (x := 0) dX7_tooNearBefore_0 rfl ⟨by decide, by decide⟩ ?_
  refine a_istore_n (i := 3) (ls2 := [some (vR 10 (-1)), some (vI p1), some (vI p2), some (vI 0), none]) dX7_tooNearBefore_1 rfl (Nat.le_of_ble_eq_true rfl) rfl ?_
  refine a_iconst (x := 0) dX7_tooNearBefore_2 rfl ⟨by decide, by decide⟩ ?_
  refine a_istore (ls2 := [some (vR 10 (-1)), some (vI p1), some (vI p2), some (vI 0), some (vI 0)]) dX7_tooNearBefore_3 (Nat.le_of_ble_eq_true rfl) rfl ?_
  exact hy
def A_Told_winningWord_24 (d : Nat) (Q : Int → AH → Prop) (v1 : Int) (h : AH) : Prop := AW d M_Told_winningWord Q 24 [some (vR 10 (-1)), some (vI v1), none, none] [] h
def A_Told_winningWord_66 (d : Nat) (Q : Int → AH → Prop) (v1 : Int) (v2 : Int) (v3 : Int) (h : AH) : Prop := AW d M_Told_winningWord Q 66 [some (vR 10 (-1)), some (vI v1), some (vI v2), some (vI v3)] [] h
def A_Told_winningWord_97 (d : Nat) (Q : Int → AH → Prop) (v1 : Int) (v3 : Int) (h : AH) : Prop := AW d M_Told_winningWord Q 97 [some (vR 10 (-1)), some (vI v1), none, some (vI v3)] [] h
theorem s_Told_winningWord_24 {d : Nat} {Q : Int → AH → Prop} {v1 : Int} {h : AH} (hy : ((v1 ≤ 0 → (Call d M_Told_lostAfter [vR 10 (-1), vI 1] h (fun r2 h1 => A_Told_winningWord_66 d Q (iand (h.1 51 0) r2) (-1) 0 h1))) ∧ (0 < v1 → (Call d M_Told_lostAfter [vR 10 (-1), vI v1] h (fun r4 h3 => Call d M_Told_placesFrom [vR 10 (-1), vI r4] h3 (fun r6 h5 => inb v1 4096 ∧ (inI (v1 - 1) ∧ A_Told_winningWord_24 d Q (v1 - 1) (wI h5 52 v1 r6)))))))) : A_Told_winningWord_24 d Q v1 h := by
  show AW d M_Told_winningWord Q 24 [some (vR 10 (-1)), some (vI v1), none, none] [] h
  refine a_iload_n dX7_winningWord_24 rfl ?_
  refine a_if_le (tgt := 49) dX7_winningWord_25 (by decide) (fun c => ?_) (fun c => ?_)
  · have hy := hy.1 c
    refine a_aload_n dX7_winningWord_49 rfl ?_
    refine a_getR dX7_winningWord_50 fl_Told_21 sk_10 rfl ?_
    refine a_iconst (x := 0) dX7_winningWord_53 rfl ⟨by decide, by decide⟩ ?_
    refine a_iald' dX7_winningWord_54 sk_51 ⟨by decide, by decide⟩ (rfl) ?_
    refine a_aload_n dX7_winningWord_55 rfl ?_
    refine a_iconst (x := 1) dX7_winningWord_56 rfl ⟨by decide, by decide⟩ ?_
    refine a_callVi (as := [vI 1]) (st := [vI (h.1 51 0)]) dX7_winningWord_57 lk_Told_94 sk_10 rfl rfl (Nat.le_of_ble_eq_true rfl) (Or.inl rfl) (Call.mono hy (fun r2 h1 _ hy => ?_))
    refine a_iand dX7_winningWord_60 ?_
    refine a_istore_n (i := 1) (ls2 := [some (vR 10 (-1)), some (vI (iand (h.1 51 0) r2)), none, none]) dX7_winningWord_61 rfl (Nat.le_of_ble_eq_true rfl) rfl ?_
    refine a_iconst (x := (-1)) dX7_winningWord_62 rfl ⟨by decide, by decide⟩ ?_
    refine a_istore_n (i := 2) (ls2 := [some (vR 10 (-1)), some (vI (iand (h.1 51 0) r2)), some (vI (-1)), none]) dX7_winningWord_63 rfl (Nat.le_of_ble_eq_true rfl) rfl ?_
    refine a_iconst (x := 0) dX7_winningWord_64 rfl ⟨by decide, by decide⟩ ?_
    refine a_istore_n (i := 3) (ls2 := [some (vR 10 (-1)), some (vI (iand (h.1 51 0) r2)), some (vI (-1)), some (vI 0)]) dX7_winningWord_65 rfl (Nat.le_of_ble_eq_true rfl) rfl ?_
    exact hy
  · have hy := hy.2 (Int.not_le.mp c)
    refine a_aload_n dX7_winningWord_28 rfl ?_
    refine a_getR dX7_winningWord_29 fl_Told_24 sk_10 rfl ?_
    refine a_iload_n dX7_winningWord_32 rfl ?_
    refine a_aload_n dX7_winningWord_33 rfl ?_
    refine a_aload_n dX7_winningWord_34 rfl ?_
    refine a_iload_n dX7_winningWord_35 rfl ?_
    refine a_callVi (as := [vI v1]) (st := [vR 10 (-1), vI v1, vR 52 (-1)]) dX7_winningWord_36 lk_Told_94 sk_10 rfl rfl (Nat.le_of_ble_eq_true rfl) (Or.inl rfl) (Call.mono hy (fun r4 h3 _ hy => ?_))
    refine a_callVi (as := [vI r4]) (st := [vI v1, vR 52 (-1)]) dX7_winningWord_39 lk_Told_97 sk_10 rfl rfl (Nat.le_of_ble_eq_true rfl) (Or.inl rfl) (Call.mono hy (fun r6 h5 _ hy => ?_))
    obtain ⟨c7, hy⟩ := hy
    refine a_iast dX7_winningWord_42 sk_52 c7 ?_
    obtain ⟨c8, hy⟩ := hy
    refine a_iinc (y := v1 - 1) (ls2 := [some (vR 10 (-1)), some (vI (v1 - 1)), none, none]) dX7_winningWord_43 rfl (by omega) c8 rfl ?_
    refine a_goto (tgt := 24) dX7_winningWord_46 (by decide) ?_
    exact hy
theorem s_Told_winningWord_66 {d : Nat} {Q : Int → AH → Prop} {v1 : Int} {v2 : Int} {v3 : Int} {h : AH} (hy : (((h.1 10 10) ≤ v3 → Q v2 h) ∧ (v3 < (h.1 10 10) → (((iand (iushr v1 v3) 1) = 0 → (inI (v3 + 1) ∧ A_Told_winningWord_66 d Q v1 v2 (v3 + 1) h)) ∧ ((iand (iushr v1 v3) 1) ≠ 0 → ((v2 = (-1) → A_Told_winningWord_97 d Q v1 v3 h) ∧ (v2 ≠ (-1) → (inb v3 14 ∧ ((v2 ≤ (h.1 48 v3) → (inI (v3 + 1) ∧ A_Told_winningWord_66 d Q v1 v2 (v3 + 1) h)) ∧ ((h.1 48 v3) < v2 → A_Told_winningWord_97 d Q v1 v3 h)))))))))) : A_Told_winningWord_66 d Q v1 v2 v3 h := by
  show AW d M_Told_winningWord Q 66 [some (vR 10 (-1)), some (vI v1), some (vI v2), some (vI v3)] [] h
  refine a_iload_n dX7_winningWord_66 rfl ?_
  refine a_aload_n dX7_winningWord_67 rfl ?_
  refine a_getI' (kz := 10) dX7_winningWord_68 fl_Told_47 sk_10 rfl rfl (rfl) ?_
  refine a_icmp_ge (tgt := 110) dX7_winningWord_71 (by decide) (fun c => ?_) (fun c => ?_)
  · have hy := hy.1 c
    refine a_iload_n dX7_winningWord_110 rfl ?_
    exact a_iret dX7_winningWord_111 rfl hy
  · have hy := hy.2 (Int.not_le.mp c)
    refine a_iload_n dX7_winningWord_74 rfl ?_
    refine a_iload_n dX7_winningWord_75 rfl ?_
    refine a_iushr dX7_winningWord_76 ?_
    refine a_iconst (x := 1) dX7_winningWord_77 rfl ⟨by decide, by decide⟩ ?_
    refine a_iand dX7_winningWord_78 ?_
    refine a_if_eq (tgt := 104) dX7_winningWord_79 (by decide) (fun c => ?_) (fun c => ?_)
    · have hy := hy.1 c
      obtain ⟨c1, hy⟩ := hy
      refine a_iinc (y := v3 + 1) (ls2 := [some (vR 10 (-1)), some (vI v1), some (vI v2), some (vI (v3 + 1))]) dX7_winningWord_104 rfl rfl c1 rfl ?_
      refine a_goto (tgt := 66) dX7_winningWord_107 (by decide) ?_
      exact hy
    · have hy := hy.2 (c)
      refine a_iload_n dX7_winningWord_82 rfl ?_
      refine a_iconst (x := (-1)) dX7_winningWord_83 rfl ⟨by decide, by decide⟩ ?_
      refine a_icmp_eq (tgt := 97) dX7_winningWord_84 (by decide) (fun c => ?_) (fun c => ?_)
      · have hy := hy.1 c
        refine a_mask [true, true, false, true] (ls2 := [some (vR 10 (-1)), some (vI v1), none, some (vI v3)]) rfl rfl ?_
        exact hy
      · have hy := hy.2 (c)
        refine a_aload_n dX7_winningWord_87 rfl ?_
        refine a_getR dX7_winningWord_88 fl_Told_9 sk_10 rfl ?_
        refine a_iload_n dX7_winningWord_91 rfl ?_
        obtain ⟨c2, hy⟩ := hy
        refine a_iald' dX7_winningWord_92 sk_48 c2 (rfl) ?_
        refine a_iload_n dX7_winningWord_93 rfl ?_
        refine a_icmp_ge (tgt := 104) dX7_winningWord_94 (by decide) (fun c => ?_) (fun c => ?_)
        · have hy := hy.1 c
          obtain ⟨c3, hy⟩ := hy
          refine a_iinc (y := v3 + 1) (ls2 := [some (vR 10 (-1)), some (vI v1), some (vI v2), some (vI (v3 + 1))]) dX7_winningWord_104 rfl rfl c3 rfl ?_
          refine a_goto (tgt := 66) dX7_winningWord_107 (by decide) ?_
          exact hy
        · have hy := hy.2 (Int.not_le.mp c)
          refine a_mask [true, true, false, true] (ls2 := [some (vR 10 (-1)), some (vI v1), none, some (vI v3)]) rfl rfl ?_
          exact hy
theorem s_Told_winningWord_97 {d : Nat} {Q : Int → AH → Prop} {v1 : Int} {v3 : Int} {h : AH} (hy : inb v3 14 ∧ (inI (v3 + 1) ∧ A_Told_winningWord_66 d Q v1 (h.1 48 v3) (v3 + 1) h)) : A_Told_winningWord_97 d Q v1 v3 h := by
  show AW d M_Told_winningWord Q 97 [some (vR 10 (-1)), some (vI v1), none, some (vI v3)] [] h
  refine a_aload_n dX7_winningWord_97 rfl ?_
  refine a_getR dX7_winningWord_98 fl_Told_9 sk_10 rfl ?_
  refine a_iload_n dX7_winningWord_101 rfl ?_
  obtain ⟨c1, hy⟩ := hy
  refine a_iald' dX7_winningWord_102 sk_48 c1 (rfl) ?_
  refine a_istore_n (i := 2) (ls2 := [some (vR 10 (-1)), some (vI v1), some (vI (h.1 48 v3)), some (vI v3)]) dX7_winningWord_103 rfl (Nat.le_of_ble_eq_true rfl) rfl ?_
  obtain ⟨c2, hy⟩ := hy
  refine a_iinc (y := v3 + 1) (ls2 := [some (vR 10 (-1)), some (vI v1), some (vI (h.1 48 v3)), some (vI (v3 + 1))]) dX7_winningWord_104 rfl rfl c2 rfl ?_
  refine a_goto (tgt := 66) dX7_winningWord_107 (by decide) ?_
  exact hy
theorem c_Told_winningWord {d : Nat} (d0 : Nat) (hd : d0 < d)  {h : AH} {Q : Int → AH → Prop} (hy : (((h.1 10 10) ≤ 12 → (Call d0 M_Told_findStepBits [vR 10 (-1)] h (fun _ h1 => inI ((ishl 1 (h1.1 10 10)) - 1) ∧ A_Told_winningWord_24 d0 Q ((ishl 1 (h1.1 10 10)) - 1) h1))) ∧ (12 < (h.1 10 10) → Q (-1) h))) : Call d M_Told_winningWord [vR 10 (-1)] h Q := by
  refine ⟨d0, hd, Big.of rfl (Nat.le_of_ble_eq_true rfl) ?_⟩
  show AW d0 M_Told_winningWord Q 0 [some (vR 10 (-1)), none, none, none] [] h
  refine a_aload_n dX7_winningWord_0 rfl ?_
  refine a_getI' (kz := 10) dX7_winningWord_1 fl_Told_47 sk_10 rfl rfl (rfl) ?_
  refine a_bipush (x := 12) dX7_winningWord_4 (by decide) ⟨by decide, by decide⟩ ?_
  refine a_icmp_le (tgt := 11) dX7_winningWord_6 (by decide) (fun c => ?_) (fun c => ?_)
  · have hy := hy.1 c
    refine a_aload_n dX7_winningWord_11 rfl ?_
    refine a_callVv (as := []) (st := []) dX7_winningWord_12 lk_Told_91 sk_10 rfl rfl (Nat.le_of_ble_eq_true rfl) rfl (Call.mono hy (fun _ h1 _ hy => ?_))
    refine a_iconst (x := 1) dX7_winningWord_15 rfl ⟨by decide, by decide⟩ ?_
    refine a_aload_n dX7_winningWord_16 rfl ?_
    refine a_getI' (kz := 10) dX7_winningWord_17 fl_Told_47 sk_10 rfl rfl (rfl) ?_
    refine a_ishl dX7_winningWord_20 ?_
    refine a_iconst (x := 1) dX7_winningWord_21 rfl ⟨by decide, by decide⟩ ?_
    obtain ⟨c2, hy⟩ := hy
    refine a_isub dX7_winningWord_22 c2 ?_
    refine a_istore_n (i := 1) (ls2 := [some (vR 10 (-1)), some (vI ((ishl 1 (h1.1 10 10)) - 1)), none, none]) dX7_winningWord_23 rfl (Nat.le_of_ble_eq_true rfl) rfl ?_
    exact hy
  · have hy := hy.2 (Int.not_le.mp c)
    refine a_iconst (x := (-1)) dX7_winningWord_9 rfl ⟨by decide, by decide⟩ ?_
    exact a_iret dX7_winningWord_10 rfl hy

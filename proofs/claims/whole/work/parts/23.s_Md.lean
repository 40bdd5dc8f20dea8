def A_M_laysStep_18 (d : Nat) (Q : Int → AH → Prop) (p1 : Int) (p2 : Int) (v3 : Int) (v4 : Int) (h : AH) : Prop := AW d M_M_laysStep Q 18 [some (vR 12 (-1)), some (vI p1), some (vI p2), some (vI v3), some (vI v4), none, none] [] h
def A_M_laysStep_27 (d : Nat) (Q : Int → AH → Prop) (p1 : Int) (p2 : Int) (v3 : Int) (v4 : Int) (v5 : Int) (h : AH) : Prop := AW d M_M_laysStep Q 27 [some (vR 12 (-1)), some (vI p1), some (vI p2), some (vI v3), some (vI v4), some (vI v5), none] [] h
theorem s_M_laysStep_18 {d : Nat} {Q : Int → AH → Prop} {p1 : Int} {p2 : Int} {v3 : Int} {v4 : Int} {h : AH} (hy : ((4 ≤ v4 → Q 0 h) ∧ (v4 < 4 → A_M_laysStep_27 d Q p1 p2 v3 v4 0 h))) : A_M_laysStep_18 d Q p1 p2 v3 v4 h := by
  show AW d M_M_laysStep Q 18 [some (vR 12 (-1)), some (vI p1), some (vI p2), some (vI v3), some (vI v4), none, none] [] h
  refine a_iload dX11_laysStep_18 rfl ?_
  refine a_iconst (x := 4) dX11_laysStep_20 rfl ⟨by decide, by decide⟩ ?_
  refine a_icmp_ge (tgt := 116) dX11_laysStep_21 (by decide) (fun c => ?_) (fun c => ?_)
  · have hy := hy.1 c
    exact a_vret dX11_laysStep_116 rfl hy
  · have hy := hy.2 (Int.not_le.mp c)
    refine a_iconst (x := 0) dX11_laysStep_24 rfl ⟨by decide, by decide⟩ ?_
    refine a_istore (ls2 := [some (vR 12 (-1)), some (vI p1), some (vI p2), some (vI v3), some (vI v4), some (vI 0), none]) dX11_laysStep_25 (Nat.le_of_ble_eq_true rfl) rfl ?_
    exact hy
theorem s_M_laysStep_27 {d : Nat} {Q : Int → AH → Prop} {p1 : Int} {p2 : Int} {v3 : Int} {v4 : Int} {v5 : Int} {h : AH} (hy : ((9 ≤ v5 → (inI (v4 + 1) ∧ A_M_laysStep_18 d Q p1 p2 v3 (v4 + 1) h)) ∧ (v5 < 9 → (Call d M_M_isChange [vR 12 (-1), vI p1, vI p2, vI v4, vI v5] h (fun r3 h2 => ((r3 ≠ 0 → (Call d M_M_feels [vR 12 (-1), vI p1, vI p2, vI v4, vI v5] h2 (fun _ h4 => Call d M_M_costOf [vR 12 (-1)] h4 (fun r6 h5 => inb v3 1600 ∧ ((r6 < (h5.1 78 v3) → (inI (v5 + 1) ∧ A_M_laysStep_27 d Q p1 p2 v3 v4 (v5 + 1) (wI (wI (wI h5 78 v3 r6) 79 v3 v4) 80 v3 v5))) ∧ ((h5.1 78 v3) ≤ r6 → (inI (v5 + 1) ∧ A_M_laysStep_27 d Q p1 p2 v3 v4 (v5 + 1) h5))))))) ∧ (r3 = 0 → (inI (v5 + 1) ∧ A_M_laysStep_27 d Q p1 p2 v3 v4 (v5 + 1) h2)))))))) : A_M_laysStep_27 d Q p1 p2 v3 v4 v5 h := by
  show AW d M_M_laysStep Q 27 [some (vR 12 (-1)), some (vI p1), some (vI p2), some (vI v3), some (vI v4), some (vI v5), none] [] h
  refine a_iload dX11_laysStep_27 rfl ?_
  refine a_bipush (x := 9) dX11_laysStep_29 (by decide) ⟨by decide, by decide⟩ ?_
  refine a_icmp_ge (tgt := 110) dX11_laysStep_31 (by decide) (fun c => ?_) (fun c => ?_)
  · have hy := hy.1 c
    obtain ⟨c1, hy⟩ := hy
    refine a_iinc (y := v4 + 1) (ls2 := [some (vR 12 (-1)), some (vI p1), some (vI p2), some (vI v3), some (vI (v4 + 1)), some (vI v5), none]) dX11_laysStep_110 rfl rfl c1 rfl ?_
    refine a_goto (tgt := 18) dX11_laysStep_113 (by decide) ?_
    refine a_mask [true, true, true, true, true, false, true] (ls2 := [some (vR 12 (-1)), some (vI p1), some (vI p2), some (vI v3), some (vI (v4 + 1)), none, none]) rfl rfl ?_
    exact hy
  · have hy := hy.2 (Int.not_le.mp c)
    refine a_aload_n dX11_laysStep_34 rfl ?_
    refine a_iload_n dX11_laysStep_35 rfl ?_
    refine a_iload_n dX11_laysStep_36 rfl ?_
    refine a_iload dX11_laysStep_37 rfl ?_
    refine a_iload dX11_laysStep_39 rfl ?_
    refine a_callVi (as := [vI p1, vI p2, vI v4, vI v5]) (st := []) dX11_laysStep_41 lk_M_272 sk_12 rfl rfl (Nat.le_of_ble_eq_true rfl) (Or.inr rfl) (Call.mono hy (fun r3 h2 _ hy => ?_))
    refine a_if_ne (tgt := 50) dX11_laysStep_44 (by decide) (fun c => ?_) (fun c => ?_)
    · have hy := hy.1 c
      refine a_aload_n dX11_laysStep_50 rfl ?_
      refine a_iload_n dX11_laysStep_51 rfl ?_
      refine a_iload_n dX11_laysStep_52 rfl ?_
      refine a_iload dX11_laysStep_53 rfl ?_
      refine a_iload dX11_laysStep_55 rfl ?_
      refine a_callVv (as := [vI p1, vI p2, vI v4, vI v5]) (st := []) dX11_laysStep_57 lk_M_275 sk_12 rfl rfl (Nat.le_of_ble_eq_true rfl) rfl (Call.mono hy (fun _ h4 _ hy => ?_))
      refine a_aload_n dX11_laysStep_60 rfl ?_
      refine a_callVi (as := []) (st := []) dX11_laysStep_61 lk_M_279 sk_12 rfl rfl (Nat.le_of_ble_eq_true rfl) (Or.inl rfl) (Call.mono hy (fun r6 h5 _ hy => ?_))
      refine a_istore (ls2 := [some (vR 12 (-1)), some (vI p1), some (vI p2), some (vI v3), some (vI v4), some (vI v5), some (vI r6)]) dX11_laysStep_64 (Nat.le_of_ble_eq_true rfl) rfl ?_
      refine a_iload dX11_laysStep_66 rfl ?_
      refine a_aload_n dX11_laysStep_68 rfl ?_
      refine a_getR dX11_laysStep_69 fl_M_72 sk_12 rfl ?_
      refine a_iload_n dX11_laysStep_72 rfl ?_
      obtain ⟨c7, hy⟩ := hy
      refine a_iald' dX11_laysStep_73 sk_78 c7 (rfl) ?_
      refine a_icmp_lt (tgt := 80) dX11_laysStep_74 (by decide) (fun c => ?_) (fun c => ?_)
      · have hy := hy.1 c
        refine a_aload_n dX11_laysStep_80 rfl ?_
        refine a_getR dX11_laysStep_81 fl_M_72 sk_12 rfl ?_
        refine a_iload_n dX11_laysStep_84 rfl ?_
        refine a_iload dX11_laysStep_85 rfl ?_
        refine a_iast dX11_laysStep_87 sk_78 c7 ?_
        refine a_aload_n dX11_laysStep_88 rfl ?_
        refine a_getR dX11_laysStep_89 fl_M_75 sk_12 rfl ?_
        refine a_iload_n dX11_laysStep_92 rfl ?_
        refine a_iload dX11_laysStep_93 rfl ?_
        refine a_iast dX11_laysStep_95 sk_79 c7 ?_
        refine a_aload_n dX11_laysStep_96 rfl ?_
        refine a_getR dX11_laysStep_97 fl_M_78 sk_12 rfl ?_
        refine a_iload_n dX11_laysStep_100 rfl ?_
        refine a_iload dX11_laysStep_101 rfl ?_
        refine a_iast dX11_laysStep_103 sk_80 c7 ?_
        obtain ⟨c8, hy⟩ := hy
        refine a_iinc (y := v5 + 1) (ls2 := [some (vR 12 (-1)), some (vI p1), some (vI p2), some (vI v3), some (vI v4), some (vI (v5 + 1)), some (vI r6)]) dX11_laysStep_104 rfl rfl c8 rfl ?_
        refine a_goto (tgt := 27) dX11_laysStep_107 (by decide) ?_
        refine a_mask [true, true, true, true, true, true, false] (ls2 := [some (vR 12 (-1)), some (vI p1), some (vI p2), some (vI v3), some (vI v4), some (vI (v5 + 1)), none]) rfl rfl ?_
        exact hy
      · have hy := hy.2 (Int.not_lt.mp c)
        refine a_goto (tgt := 104) dX11_laysStep_77 (by decide) ?_
        obtain ⟨c9, hy⟩ := hy
        refine a_iinc (y := v5 + 1) (ls2 := [some (vR 12 (-1)), some (vI p1), some (vI p2), some (vI v3), some (vI v4), some (vI (v5 + 1)), some (vI r6)]) dX11_laysStep_104 rfl rfl c9 rfl ?_
        refine a_goto (tgt := 27) dX11_laysStep_107 (by decide) ?_
        refine a_mask [true, true, true, true, true, true, false] (ls2 := [some (vR 12 (-1)), some (vI p1), some (vI p2), some (vI v3), some (vI v4), some (vI (v5 + 1)), none]) rfl rfl ?_
        exact hy
    · have hy := hy.2 (Decidable.not_not.mp c)
      refine a_goto (tgt := 104) dX11_laysStep_47 (by decide) ?_
      obtain ⟨c10, hy⟩ := hy
      refine a_iinc (y := v5 + 1) (ls2 := [some (vR 12 (-1)), some (vI p1), some (vI p2), some (vI v3), some (vI v4), some (vI (v5 + 1)), none]) dX11_laysStep_104 rfl rfl c10 rfl ?_
      refine a_goto (tgt := 27) dX11_laysStep_107 (by decide) ?_
      exact hy
theorem c_M_laysStep {d : Nat} (d0 : Nat) (hd : d0 < d) {p1 : Int} {p2 : Int} {h : AH} {Q : Int → AH → Prop} (hy : inI (40 * p1) ∧ (inI ((40 * p1) + p2) ∧ (inb ((40 * p1) + p2) 1600 ∧ A_M_laysStep_18 d0 Q p1 p2 ((40 * p1) + p2) 0 (wI h 78 ((40 * p1) + p2) 1000000000)))) : Call d M_M_laysStep [vR 12 (-1), vI p1, vI p2] h Q := by
  refine ⟨d0, hd, Big.of rfl (Nat.le_of_ble_eq_true rfl) ?_⟩
  show AW d0 M_M_laysStep Q 0 [some (vR 12 (-1)), some (vI p1), some (vI p2), none, none, none, none] [] h
  refine a_bipush (x := 40) dX11_laysStep_0 (by decide) ⟨by decide, by decide⟩ ?_
  refine a_iload_n dX11_laysStep_2 rfl ?_
  obtain ⟨c1, hy⟩ := hy
  refine a_imul dX11_laysStep_3 c1 ?_
  refine a_iload_n dX11_laysStep_4 rfl ?_
  obtain ⟨c2, hy⟩ := hy
  refine a_iadd dX11_laysStep_5 c2 ?_
  refine a_istore_n (i := 3) (ls2 := [some (vR 12 (-1)), some (vI p1), some (vI p2), some (vI ((40 * p1) + p2)), none, none, none]) dX11_laysStep_6 rfl (Nat.le_of_ble_eq_true rfl) rfl ?_
  refine a_aload_n dX11_laysStep_7 rfl ?_
  refine a_getR dX11_laysStep_8 fl_M_72 sk_12 rfl ?_
  refine a_iload_n dX11_laysStep_11 rfl ?_
  refine a_ldc (x := 1000000000) dX11_laysStep_12 kc_M_129 ⟨by decide, by decide⟩ ?_
  obtain ⟨c3, hy⟩ := hy
  refine a_iast dX11_laysStep_14 sk_78 c3 ?_
  refine a_iconst (x := 0) dX11_laysStep_15 rfl ⟨by decide, by decide⟩ ?_
  refine a_istore (ls2 := [some (vR 12 (-1)), some (vI p1), some (vI p2), some (vI ((40 * p1) + p2)), some (vI 0), none, none]) dX11_laysStep_16 (Nat.le_of_ble_eq_true rfl) rfl ?_
  exact hy
def A_M_laysSteps_2 (d : Nat) (Q : Int → AH → Prop) (v1 : Int) (h : AH) : Prop := AW d M_M_laysSteps Q 2 [some (vR 12 (-1)), some (vI v1), none] [] h
def A_M_laysSteps_12 (d : Nat) (Q : Int → AH → Prop) (v1 : Int) (v2 : Int) (h : AH) : Prop := AW d M_M_laysSteps Q 12 [some (vR 12 (-1)), some (vI v1), some (vI v2)] [] h
theorem s_M_laysSteps_2 {d : Nat} {Q : Int → AH → Prop} {v1 : Int} {h : AH} (hy : (((h.1 12 0) ≤ v1 → Q 0 h) ∧ (v1 < (h.1 12 0) → A_M_laysSteps_12 d Q v1 0 h))) : A_M_laysSteps_2 d Q v1 h := by
  show AW d M_M_laysSteps Q 2 [some (vR 12 (-1)), some (vI v1), none] [] h
  refine a_iload_n dX11_laysSteps_2 rfl ?_
  refine a_aload_n dX11_laysSteps_3 rfl ?_
  refine a_getI' (kz := 0) dX11_laysSteps_4 fl_M_130 sk_12 rfl rfl (rfl) ?_
  refine a_icmp_ge (tgt := 81) dX11_laysSteps_7 (by decide) (fun c => ?_) (fun c => ?_)
  · have hy := hy.1 c
    exact a_vret dX11_laysSteps_81 rfl hy
  · have hy := hy.2 (Int.not_le.mp c)
    refine a_iconst (x := 0) dX11_laysSteps_10 rfl ⟨by decide, by decide⟩ ?_
    refine a_istore_n (i := 2) (ls2 := [some (vR 12 (-1)), some (vI v1), some (vI 0)]) dX11_laysSteps_11 rfl (Nat.le_of_ble_eq_true rfl) rfl ?_
    exact hy
theorem s_M_laysSteps_12 {d : Nat} {Q : Int → AH → Prop} {v1 : Int} {v2 : Int} {h : AH} (hy : (((h.1 12 0) ≤ v2 → (inI (v1 + 1) ∧ A_M_laysSteps_2 d Q (v1 + 1) h)) ∧ (v2 < (h.1 12 0) → (inI (40 * v1) ∧ (inI ((40 * v1) + v2) ∧ (inb ((40 * v1) + v2) 1600 ∧ ((v1 = v2 → (inI (v2 + 1) ∧ A_M_laysSteps_12 d Q v1 (v2 + 1) (wI h 78 ((40 * v1) + v2) 1000000000))) ∧ (v1 ≠ v2 → (Call d M_M_isUsed [vR 12 (-1), vI v1] (wI h 78 ((40 * v1) + v2) 1000000000) (fun r7 h6 => ((r7 = 0 → (inI (v2 + 1) ∧ A_M_laysSteps_12 d Q v1 (v2 + 1) h6)) ∧ (r7 ≠ 0 → (Call d M_M_isUsed [vR 12 (-1), vI v2] h6 (fun r10 h9 => ((r10 = 0 → (inI (v2 + 1) ∧ A_M_laysSteps_12 d Q v1 (v2 + 1) h9)) ∧ (r10 ≠ 0 → (Call d M_M_mayNear [vR 12 (-1), vI v1, vI v2] h9 (fun r13 h12 => ((r13 = 0 → (inI (v2 + 1) ∧ A_M_laysSteps_12 d Q v1 (v2 + 1) h12)) ∧ (r13 ≠ 0 → (Call d M_M_laysStep [vR 12 (-1), vI v1, vI v2] h12 (fun _ h15 => inI (v2 + 1) ∧ A_M_laysSteps_12 d Q v1 (v2 + 1) h15)))))))))))))))))))))) : A_M_laysSteps_12 d Q v1 v2 h := by
  show AW d M_M_laysSteps Q 12 [some (vR 12 (-1)), some (vI v1), some (vI v2)] [] h
  refine a_iload_n dX11_laysSteps_12 rfl ?_
  refine a_aload_n dX11_laysSteps_13 rfl ?_
  refine a_getI' (kz := 0) dX11_laysSteps_14 fl_M_130 sk_12 rfl rfl (rfl) ?_
  refine a_icmp_ge (tgt := 75) dX11_laysSteps_17 (by decide) (fun c => ?_) (fun c => ?_)
  · have hy := hy.1 c
    obtain ⟨c1, hy⟩ := hy
    refine a_iinc (y := v1 + 1) (ls2 := [some (vR 12 (-1)), some (vI (v1 + 1)), some (vI v2)]) dX11_laysSteps_75 rfl rfl c1 rfl ?_
    refine a_goto (tgt := 2) dX11_laysSteps_78 (by decide) ?_
    refine a_mask [true, true, false] (ls2 := [some (vR 12 (-1)), some (vI (v1 + 1)), none]) rfl rfl ?_
    exact hy
  · have hy := hy.2 (Int.not_le.mp c)
    refine a_aload_n dX11_laysSteps_20 rfl ?_
    refine a_getR dX11_laysSteps_21 fl_M_72 sk_12 rfl ?_
    refine a_bipush (x := 40) dX11_laysSteps_24 (by decide) ⟨by decide, by decide⟩ ?_
    refine a_iload_n dX11_laysSteps_26 rfl ?_
    obtain ⟨c2, hy⟩ := hy
    refine a_imul dX11_laysSteps_27 c2 ?_
    refine a_iload_n dX11_laysSteps_28 rfl ?_
    obtain ⟨c3, hy⟩ := hy
    refine a_iadd dX11_laysSteps_29 c3 ?_
    refine a_ldc (x := 1000000000) dX11_laysSteps_30 kc_M_129 ⟨by decide, by decide⟩ ?_
    obtain ⟨c4, hy⟩ := hy
    refine a_iast dX11_laysSteps_32 sk_78 c4 ?_
    refine a_iload_n dX11_laysSteps_33 rfl ?_
    refine a_iload_n dX11_laysSteps_34 rfl ?_
    refine a_icmp_eq (tgt := 69) dX11_laysSteps_35 (by decide) (fun c => ?_) (fun c => ?_)
    · have hy := hy.1 c
      obtain ⟨c5, hy⟩ := hy
      refine a_iinc (y := v2 + 1) (ls2 := [some (vR 12 (-1)), some (vI v1), some (vI (v2 + 1))]) dX11_laysSteps_69 rfl rfl c5 rfl ?_
      refine a_goto (tgt := 12) dX11_laysSteps_72 (by decide) ?_
      exact hy
    · have hy := hy.2 (c)
      refine a_aload_n dX11_laysSteps_38 rfl ?_
      refine a_iload_n dX11_laysSteps_39 rfl ?_
      refine a_callVi (as := [vI v1]) (st := []) dX11_laysSteps_40 lk_M_282 sk_12 rfl rfl (Nat.le_of_ble_eq_true rfl) (Or.inr rfl) (Call.mono hy (fun r7 h6 _ hy => ?_))
      refine a_if_eq (tgt := 69) dX11_laysSteps_43 (by decide) (fun c => ?_) (fun c => ?_)
      · have hy := hy.1 c
        obtain ⟨c8, hy⟩ := hy
        refine a_iinc (y := v2 + 1) (ls2 := [some (vR 12 (-1)), some (vI v1), some (vI (v2 + 1))]) dX11_laysSteps_69 rfl rfl c8 rfl ?_
        refine a_goto (tgt := 12) dX11_laysSteps_72 (by decide) ?_
        exact hy
      · have hy := hy.2 (c)
        refine a_aload_n dX11_laysSteps_46 rfl ?_
        refine a_iload_n dX11_laysSteps_47 rfl ?_
        refine a_callVi (as := [vI v2]) (st := []) dX11_laysSteps_48 lk_M_282 sk_12 rfl rfl (Nat.le_of_ble_eq_true rfl) (Or.inr rfl) (Call.mono hy (fun r10 h9 _ hy => ?_))
        refine a_if_eq (tgt := 69) dX11_laysSteps_51 (by decide) (fun c => ?_) (fun c => ?_)
        · have hy := hy.1 c
          obtain ⟨c11, hy⟩ := hy
          refine a_iinc (y := v2 + 1) (ls2 := [some (vR 12 (-1)), some (vI v1), some (vI (v2 + 1))]) dX11_laysSteps_69 rfl rfl c11 rfl ?_
          refine a_goto (tgt := 12) dX11_laysSteps_72 (by decide) ?_
          exact hy
        · have hy := hy.2 (c)
          refine a_aload_n dX11_laysSteps_54 rfl ?_
          refine a_iload_n dX11_laysSteps_55 rfl ?_
          refine a_iload_n dX11_laysSteps_56 rfl ?_
          refine a_callVi (as := [vI v1, vI v2]) (st := []) dX11_laysSteps_57 lk_M_285 sk_12 rfl rfl (Nat.le_of_ble_eq_true rfl) (Or.inr rfl) (Call.mono hy (fun r13 h12 _ hy => ?_))
          refine a_if_eq (tgt := 69) dX11_laysSteps_60 (by decide) (fun c => ?_) (fun c => ?_)
          · have hy := hy.1 c
            obtain ⟨c14, hy⟩ := hy
            refine a_iinc (y := v2 + 1) (ls2 := [some (vR 12 (-1)), some (vI v1), some (vI (v2 + 1))]) dX11_laysSteps_69 rfl rfl c14 rfl ?_
            refine a_goto (tgt := 12) dX11_laysSteps_72 (by decide) ?_
            exact hy
          · have hy := hy.2 (c)
            refine a_aload_n dX11_laysSteps_63 rfl ?_
            refine a_iload_n dX11_laysSteps_64 rfl ?_
            refine a_iload_n dX11_laysSteps_65 rfl ?_
            refine a_callVv (as := [vI v1, vI v2]) (st := []) dX11_laysSteps_66 lk_M_288 sk_12 rfl rfl (Nat.le_of_ble_eq_true rfl) rfl (Call.mono hy (fun _ h15 _ hy => ?_))
            obtain ⟨c16, hy⟩ := hy
            refine a_iinc (y := v2 + 1) (ls2 := [some (vR 12 (-1)), some (vI v1), some (vI (v2 + 1))]) dX11_laysSteps_69 rfl rfl c16 rfl ?_
            refine a_goto (tgt := 12) dX11_laysSteps_72 (by decide) ?_
            exact hy
theorem c_M_laysSteps {d : Nat} (d0 : Nat) (hd : d0 < d)  {h : AH} {Q : Int → AH → Prop} (hy : A_M_laysSteps_2 d0 Q 0 h) : Call d M_M_laysSteps [vR 12 (-1)] h Q := by
  refine ⟨d0, hd, Big.of rfl (Nat.le_of_ble_eq_true rfl) ?_⟩
  show AW d0 M_M_laysSteps Q 0 [some (vR 12 (-1)), none, none] [] h
  refine a_iconst (x := 0) dX11_laysSteps_0 rfl ⟨by decide, by decide⟩ ?_
  refine a_istore_n (i := 1) (ls2 := [some (vR 12 (-1)), some (vI 0), none]) dX11_laysSteps_1 rfl (Nat.le_of_ble_eq_true rfl) rfl ?_
  exact hy
def A_M_laysWays_6 (d : Nat) (Q : Int → AH → Prop) (v1 : Int) (h : AH) : Prop := AW d M_M_laysWays Q 6 [some (vR 12 (-1)), some (vI v1), none, none] [] h
def A_M_laysWays_72 (d : Nat) (Q : Int → AH → Prop) (v1 : Int) (h : AH) : Prop := AW d M_M_laysWays Q 72 [some (vR 12 (-1)), some (vI v1), none, none] [] h
def A_M_laysWays_16 (d : Nat) (Q : Int → AH → Prop) (v1 : Int) (v2 : Int) (h : AH) : Prop := AW d M_M_laysWays Q 16 [some (vR 12 (-1)), some (vI v1), some (vI v2), none] [] h
def A_M_laysWays_82 (d : Nat) (Q : Int → AH → Prop) (v1 : Int) (v2 : Int) (h : AH) : Prop := AW d M_M_laysWays Q 82 [some (vR 12 (-1)), some (vI v1), some (vI v2), none] [] h
def A_M_laysWays_51 (d : Nat) (Q : Int → AH → Prop) (v1 : Int) (v2 : Int) (s1 : Int) (h : AH) : Prop := AW d M_M_laysWays Q 51 [some (vR 12 (-1)), some (vI v1), some (vI v2), none] [vI s1, vR 81 (-1)] h
def A_M_laysWays_92 (d : Nat) (Q : Int → AH → Prop) (v1 : Int) (v2 : Int) (v3 : Int) (h : AH) : Prop := AW d M_M_laysWays Q 92 [some (vR 12 (-1)), some (vI v1), some (vI v2), some (vI v3)] [] h
theorem s_M_laysWays_6 {d : Nat} {Q : Int → AH → Prop} {v1 : Int} {h : AH} (hy : (((h.1 12 0) ≤ v1 → A_M_laysWays_72 d Q 0 h) ∧ (v1 < (h.1 12 0) → A_M_laysWays_16 d Q v1 0 h))) : A_M_laysWays_6 d Q v1 h := by
  show AW d M_M_laysWays Q 6 [some (vR 12 (-1)), some (vI v1), none, none] [] h
  refine a_iload_n dX11_laysWays_6 rfl ?_
  refine a_aload_n dX11_laysWays_7 rfl ?_
  refine a_getI' (kz := 0) dX11_laysWays_8 fl_M_130 sk_12 rfl rfl (rfl) ?_
  refine a_icmp_ge (tgt := 70) dX11_laysWays_11 (by decide) (fun c => ?_) (fun c => ?_)
  · have hy := hy.1 c
    refine a_iconst (x := 0) dX11_laysWays_70 rfl ⟨by decide, by decide⟩ ?_
    refine a_istore_n (i := 1) (ls2 := [some (vR 12 (-1)), some (vI 0), none, none]) dX11_laysWays_71 rfl (Nat.le_of_ble_eq_true rfl) rfl ?_
    exact hy
  · have hy := hy.2 (Int.not_le.mp c)
    refine a_iconst (x := 0) dX11_laysWays_14 rfl ⟨by decide, by decide⟩ ?_
    refine a_istore_n (i := 2) (ls2 := [some (vR 12 (-1)), some (vI v1), some (vI 0), none]) dX11_laysWays_15 rfl (Nat.le_of_ble_eq_true rfl) rfl ?_
    exact hy
theorem s_M_laysWays_72 {d : Nat} {Q : Int → AH → Prop} {v1 : Int} {h : AH} (hy : (((h.1 12 0) ≤ v1 → Q 0 h) ∧ (v1 < (h.1 12 0) → A_M_laysWays_82 d Q v1 0 h))) : A_M_laysWays_72 d Q v1 h := by
  show AW d M_M_laysWays Q 72 [some (vR 12 (-1)), some (vI v1), none, none] [] h
  refine a_iload_n dX11_laysWays_72 rfl ?_
  refine a_aload_n dX11_laysWays_73 rfl ?_
  refine a_getI' (kz := 0) dX11_laysWays_74 fl_M_130 sk_12 rfl rfl (rfl) ?_
  refine a_icmp_ge (tgt := 168) dX11_laysWays_77 (by decide) (fun c => ?_) (fun c => ?_)
  · have hy := hy.1 c
    exact a_vret dX11_laysWays_168 rfl hy
  · have hy := hy.2 (Int.not_le.mp c)
    refine a_iconst (x := 0) dX11_laysWays_80 rfl ⟨by decide, by decide⟩ ?_
    refine a_istore_n (i := 2) (ls2 := [some (vR 12 (-1)), some (vI v1), some (vI 0), none]) dX11_laysWays_81 rfl (Nat.le_of_ble_eq_true rfl) rfl ?_
    exact hy
theorem s_M_laysWays_16 {d : Nat} {Q : Int → AH → Prop} {v1 : Int} {v2 : Int} {h : AH} (hy : (((h.1 12 0) ≤ v2 → (inI (v1 + 1) ∧ A_M_laysWays_6 d Q (v1 + 1) h)) ∧ (v2 < (h.1 12 0) → (inI (40 * v1) ∧ (inI ((40 * v1) + v2) ∧ ((v1 ≠ v2 → A_M_laysWays_51 d Q v1 v2 ((40 * v1) + v2) h) ∧ (v1 = v2 → (Call d M_M_isUsed [vR 12 (-1), vI v1] h (fun r5 h4 => ((r5 = 0 → A_M_laysWays_51 d Q v1 v2 ((40 * v1) + v2) h4) ∧ (r5 ≠ 0 → (inb ((40 * v1) + v2) 1600 ∧ (inI (v2 + 1) ∧ A_M_laysWays_16 d Q v1 (v2 + 1) (wI h4 81 ((40 * v1) + v2) 0)))))))))))))) : A_M_laysWays_16 d Q v1 v2 h := by
  show AW d M_M_laysWays Q 16 [some (vR 12 (-1)), some (vI v1), some (vI v2), none] [] h
  refine a_iload_n dX11_laysWays_16 rfl ?_
  refine a_aload_n dX11_laysWays_17 rfl ?_
  refine a_getI' (kz := 0) dX11_laysWays_18 fl_M_130 sk_12 rfl rfl (rfl) ?_
  refine a_icmp_ge (tgt := 64) dX11_laysWays_21 (by decide) (fun c => ?_) (fun c => ?_)
  · have hy := hy.1 c
    obtain ⟨c1, hy⟩ := hy
    refine a_iinc (y := v1 + 1) (ls2 := [some (vR 12 (-1)), some (vI (v1 + 1)), some (vI v2), none]) dX11_laysWays_64 rfl rfl c1 rfl ?_
    refine a_goto (tgt := 6) dX11_laysWays_67 (by decide) ?_
    refine a_mask [true, true, false, true] (ls2 := [some (vR 12 (-1)), some (vI (v1 + 1)), none, none]) rfl rfl ?_
    exact hy
  · have hy := hy.2 (Int.not_le.mp c)
    refine a_aload_n dX11_laysWays_24 rfl ?_
    refine a_getR dX11_laysWays_25 fl_M_81 sk_12 rfl ?_
    refine a_bipush (x := 40) dX11_laysWays_28 (by decide) ⟨by decide, by decide⟩ ?_
    refine a_iload_n dX11_laysWays_30 rfl ?_
    obtain ⟨c2, hy⟩ := hy
    refine a_imul dX11_laysWays_31 c2 ?_
    refine a_iload_n dX11_laysWays_32 rfl ?_
    obtain ⟨c3, hy⟩ := hy
    refine a_iadd dX11_laysWays_33 c3 ?_
    refine a_iload_n dX11_laysWays_34 rfl ?_
    refine a_iload_n dX11_laysWays_35 rfl ?_
    refine a_icmp_ne (tgt := 51) dX11_laysWays_36 (by decide) (fun c => ?_) (fun c => ?_)
    · have hy := hy.1 c
      exact hy
    · have hy := hy.2 (Decidable.not_not.mp c)
      refine a_aload_n dX11_laysWays_39 rfl ?_
      refine a_iload_n dX11_laysWays_40 rfl ?_
      refine a_callVi (as := [vI v1]) (st := [vI ((40 * v1) + v2), vR 81 (-1)]) dX11_laysWays_41 lk_M_282 sk_12 rfl rfl (Nat.le_of_ble_eq_true rfl) (Or.inr rfl) (Call.mono hy (fun r5 h4 _ hy => ?_))
      refine a_if_eq (tgt := 51) dX11_laysWays_44 (by decide) (fun c => ?_) (fun c => ?_)
      · have hy := hy.1 c
        exact hy
      · have hy := hy.2 (c)
        refine a_iconst (x := 0) dX11_laysWays_47 rfl ⟨by decide, by decide⟩ ?_
        refine a_goto (tgt := 57) dX11_laysWays_48 (by decide) ?_
        obtain ⟨c6, hy⟩ := hy
        refine a_iast dX11_laysWays_57 sk_81 c6 ?_
        obtain ⟨c7, hy⟩ := hy
        refine a_iinc (y := v2 + 1) (ls2 := [some (vR 12 (-1)), some (vI v1), some (vI (v2 + 1)), none]) dX11_laysWays_58 rfl rfl c7 rfl ?_
        refine a_goto (tgt := 16) dX11_laysWays_61 (by decide) ?_
        exact hy
theorem s_M_laysWays_82 {d : Nat} {Q : Int → AH → Prop} {v1 : Int} {v2 : Int} {h : AH} (hy : (((h.1 12 0) ≤ v2 → (inI (v1 + 1) ∧ A_M_laysWays_72 d Q (v1 + 1) h)) ∧ (v2 < (h.1 12 0) → A_M_laysWays_92 d Q v1 v2 0 h))) : A_M_laysWays_82 d Q v1 v2 h := by
  show AW d M_M_laysWays Q 82 [some (vR 12 (-1)), some (vI v1), some (vI v2), none] [] h
  refine a_iload_n dX11_laysWays_82 rfl ?_
  refine a_aload_n dX11_laysWays_83 rfl ?_
  refine a_getI' (kz := 0) dX11_laysWays_84 fl_M_130 sk_12 rfl rfl (rfl) ?_
  refine a_icmp_ge (tgt := 162) dX11_laysWays_87 (by decide) (fun c => ?_) (fun c => ?_)
  · have hy := hy.1 c
    obtain ⟨c1, hy⟩ := hy
    refine a_iinc (y := v1 + 1) (ls2 := [some (vR 12 (-1)), some (vI (v1 + 1)), some (vI v2), none]) dX11_laysWays_162 rfl rfl c1 rfl ?_
    refine a_goto (tgt := 72) dX11_laysWays_165 (by decide) ?_
    refine a_mask [true, true, false, true] (ls2 := [some (vR 12 (-1)), some (vI (v1 + 1)), none, none]) rfl rfl ?_
    exact hy
  · have hy := hy.2 (Int.not_le.mp c)
    refine a_iconst (x := 0) dX11_laysWays_90 rfl ⟨by decide, by decide⟩ ?_
    refine a_istore_n (i := 3) (ls2 := [some (vR 12 (-1)), some (vI v1), some (vI v2), some (vI 0)]) dX11_laysWays_91 rfl (Nat.le_of_ble_eq_true rfl) rfl ?_
    exact hy
theorem s_M_laysWays_51 {d : Nat} {Q : Int → AH → Prop} {v1 : Int} {v2 : Int} {s1 : Int} {h : AH} (hy : Call d M_M_stepWay [vR 12 (-1), vI v1, vI v2] h (fun r2 h1 => inb s1 1600 ∧ (inI (v2 + 1) ∧ A_M_laysWays_16 d Q v1 (v2 + 1) (wI h1 81 s1 r2)))) : A_M_laysWays_51 d Q v1 v2 s1 h := by
  show AW d M_M_laysWays Q 51 [some (vR 12 (-1)), some (vI v1), some (vI v2), none] [vI s1, vR 81 (-1)] h
  refine a_aload_n dX11_laysWays_51 rfl ?_
  refine a_iload_n dX11_laysWays_52 rfl ?_
  refine a_iload_n dX11_laysWays_53 rfl ?_
  refine a_callVi (as := [vI v1, vI v2]) (st := [vI s1, vR 81 (-1)]) dX11_laysWays_54 lk_M_297 sk_12 rfl rfl (Nat.le_of_ble_eq_true rfl) (Or.inl rfl) (Call.mono hy (fun r2 h1 _ hy => ?_))
  obtain ⟨c3, hy⟩ := hy
  refine a_iast dX11_laysWays_57 sk_81 c3 ?_
  obtain ⟨c4, hy⟩ := hy
  refine a_iinc (y := v2 + 1) (ls2 := [some (vR 12 (-1)), some (vI v1), some (vI (v2 + 1)), none]) dX11_laysWays_58 rfl rfl c4 rfl ?_
  refine a_goto (tgt := 16) dX11_laysWays_61 (by decide) ?_
  exact hy
theorem s_M_laysWays_92 {d : Nat} {Q : Int → AH → Prop} {v1 : Int} {v2 : Int} {v3 : Int} {h : AH} (hy : (((h.1 12 0) ≤ v3 → (inI (v2 + 1) ∧ A_M_laysWays_82 d Q v1 (v2 + 1) h)) ∧ (v3 < (h.1 12 0) → (inI (40 * v2) ∧ (inI ((40 * v2) + v3) ∧ (inb ((40 * v2) + v3) 1600 ∧ (inI ((40 * v2) + v1) ∧ (inb ((40 * v2) + v1) 1600 ∧ (inI (40 * v1) ∧ (inI ((40 * v1) + v3) ∧ (inb ((40 * v1) + v3) 1600 ∧ (Call d M_M_sum [vI (h.1 81 ((40 * v2) + v1)), vI (h.1 81 ((40 * v1) + v3))] h (fun r11 h10 => Call d M_M_min [vI (h.1 81 ((40 * v2) + v3)), vI r11] h10 (fun r13 h12 => inI (v3 + 1) ∧ A_M_laysWays_92 d Q v1 v2 (v3 + 1) (wI h12 81 ((40 * v2) + v3) r13))))))))))))))) : A_M_laysWays_92 d Q v1 v2 v3 h := by
  show AW d M_M_laysWays Q 92 [some (vR 12 (-1)), some (vI v1), some (vI v2), some (vI v3)] [] h
  refine a_iload_n dX11_laysWays_92 rfl ?_
  refine a_aload_n dX11_laysWays_93 rfl ?_
  refine a_getI' (kz := 0) dX11_laysWays_94 fl_M_130 sk_12 rfl rfl (rfl) ?_
  refine a_icmp_ge (tgt := 156) dX11_laysWays_97 (by decide) (fun c => ?_) (fun c => ?_)
  · have hy := hy.1 c
    obtain ⟨c1, hy⟩ := hy
    refine a_iinc (y := v2 + 1) (ls2 := [some (vR 12 (-1)), some (vI v1), some (vI (v2 + 1)), some (vI v3)]) dX11_laysWays_156 rfl rfl c1 rfl ?_
    refine a_goto (tgt := 82) dX11_laysWays_159 (by decide) ?_
    refine a_mask [true, true, true, false] (ls2 := [some (vR 12 (-1)), some (vI v1), some (vI (v2 + 1)), none]) rfl rfl ?_
    exact hy
  · have hy := hy.2 (Int.not_le.mp c)
    refine a_aload_n dX11_laysWays_100 rfl ?_
    refine a_getR dX11_laysWays_101 fl_M_81 sk_12 rfl ?_
    refine a_bipush (x := 40) dX11_laysWays_104 (by decide) ⟨by decide, by decide⟩ ?_
    refine a_iload_n dX11_laysWays_106 rfl ?_
    obtain ⟨c2, hy⟩ := hy
    refine a_imul dX11_laysWays_107 c2 ?_
    refine a_iload_n dX11_laysWays_108 rfl ?_
    obtain ⟨c3, hy⟩ := hy
    refine a_iadd dX11_laysWays_109 c3 ?_
    refine a_aload_n dX11_laysWays_110 rfl ?_
    refine a_getR dX11_laysWays_111 fl_M_81 sk_12 rfl ?_
    refine a_bipush (x := 40) dX11_laysWays_114 (by decide) ⟨by decide, by decide⟩ ?_
    refine a_iload_n dX11_laysWays_116 rfl ?_
    refine a_imul dX11_laysWays_117 c2 ?_
    refine a_iload_n dX11_laysWays_118 rfl ?_
    refine a_iadd dX11_laysWays_119 c3 ?_
    obtain ⟨c4, hy⟩ := hy
    refine a_iald' dX11_laysWays_120 sk_81 c4 (rfl) ?_
    refine a_aload_n dX11_laysWays_121 rfl ?_
    refine a_getR dX11_laysWays_122 fl_M_81 sk_12 rfl ?_
    refine a_bipush (x := 40) dX11_laysWays_125 (by decide) ⟨by decide, by decide⟩ ?_
    refine a_iload_n dX11_laysWays_127 rfl ?_
    refine a_imul dX11_laysWays_128 c2 ?_
    refine a_iload_n dX11_laysWays_129 rfl ?_
    obtain ⟨c5, hy⟩ := hy
    refine a_iadd dX11_laysWays_130 c5 ?_
    obtain ⟨c6, hy⟩ := hy
    refine a_iald' dX11_laysWays_131 sk_81 c6 (rfl) ?_
    refine a_aload_n dX11_laysWays_132 rfl ?_
    refine a_getR dX11_laysWays_133 fl_M_81 sk_12 rfl ?_
    refine a_bipush (x := 40) dX11_laysWays_136 (by decide) ⟨by decide, by decide⟩ ?_
    refine a_iload_n dX11_laysWays_138 rfl ?_
    obtain ⟨c7, hy⟩ := hy
    refine a_imul dX11_laysWays_139 c7 ?_
    refine a_iload_n dX11_laysWays_140 rfl ?_
    obtain ⟨c8, hy⟩ := hy
    refine a_iadd dX11_laysWays_141 c8 ?_
    obtain ⟨c9, hy⟩ := hy
    refine a_iald' dX11_laysWays_142 sk_81 c9 (rfl) ?_
    refine a_callSi (as := [vI (h.1 81 ((40 * v2) + v1)), vI (h.1 81 ((40 * v1) + v3))]) (st := [vI (h.1 81 ((40 * v2) + v3)), vI ((40 * v2) + v3), vR 81 (-1)]) dX11_laysWays_143 lk_M_300 rfl rfl (Nat.le_of_ble_eq_true rfl) (Or.inl rfl) (Call.mono hy (fun r11 h10 _ hy => ?_))
    refine a_callSi (as := [vI (h.1 81 ((40 * v2) + v3)), vI r11]) (st := [vI ((40 * v2) + v3), vR 81 (-1)]) dX11_laysWays_146 lk_M_303 rfl rfl (Nat.le_of_ble_eq_true rfl) (Or.inl rfl) (Call.mono hy (fun r13 h12 _ hy => ?_))
    refine a_iast dX11_laysWays_149 sk_81 c4 ?_
    obtain ⟨c14, hy⟩ := hy
    refine a_iinc (y := v3 + 1) (ls2 := [some (vR 12 (-1)), some (vI v1), some (vI v2), some (vI (v3 + 1))]) dX11_laysWays_150 rfl rfl c14 rfl ?_
    refine a_goto (tgt := 92) dX11_laysWays_153 (by decide) ?_
    exact hy
theorem c_M_laysWays {d : Nat} (d0 : Nat) (hd : d0 < d)  {h : AH} {Q : Int → AH → Prop} (hy : Call d0 M_M_laysSteps [vR 12 (-1)] h (fun _ h1 => A_M_laysWays_6 d0 Q 0 h1)) : Call d M_M_laysWays [vR 12 (-1)] h Q := by
  refine ⟨d0, hd, Big.of rfl (Nat.le_of_ble_eq_true rfl) ?_⟩
  show AW d0 M_M_laysWays Q 0 [some (vR 12 (-1)), none, none, none] [] h
  refine a_aload_n dX11_laysWays_0 rfl ?_
  refine a_callVv (as := []) (st := []) dX11_laysWays_1 lk_M_291 sk_12 rfl rfl (Nat.le_of_ble_eq_true rfl) rfl (Call.mono hy (fun _ h1 _ hy => ?_))
  refine a_iconst (x := 0) dX11_laysWays_4 rfl ⟨by decide, by decide⟩ ?_
  refine a_istore_n (i := 1) (ls2 := [some (vR 12 (-1)), some (vI 0), none, none]) dX11_laysWays_5 rfl (Nat.le_of_ble_eq_true rfl) rfl ?_
  exact hy
def A_M_least_95 (d : Nat) (Q : Int → AH → Prop) (p2 : Int) (p3 : Int) (v5 : Int) (v6 : Int) (h : AH) : Prop := AW d M_M_least Q 95 [some (vR 12 (-1)), none, some (vI p2), some (vI p3), none, some (vI v5), some (vI v6)] [] h
theorem s_M_least_95 {d : Nat} {Q : Int → AH → Prop} {p2 : Int} {p3 : Int} {v5 : Int} {v6 : Int} {h : AH} (hy : ((p3 ≤ v6 → Q v5 h) ∧ (v6 < p3 → (Call d M_M_nextOn [vR 12 (-1), vI v5, vI p2] h (fun r2 h1 => inI (v6 + 1) ∧ A_M_least_95 d Q p2 p3 r2 (v6 + 1) h1))))) : A_M_least_95 d Q p2 p3 v5 v6 h := by
  show AW d M_M_least Q 95 [some (vR 12 (-1)), none, some (vI p2), some (vI p3), none, some (vI v5), some (vI v6)] [] h
  refine a_iload dX11_least_95 rfl ?_
  refine a_iload_n dX11_least_97 rfl ?_
  refine a_icmp_ge (tgt := 116) dX11_least_98 (by decide) (fun c => ?_) (fun c => ?_)
  · have hy := hy.1 c
    refine a_iload dX11_least_116 rfl ?_
    exact a_iret dX11_least_118 rfl hy
  · have hy := hy.2 (Int.not_le.mp c)
    refine a_aload_n dX11_least_101 rfl ?_
    refine a_iload dX11_least_102 rfl ?_
    refine a_iload_n dX11_least_104 rfl ?_
    refine a_callVi (as := [vI v5, vI p2]) (st := []) dX11_least_105 lk_M_309 sk_12 rfl rfl (Nat.le_of_ble_eq_true rfl) (Or.inl rfl) (Call.mono hy (fun r2 h1 _ hy => ?_))
    refine a_istore (ls2 := [some (vR 12 (-1)), none, some (vI p2), some (vI p3), none, some (vI r2), some (vI v6)]) dX11_least_108 (Nat.le_of_ble_eq_true rfl) rfl ?_
    obtain ⟨c3, hy⟩ := hy
    refine a_iinc (y := v6 + 1) (ls2 := [some (vR 12 (-1)), none, some (vI p2), some (vI p3), none, some (vI r2), some (vI (v6 + 1))]) dX11_least_110 rfl rfl c3 rfl ?_
    refine a_goto (tgt := 95) dX11_least_113 (by decide) ?_
    exact hy
theorem c_M_least {d : Nat} (d0 : Nat) (hd : d0 < d) {p1 : Int} {p2 : Int} {p3 : Int} {h : AH} {Q : Int → AH → Prop} (hy : Call d0 M_M_isWord [vR 12 (-1), vI p1] h (fun r2 h1 => ((r2 = 0 → Q (-1) h1) ∧ (r2 ≠ 0 → (Call d0 M_M_isWord [vR 12 (-1), vI p2] h1 (fun r4 h3 => ((r4 = 0 → Q (-1) h3) ∧ (r4 ≠ 0 → (Call d0 M_M_in [vI p3, vI (-1), vI 40] h3 (fun r6 h5 => ((r6 ≠ 0 → (Call d0 M_M_laysWays [vR 12 (-1)] h5 (fun _ h7 => inI (40 * p1) ∧ (inI ((40 * p1) + p2) ∧ (inb ((40 * p1) + p2) 1600 ∧ (((h7.1 81 ((40 * p1) + p2)) < 1000000000 → ((p3 ≠ (-1) → ((p3 ≠ 40 → ((p3 ≤ (Int.tmod (h7.1 81 ((40 * p1) + p2)) 64) → A_M_least_95 d0 Q p2 p3 p1 0 h7) ∧ ((Int.tmod (h7.1 81 ((40 * p1) + p2)) 64) < p3 → Q (-1) h7))) ∧ (p3 = 40 → Q (Int.tmod (h7.1 81 ((40 * p1) + p2)) 64) h7))) ∧ (p3 = (-1) → (inI (Int.tdiv (h7.1 81 ((40 * p1) + p2)) 64) ∧ Q (Int.tdiv (h7.1 81 ((40 * p1) + p2)) 64) h7)))) ∧ (1000000000 ≤ (h7.1 81 ((40 * p1) + p2)) → Q (-2) h7))))))) ∧ (r6 = 0 → Q (-1) h5)))))))))))) : Call d M_M_least [vR 12 (-1), vI p1, vI p2, vI p3] h Q := by
  refine ⟨d0, hd, Big.of rfl (Nat.le_of_ble_eq_true rfl) ?_⟩
  show AW d0 M_M_least Q 0 [some (vR 12 (-1)), some (vI p1), some (vI p2), some (vI p3), none, none, none] [] h
  refine a_aload_n dX11_least_0 rfl ?_
  refine a_iload_n dX11_least_1 rfl ?_
  refine a_callVi (as := [vI p1]) (st := []) dX11_least_2 lk_M_154 sk_12 rfl rfl (Nat.le_of_ble_eq_true rfl) (Or.inr rfl) (Call.mono hy (fun r2 h1 _ hy => ?_))
  refine a_if_eq (tgt := 26) dX11_least_5 (by decide) (fun c => ?_) (fun c => ?_)
  · have hy := hy.1 c
    refine a_iconst (x := (-1)) dX11_least_26 rfl ⟨by decide, by decide⟩ ?_
    exact a_iret dX11_least_27 rfl hy
  · have hy := hy.2 (c)
    refine a_aload_n dX11_least_8 rfl ?_
    refine a_iload_n dX11_least_9 rfl ?_
    refine a_callVi (as := [vI p2]) (st := []) dX11_least_10 lk_M_154 sk_12 rfl rfl (Nat.le_of_ble_eq_true rfl) (Or.inr rfl) (Call.mono hy (fun r4 h3 _ hy => ?_))
    refine a_if_eq (tgt := 26) dX11_least_13 (by decide) (fun c => ?_) (fun c => ?_)
    · have hy := hy.1 c
      refine a_iconst (x := (-1)) dX11_least_26 rfl ⟨by decide, by decide⟩ ?_
      exact a_iret dX11_least_27 rfl hy
    · have hy := hy.2 (c)
      refine a_iload_n dX11_least_16 rfl ?_
      refine a_iconst (x := (-1)) dX11_least_17 rfl ⟨by decide, by decide⟩ ?_
      refine a_bipush (x := 40) dX11_least_18 (by decide) ⟨by decide, by decide⟩ ?_
      refine a_callSi (as := [vI p3, vI (-1), vI 40]) (st := []) dX11_least_20 lk_M_139 rfl rfl (Nat.le_of_ble_eq_true rfl) (Or.inr rfl) (Call.mono hy (fun r6 h5 _ hy => ?_))
      refine a_if_ne (tgt := 28) dX11_least_23 (by decide) (fun c => ?_) (fun c => ?_)
      · have hy := hy.1 c
        refine a_aload_n dX11_least_28 rfl ?_
        refine a_callVv (as := []) (st := []) dX11_least_29 lk_M_306 sk_12 rfl rfl (Nat.le_of_ble_eq_true rfl) rfl (Call.mono hy (fun _ h7 _ hy => ?_))
        refine a_aload_n dX11_least_32 rfl ?_
        refine a_getR dX11_least_33 fl_M_81 sk_12 rfl ?_
        refine a_bipush (x := 40) dX11_least_36 (by decide) ⟨by decide, by decide⟩ ?_
        refine a_iload_n dX11_least_38 rfl ?_
        obtain ⟨c8, hy⟩ := hy
        refine a_imul dX11_least_39 c8 ?_
        refine a_iload_n dX11_least_40 rfl ?_
        obtain ⟨c9, hy⟩ := hy
        refine a_iadd dX11_least_41 c9 ?_
        obtain ⟨c10, hy⟩ := hy
        refine a_iald' dX11_least_42 sk_81 c10 (rfl) ?_
        refine a_istore (ls2 := [some (vR 12 (-1)), some (vI p1), some (vI p2), some (vI p3), some (vI (h7.1 81 ((40 * p1) + p2))), none, none]) dX11_least_43 (Nat.le_of_ble_eq_true rfl) rfl ?_
        refine a_iload dX11_least_45 rfl ?_
        refine a_ldc (x := 1000000000) dX11_least_47 kc_M_129 ⟨by decide, by decide⟩ ?_
        refine a_icmp_lt (tgt := 55) dX11_least_49 (by decide) (fun c => ?_) (fun c => ?_)
        · have hy := hy.1 c
          refine a_iload_n dX11_least_55 rfl ?_
          refine a_iconst (x := (-1)) dX11_least_56 rfl ⟨by decide, by decide⟩ ?_
          refine a_icmp_ne (tgt := 66) dX11_least_57 (by decide) (fun c => ?_) (fun c => ?_)
          · have hy := hy.1 c
            refine a_iload_n dX11_least_66 rfl ?_
            refine a_bipush (x := 40) dX11_least_67 (by decide) ⟨by decide, by decide⟩ ?_
            refine a_icmp_ne (tgt := 78) dX11_least_69 (by decide) (fun c => ?_) (fun c => ?_)
            · have hy := hy.1 c
              refine a_iload_n dX11_least_78 rfl ?_
              refine a_iload dX11_least_79 rfl ?_
              refine a_bipush (x := 64) dX11_least_81 (by decide) ⟨by decide, by decide⟩ ?_
              refine a_irem dX11_least_83 (by decide) ?_
              refine a_icmp_le (tgt := 89) dX11_least_84 (by decide) (fun c => ?_) (fun c => ?_)
              · have hy := hy.1 c
                refine a_iload_n dX11_least_89 rfl ?_
                refine a_istore (ls2 := [some (vR 12 (-1)), some (vI p1), some (vI p2), some (vI p3), some (vI (h7.1 81 ((40 * p1) + p2))), some (vI p1), none]) dX11_least_90 (Nat.le_of_ble_eq_true rfl) rfl ?_
                refine a_iconst (x := 0) dX11_least_92 rfl ⟨by decide, by decide⟩ ?_
                refine a_istore (ls2 := [some (vR 12 (-1)), some (vI p1), some (vI p2), some (vI p3), some (vI (h7.1 81 ((40 * p1) + p2))), some (vI p1), some (vI 0)]) dX11_least_93 (Nat.le_of_ble_eq_true rfl) rfl ?_
                refine a_mask [true, false, true, true, false, true, true] (ls2 := [some (vR 12 (-1)), none, some (vI p2), some (vI p3), none, some (vI p1), some (vI 0)]) rfl rfl ?_
                exact hy
              · have hy := hy.2 (Int.not_le.mp c)
                refine a_iconst (x := (-1)) dX11_least_87 rfl ⟨by decide, by decide⟩ ?_
                exact a_iret dX11_least_88 rfl hy
            · have hy := hy.2 (Decidable.not_not.mp c)
              refine a_iload dX11_least_72 rfl ?_
              refine a_bipush (x := 64) dX11_least_74 (by decide) ⟨by decide, by decide⟩ ?_
              refine a_irem dX11_least_76 (by decide) ?_
              exact a_iret dX11_least_77 rfl hy
          · have hy := hy.2 (Decidable.not_not.mp c)
            refine a_iload dX11_least_60 rfl ?_
            refine a_bipush (x := 64) dX11_least_62 (by decide) ⟨by decide, by decide⟩ ?_
            obtain ⟨c11, hy⟩ := hy
            refine a_idiv dX11_least_64 (by decide) c11 ?_
            exact a_iret dX11_least_65 rfl hy
        · have hy := hy.2 (Int.not_lt.mp c)
          refine a_bipush (x := (-2)) dX11_least_52 (by decide) ⟨by decide, by decide⟩ ?_
          exact a_iret dX11_least_54 rfl hy
      · have hy := hy.2 (Decidable.not_not.mp c)
        refine a_iconst (x := (-1)) dX11_least_26 rfl ⟨by decide, by decide⟩ ?_
        exact a_iret dX11_least_27 rfl hy
theorem c_M_leastOf {d : Nat} (d0 : Nat) (hd : d0 < d) {p1 : Int} {p2 : Int} {h : AH} {Q : Int → AH → Prop} (hy : inI (40 * p1) ∧ (inI ((40 * p1) + p2) ∧ (inb ((40 * p1) + p2) 1600 ∧ (((h.1 81 ((40 * p1) + p2)) < 1000000000 → (inI (Int.tdiv (h.1 81 ((40 * p1) + p2)) 64) ∧ Q (Int.tdiv (h.1 81 ((40 * p1) + p2)) 64) h)) ∧ (1000000000 ≤ (h.1 81 ((40 * p1) + p2)) → Q 1000000000 h))))) : Call d M_M_leastOf [vR 12 (-1), vI p1, vI p2] h Q := by
  refine ⟨d0, hd, Big.of rfl (Nat.le_of_ble_eq_true rfl) ?_⟩
  show AW d0 M_M_leastOf Q 0 [some (vR 12 (-1)), some (vI p1), some (vI p2)] [] h
  refine a_aload_n dX11_leastOf_0 rfl ?_
  refine a_getR dX11_leastOf_1 fl_M_81 sk_12 rfl ?_
  refine a_bipush (x := 40) dX11_leastOf_4 (by decide) ⟨by decide, by decide⟩ ?_
  refine a_iload_n dX11_leastOf_6 rfl ?_
  obtain ⟨c1, hy⟩ := hy
  refine a_imul dX11_leastOf_7 c1 ?_
  refine a_iload_n dX11_leastOf_8 rfl ?_
  obtain ⟨c2, hy⟩ := hy
  refine a_iadd dX11_leastOf_9 c2 ?_
  obtain ⟨c3, hy⟩ := hy
  refine a_iald' dX11_leastOf_10 sk_81 c3 (rfl) ?_
  refine a_ldc (x := 1000000000) dX11_leastOf_11 kc_M_129 ⟨by decide, by decide⟩ ?_
  refine a_icmp_lt (tgt := 21) dX11_leastOf_13 (by decide) (fun c => ?_) (fun c => ?_)
  · have hy := hy.1 c
    refine a_aload_n dX11_leastOf_21 rfl ?_
    refine a_getR dX11_leastOf_22 fl_M_81 sk_12 rfl ?_
    refine a_bipush (x := 40) dX11_leastOf_25 (by decide) ⟨by decide, by decide⟩ ?_
    refine a_iload_n dX11_leastOf_27 rfl ?_
    refine a_imul dX11_leastOf_28 c1 ?_
    refine a_iload_n dX11_leastOf_29 rfl ?_
    refine a_iadd dX11_leastOf_30 c2 ?_
    refine a_iald' dX11_leastOf_31 sk_81 c3 (rfl) ?_
    refine a_bipush (x := 64) dX11_leastOf_32 (by decide) ⟨by decide, by decide⟩ ?_
    obtain ⟨c4, hy⟩ := hy
    refine a_idiv dX11_leastOf_34 (by decide) c4 ?_
    exact a_iret dX11_leastOf_35 rfl hy
  · have hy := hy.2 (Int.not_lt.mp c)
    refine a_ldc (x := 1000000000) dX11_leastOf_16 kc_M_129 ⟨by decide, by decide⟩ ?_
    refine a_goto (tgt := 35) dX11_leastOf_18 (by decide) ?_
    exact a_iret dX11_leastOf_35 rfl hy
def A_M_leavesOut_14 (d : Nat) (Q : Int → AH → Prop) (p1 : Int) (p2 : Int) (v3 : Int) (h : AH) : Prop := AW d M_M_leavesOut Q 14 [some (vR 12 (-1)), some (vI p1), some (vI p2), some (vI v3)] [] h
def A_M_leavesOut_41 (d : Nat) (Q : Int → AH → Prop) (p1 : Int) (p2 : Int) (v3 : Int) (s1 : Int) (s3 : Int) (s4 : Int) (h : AH) : Prop := AW d M_M_leavesOut Q 41 [some (vR 12 (-1)), some (vI p1), some (vI p2), some (vI v3)] [vI s4, vI s3, vR 12 (-1), vI s1, vR 63 (-1)] h
theorem s_M_leavesOut_14 {d : Nat} {Q : Int → AH → Prop} {p1 : Int} {p2 : Int} {v3 : Int} {h : AH} (hy : (((h.1 12 9) ≤ v3 → Q 0 h) ∧ (v3 < (h.1 12 9) → ((p2 ≤ v3 → (inI (v3 + 1) ∧ A_M_leavesOut_41 d Q p1 p2 v3 v3 p1 (v3 + 1) h)) ∧ (v3 < p2 → A_M_leavesOut_41 d Q p1 p2 v3 v3 p1 v3 h))))) : A_M_leavesOut_14 d Q p1 p2 v3 h := by
  show AW d M_M_leavesOut Q 14 [some (vR 12 (-1)), some (vI p1), some (vI p2), some (vI v3)] [] h
  refine a_iload_n dX11_leavesOut_14 rfl ?_
  refine a_aload_n dX11_leavesOut_15 rfl ?_
  refine a_getI' (kz := 9) dX11_leavesOut_16 fl_M_136 sk_12 rfl rfl (rfl) ?_
  refine a_icmp_ge (tgt := 51) dX11_leavesOut_19 (by decide) (fun c => ?_) (fun c => ?_)
  · have hy := hy.1 c
    exact a_vret dX11_leavesOut_51 rfl hy
  · have hy := hy.2 (Int.not_le.mp c)
    refine a_aload_n dX11_leavesOut_22 rfl ?_
    refine a_getR dX11_leavesOut_23 fl_M_26 sk_12 rfl ?_
    refine a_iload_n dX11_leavesOut_26 rfl ?_
    refine a_aload_n dX11_leavesOut_27 rfl ?_
    refine a_iload_n dX11_leavesOut_28 rfl ?_
    refine a_iload_n dX11_leavesOut_29 rfl ?_
    refine a_iload_n dX11_leavesOut_30 rfl ?_
    refine a_icmp_ge (tgt := 38) dX11_leavesOut_31 (by decide) (fun c => ?_) (fun c => ?_)
    · have hy := hy.1 c
      refine a_iload_n dX11_leavesOut_38 rfl ?_
      refine a_iconst (x := 1) dX11_leavesOut_39 rfl ⟨by decide, by decide⟩ ?_
      obtain ⟨c1, hy⟩ := hy
      refine a_iadd dX11_leavesOut_40 c1 ?_
      exact hy
    · have hy := hy.2 (Int.not_le.mp c)
      refine a_iload_n dX11_leavesOut_34 rfl ?_
      refine a_goto (tgt := 41) dX11_leavesOut_35 (by decide) ?_
      exact hy
theorem s_M_leavesOut_41 {d : Nat} {Q : Int → AH → Prop} {p1 : Int} {p2 : Int} {v3 : Int} {s1 : Int} {s3 : Int} {s4 : Int} {h : AH} (hy : Call d M_M_letter [vR 12 (-1), vI s3, vI s4] h (fun r2 h1 => inb s1 12 ∧ (inI (v3 + 1) ∧ A_M_leavesOut_14 d Q p1 p2 (v3 + 1) (wI h1 63 s1 r2)))) : A_M_leavesOut_41 d Q p1 p2 v3 s1 s3 s4 h := by
  show AW d M_M_leavesOut Q 41 [some (vR 12 (-1)), some (vI p1), some (vI p2), some (vI v3)] [vI s4, vI s3, vR 12 (-1), vI s1, vR 63 (-1)] h
  refine a_callVi (as := [vI s3, vI s4]) (st := [vI s1, vR 63 (-1)]) dX11_leavesOut_41 lk_M_262 sk_12 rfl rfl (Nat.le_of_ble_eq_true rfl) (Or.inl rfl) (Call.mono hy (fun r2 h1 _ hy => ?_))
  obtain ⟨c3, hy⟩ := hy
  refine a_iast dX11_leavesOut_44 sk_63 c3 ?_
  obtain ⟨c4, hy⟩ := hy
  refine a_iinc (y := v3 + 1) (ls2 := [some (vR 12 (-1)), some (vI p1), some (vI p2), some (vI (v3 + 1))]) dX11_leavesOut_45 rfl rfl c4 rfl ?_
  refine a_goto (tgt := 14) dX11_leavesOut_48 (by decide) ?_
  exact hy
theorem c_M_leavesOut {d : Nat} (d0 : Nat) (hd : d0 < d) {p1 : Int} {p2 : Int} {h : AH} {Q : Int → AH → Prop} (hy : inb p1 40 ∧ (inI ((h.1 58 p1) - 1) ∧ A_M_leavesOut_14 d0 Q p1 p2 0 (wI h 12 9 ((h.1 58 p1) - 1)))) : Call d M_M_leavesOut [vR 12 (-1), vI p1, vI p2] h Q := by
  refine ⟨d0, hd, Big.of rfl (Nat.le_of_ble_eq_true rfl) ?_⟩
  show AW d0 M_M_leavesOut Q 0 [some (vR 12 (-1)), some (vI p1), some (vI p2), none] [] h
  refine a_aload_n dX11_leavesOut_0 rfl ?_
  refine a_aload_n dX11_leavesOut_1 rfl ?_
  refine a_getR dX11_leavesOut_2 fl_M_7 sk_12 rfl ?_
  refine a_iload_n dX11_leavesOut_5 rfl ?_
  obtain ⟨c1, hy⟩ := hy
  refine a_iald' dX11_leavesOut_6 sk_58 c1 (rfl) ?_
  refine a_iconst (x := 1) dX11_leavesOut_7 rfl ⟨by decide, by decide⟩ ?_
  obtain ⟨c2, hy⟩ := hy
  refine a_isub dX11_leavesOut_8 c2 ?_
  refine a_putI (kz := 9) dX11_leavesOut_9 fp_M_136 sk_12 rfl rfl ?_
  refine a_iconst (x := 0) dX11_leavesOut_12 rfl ⟨by decide, by decide⟩ ?_
  refine a_istore_n (i := 3) (ls2 := [some (vR 12 (-1)), some (vI p1), some (vI p2), some (vI 0)]) dX11_leavesOut_13 rfl (Nat.le_of_ble_eq_true rfl) rfl ?_
  exact hy
theorem c_M_letter {d : Nat} (d0 : Nat) (hd : d0 < d) {p1 : Int} {p2 : Int} {h : AH} {Q : Int → AH → Prop} (hy : inI (8 * p1) ∧ (inI ((8 * p1) + p2) ∧ (inb ((8 * p1) + p2) 320 ∧ Q (h.1 59 ((8 * p1) + p2)) h))) : Call d M_M_letter [vR 12 (-1), vI p1, vI p2] h Q := by
  refine ⟨d0, hd, Big.of rfl (Nat.le_of_ble_eq_true rfl) ?_⟩
  show AW d0 M_M_letter Q 0 [some (vR 12 (-1)), some (vI p1), some (vI p2)] [] h
  refine a_aload_n dX11_letter_0 rfl ?_
  refine a_getR dX11_letter_1 fl_M_13 sk_12 rfl ?_
  refine a_bipush (x := 8) dX11_letter_4 (by decide) ⟨by decide, by decide⟩ ?_
  refine a_iload_n dX11_letter_6 rfl ?_
  obtain ⟨c1, hy⟩ := hy
  refine a_imul dX11_letter_7 c1 ?_
  refine a_iload_n dX11_letter_8 rfl ?_
  obtain ⟨c2, hy⟩ := hy
  refine a_iadd dX11_letter_9 c2 ?_
  obtain ⟨c3, hy⟩ := hy
  refine a_iald' dX11_letter_10 sk_59 c3 (rfl) ?_
  exact a_iret dX11_letter_11 rfl hy
theorem c_M_mayNear {d : Nat} (d0 : Nat) (hd : d0 < d) {p1 : Int} {p2 : Int} {h : AH} {Q : Int → AH → Prop} (hy : inb p1 40 ∧ (inb p2 40 ∧ (inI ((h.1 58 p1) - (h.1 58 p2)) ∧ ((2 ≤ ((h.1 58 p1) - (h.1 58 p2)) → Q 0 h) ∧ (((h.1 58 p1) - (h.1 58 p2)) < 2 → (inI ((h.1 58 p2) - (h.1 58 p1)) ∧ ((2 ≤ ((h.1 58 p2) - (h.1 58 p1)) → Q 0 h) ∧ (((h.1 58 p2) - (h.1 58 p1)) < 2 → Q 1 h)))))))) : Call d M_M_mayNear [vR 12 (-1), vI p1, vI p2] h Q := by
  refine ⟨d0, hd, Big.of rfl (Nat.le_of_ble_eq_true rfl) ?_⟩
  show AW d0 M_M_mayNear Q 0 [some (vR 12 (-1)), some (vI p1), some (vI p2)] [] h
  refine a_aload_n dX11_mayNear_0 rfl ?_
  refine a_getR dX11_mayNear_1 fl_M_7 sk_12 rfl ?_
  refine a_iload_n dX11_mayNear_4 rfl ?_
  obtain ⟨c1, hy⟩ := hy
  refine a_iald' dX11_mayNear_5 sk_58 c1 (rfl) ?_
  refine a_aload_n dX11_mayNear_6 rfl ?_
  refine a_getR dX11_mayNear_7 fl_M_7 sk_12 rfl ?_
  refine a_iload_n dX11_mayNear_10 rfl ?_
  obtain ⟨c2, hy⟩ := hy
  refine a_iald' dX11_mayNear_11 sk_58 c2 (rfl) ?_
  obtain ⟨c3, hy⟩ := hy
  refine a_isub dX11_mayNear_12 c3 ?_
  refine a_iconst (x := 2) dX11_mayNear_13 rfl ⟨by decide, by decide⟩ ?_
  refine a_icmp_ge (tgt := 38) dX11_mayNear_14 (by decide) (fun c => ?_) (fun c => ?_)
  · have hy := hy.1 c
    refine a_iconst (x := 0) dX11_mayNear_38 rfl ⟨by decide, by decide⟩ ?_
    exact a_zret dX11_mayNear_39 rfl (Or.inl rfl) hy
  · have hy := hy.2 (Int.not_le.mp c)
    refine a_aload_n dX11_mayNear_17 rfl ?_
    refine a_getR dX11_mayNear_18 fl_M_7 sk_12 rfl ?_
    refine a_iload_n dX11_mayNear_21 rfl ?_
    refine a_iald' dX11_mayNear_22 sk_58 c2 (rfl) ?_
    refine a_aload_n dX11_mayNear_23 rfl ?_
    refine a_getR dX11_mayNear_24 fl_M_7 sk_12 rfl ?_
    refine a_iload_n dX11_mayNear_27 rfl ?_
    refine a_iald' dX11_mayNear_28 sk_58 c1 (rfl) ?_
    obtain ⟨c4, hy⟩ := hy
    refine a_isub dX11_mayNear_29 c4 ?_
    refine a_iconst (x := 2) dX11_mayNear_30 rfl ⟨by decide, by decide⟩ ?_
    refine a_icmp_ge (tgt := 38) dX11_mayNear_31 (by decide) (fun c => ?_) (fun c => ?_)
    · have hy := hy.1 c
      refine a_iconst (x := 0) dX11_mayNear_38 rfl ⟨by decide, by decide⟩ ?_
      exact a_zret dX11_mayNear_39 rfl (Or.inl rfl) hy
    · have hy := hy.2 (Int.not_le.mp c)
      refine a_iconst (x := 1) dX11_mayNear_34 rfl ⟨by decide, by decide⟩ ?_
      refine a_goto (tgt := 39) dX11_mayNear_35 (by decide) ?_
      exact a_zret dX11_mayNear_39 rfl (Or.inr rfl) hy
theorem c_M_min {d : Nat} (d0 : Nat) (hd : d0 < d) {p0 : Int} {p1 : Int} {h : AH} {Q : Int → AH → Prop} (hy : ((p1 ≤ p0 → Q p1 h) ∧ (p0 < p1 → Q p0 h))) : Call d M_M_min [vI p0, vI p1] h Q := by
  refine ⟨d0, hd, Big.of rfl (Nat.le_of_ble_eq_true rfl) ?_⟩
  show AW d0 M_M_min Q 0 [some (vI p0), some (vI p1)] [] h
  refine a_iload_n dX11_min_0 rfl ?_
  refine a_iload_n dX11_min_1 rfl ?_
  refine a_icmp_ge (tgt := 9) dX11_min_2 (by decide) (fun c => ?_) (fun c => ?_)
  · have hy := hy.1 c
    refine a_iload_n dX11_min_9 rfl ?_
    exact a_iret dX11_min_10 rfl hy
  · have hy := hy.2 (Int.not_le.mp c)
    refine a_iload_n dX11_min_5 rfl ?_
    refine a_goto (tgt := 10) dX11_min_6 (by decide) ?_
    exact a_iret dX11_min_10 rfl hy
def A_M_near_52 (d : Nat) (Q : Int → AH → Prop) (p2 : Int) (v3 : Int) (v4 : Int) (v5 : Int) (v6 : Int) (h : AH) : Prop := AW d M_M_near Q 52 [some (vR 12 (-1)), none, some (vI p2), some (vI v3), some (vI v4), some (vI v5), some (vI v6), none] [] h
def A_M_near_106 (d : Nat) (Q : Int → AH → Prop) (p2 : Int) (v3 : Int) (v4 : Int) (v6 : Int) (v7 : Int) (s0 : Int) (h : AH) : Prop := AW d M_M_near Q 106 [some (vR 12 (-1)), none, some (vI p2), some (vI v3), some (vI v4), none, some (vI v6), some (vI v7)] [vI s0] h
theorem s_M_near_52 {d : Nat} {Q : Int → AH → Prop} {p2 : Int} {v3 : Int} {v4 : Int} {v5 : Int} {v6 : Int} {h : AH} (hy : (((h.1 12 0) ≤ v6 → ((v4 ≠ (-1) → ((p2 ≠ 0 → ((p2 ≠ 1 → Q v5 h) ∧ (p2 = 1 → Q v4 h))) ∧ (p2 = 0 → Q v3 h))) ∧ (v4 = (-1) → Q (-2) h))) ∧ (v6 < (h.1 12 0) → (Call d M_M_isUsed [vR 12 (-1), vI v6] h (fun r2 h1 => ((r2 ≠ 0 → (Call d M_M_farFromRow [vR 12 (-1), vI v6] h1 (fun r4 h3 => ((v3 ≤ r4 → ((r4 ≠ v3 → A_M_near_106 d Q p2 v3 v4 v6 r4 v5 h3) ∧ (r4 = v3 → (inI (v5 + 1) ∧ A_M_near_106 d Q p2 v3 v4 v6 r4 (v5 + 1) h3)))) ∧ (r4 < v3 → A_M_near_106 d Q p2 v3 v4 v6 r4 1 h3))))) ∧ (r2 = 0 → (inI (v6 + 1) ∧ A_M_near_52 d Q p2 v3 v4 v5 (v6 + 1) h1)))))))) : A_M_near_52 d Q p2 v3 v4 v5 v6 h := by
  show AW d M_M_near Q 52 [some (vR 12 (-1)), none, some (vI p2), some (vI v3), some (vI v4), some (vI v5), some (vI v6), none] [] h
  refine a_iload dX11_near_52 rfl ?_
  refine a_aload_n dX11_near_54 rfl ?_
  refine a_getI' (kz := 0) dX11_near_55 fl_M_130 sk_12 rfl rfl (rfl) ?_
  refine a_icmp_ge (tgt := 136) dX11_near_58 (by decide) (fun c => ?_) (fun c => ?_)
  · have hy := hy.1 c
    refine a_iload dX11_near_136 rfl ?_
    refine a_iconst (x := (-1)) dX11_near_138 rfl ⟨by decide, by decide⟩ ?_
    refine a_icmp_ne (tgt := 145) dX11_near_139 (by decide) (fun c => ?_) (fun c => ?_)
    · have hy := hy.1 c
      refine a_iload_n dX11_near_145 rfl ?_
      refine a_if_ne (tgt := 153) dX11_near_146 (by decide) (fun c => ?_) (fun c => ?_)
      · have hy := hy.1 c
        refine a_iload_n dX11_near_153 rfl ?_
        refine a_iconst (x := 1) dX11_near_154 rfl ⟨by decide, by decide⟩ ?_
        refine a_icmp_ne (tgt := 163) dX11_near_155 (by decide) (fun c => ?_) (fun c => ?_)
        · have hy := hy.1 c
          refine a_iload dX11_near_163 rfl ?_
          exact a_iret dX11_near_165 rfl hy
        · have hy := hy.2 (Decidable.not_not.mp c)
          refine a_iload dX11_near_158 rfl ?_
          refine a_goto (tgt := 165) dX11_near_160 (by decide) ?_
          exact a_iret dX11_near_165 rfl hy
      · have hy := hy.2 (Decidable.not_not.mp c)
        refine a_iload_n dX11_near_149 rfl ?_
        refine a_goto (tgt := 165) dX11_near_150 (by decide) ?_
        exact a_iret dX11_near_165 rfl hy
    · have hy := hy.2 (Decidable.not_not.mp c)
      refine a_bipush (x := (-2)) dX11_near_142 (by decide) ⟨by decide, by decide⟩ ?_
      exact a_iret dX11_near_144 rfl hy
  · have hy := hy.2 (Int.not_le.mp c)
    refine a_aload_n dX11_near_61 rfl ?_
    refine a_iload dX11_near_62 rfl ?_
    refine a_callVi (as := [vI v6]) (st := []) dX11_near_64 lk_M_282 sk_12 rfl rfl (Nat.le_of_ble_eq_true rfl) (Or.inr rfl) (Call.mono hy (fun r2 h1 _ hy => ?_))
    refine a_if_ne (tgt := 73) dX11_near_67 (by decide) (fun c => ?_) (fun c => ?_)
    · have hy := hy.1 c
      refine a_aload_n dX11_near_73 rfl ?_
      refine a_iload dX11_near_74 rfl ?_
      refine a_callVi (as := [vI v6]) (st := []) dX11_near_76 lk_M_389 sk_12 rfl rfl (Nat.le_of_ble_eq_true rfl) (Or.inl rfl) (Call.mono hy (fun r4 h3 _ hy => ?_))
      refine a_istore (ls2 := [some (vR 12 (-1)), none, some (vI p2), some (vI v3), some (vI v4), some (vI v5), some (vI v6), some (vI r4)]) dX11_near_79 (Nat.le_of_ble_eq_true rfl) rfl ?_
      refine a_iload dX11_near_81 rfl ?_
      refine a_iload_n dX11_near_83 rfl ?_
      refine a_icmp_ge (tgt := 91) dX11_near_84 (by decide) (fun c => ?_) (fun c => ?_)
      · have hy := hy.1 c
        refine a_iload dX11_near_91 rfl ?_
        refine a_iload_n dX11_near_93 rfl ?_
        refine a_icmp_ne (tgt := 104) dX11_near_94 (by decide) (fun c => ?_) (fun c => ?_)
        · have hy := hy.1 c
          refine a_iload dX11_near_104 rfl ?_
          refine a_mask [true, true, true, true, true, false, true, true] (ls2 := [some (vR 12 (-1)), none, some (vI p2), some (vI v3), some (vI v4), none, some (vI v6), some (vI r4)]) rfl rfl ?_
          exact hy
        · have hy := hy.2 (Decidable.not_not.mp c)
          refine a_iload dX11_near_97 rfl ?_
          refine a_iconst (x := 1) dX11_near_99 rfl ⟨by decide, by decide⟩ ?_
          obtain ⟨c5, hy⟩ := hy
          refine a_iadd dX11_near_100 c5 ?_
          refine a_goto (tgt := 106) dX11_near_101 (by decide) ?_
          refine a_mask [true, true, true, true, true, false, true, true] (ls2 := [some (vR 12 (-1)), none, some (vI p2), some (vI v3), some (vI v4), none, some (vI v6), some (vI r4)]) rfl rfl ?_
          exact hy
      · have hy := hy.2 (Int.not_le.mp c)
        refine a_iconst (x := 1) dX11_near_87 rfl ⟨by decide, by decide⟩ ?_
        refine a_goto (tgt := 106) dX11_near_88 (by decide) ?_
        refine a_mask [true, true, true, true, true, false, true, true] (ls2 := [some (vR 12 (-1)), none, some (vI p2), some (vI v3), some (vI v4), none, some (vI v6), some (vI r4)]) rfl rfl ?_
        exact hy
    · have hy := hy.2 (Decidable.not_not.mp c)
      refine a_goto (tgt := 130) dX11_near_70 (by decide) ?_
      obtain ⟨c6, hy⟩ := hy
      refine a_iinc (y := v6 + 1) (ls2 := [some (vR 12 (-1)), none, some (vI p2), some (vI v3), some (vI v4), some (vI v5), some (vI (v6 + 1)), none]) dX11_near_130 rfl rfl c6 rfl ?_
      refine a_goto (tgt := 52) dX11_near_133 (by decide) ?_
      exact hy
theorem s_M_near_106 {d : Nat} {Q : Int → AH → Prop} {p2 : Int} {v3 : Int} {v4 : Int} {v6 : Int} {v7 : Int} {s0 : Int} {h : AH} (hy : Call d M_M_min [vI v3, vI v7] h (fun r2 h1 => inI (v6 + 1) ∧ A_M_near_52 d Q p2 r2 (if v3 ≤ v7 then (v4 : Int) else v6) s0 (v6 + 1) h1)) : A_M_near_106 d Q p2 v3 v4 v6 v7 s0 h := by
  show AW d M_M_near Q 106 [some (vR 12 (-1)), none, some (vI p2), some (vI v3), some (vI v4), none, some (vI v6), some (vI v7)] [vI s0] h
  refine a_istore (ls2 := [some (vR 12 (-1)), none, some (vI p2), some (vI v3), some (vI v4), some (vI s0), some (vI v6), some (vI v7)]) dX11_near_106 (Nat.le_of_ble_eq_true rfl) rfl ?_
  refine a_iload dX11_near_108 rfl ?_
  refine a_iload_n dX11_near_110 rfl ?_
  have J : AW d M_M_near Q 121 [some (vR 12 (-1)), none, some (vI p2), some (vI v3), some (vI v4), some (vI s0), some (vI v6), some (vI v7)] [vI (if v3 ≤ v7 then (v4 : Int) else v6)] h := by
    refine a_istore (ls2 := [some (vR 12 (-1)), none, some (vI p2), some (vI v3), some (vI (if v3 ≤ v7 then (v4 : Int) else v6)), some (vI s0), some (vI v6), some (vI v7)]) dX11_near_121 (Nat.le_of_ble_eq_true rfl) rfl ?_
    refine a_iload_n dX11_near_123 rfl ?_
    refine a_iload dX11_near_124 rfl ?_
    refine a_callSi (as := [vI v3, vI v7]) (st := []) dX11_near_126 lk_M_303 rfl rfl (Nat.le_of_ble_eq_true rfl) (Or.inl rfl) (Call.mono hy (fun r2 h1 _ hy => ?_))
    refine a_istore_n (i := 3) (ls2 := [some (vR 12 (-1)), none, some (vI p2), some (vI r2), some (vI (if v3 ≤ v7 then (v4 : Int) else v6)), some (vI s0), some (vI v6), some (vI v7)]) dX11_near_129 rfl (Nat.le_of_ble_eq_true rfl) rfl ?_
    obtain ⟨c3, hy⟩ := hy
    refine a_iinc (y := v6 + 1) (ls2 := [some (vR 12 (-1)), none, some (vI p2), some (vI r2), some (vI (if v3 ≤ v7 then (v4 : Int) else v6)), some (vI s0), some (vI (v6 + 1)), some (vI v7)]) dX11_near_130 rfl rfl c3 rfl ?_
    refine a_goto (tgt := 52) dX11_near_133 (by decide) ?_
    refine a_mask [true, true, true, true, true, true, true, false] (ls2 := [some (vR 12 (-1)), none, some (vI p2), some (vI r2), some (vI (if v3 ≤ v7 then (v4 : Int) else v6)), some (vI s0), some (vI (v6 + 1)), none]) rfl rfl ?_
    exact hy
  refine a_icmp_ge (tgt := 119) dX11_near_111 (by decide) (fun e4 => ?_) (fun e4 => ?_)
  · refine a_iload dX11_near_119 rfl ?_
    exact a_cast (by first | rfl | simp only [if_pos e4]) (by first | rfl | simp only [if_pos e4]) J
  · refine a_iload dX11_near_114 rfl ?_
    refine a_goto (tgt := 121) dX11_near_116 (by decide) ?_
    exact a_cast (by first | rfl | simp only [if_neg e4]) (by first | rfl | simp only [if_neg e4]) J
theorem c_M_near {d : Nat} (d0 : Nat) (hd : d0 < d) {p1 : Int} {p2 : Int} {h : AH} {Q : Int → AH → Prop} (hy : Call d0 M_M_in [vI p1, vI 1, vI 12] h (fun r2 h1 => ((r2 = 0 → Q (-1) h1) ∧ (r2 ≠ 0 → (Call d0 M_M_in [vI p2, vI 0, vI 2] h1 (fun r4 h3 => ((r4 = 0 → Q (-1) h3) ∧ (r4 ≠ 0 → ((p1 ≤ (h3.1 12 11) → (Call d0 M_M_takesLetters [vR 12 (-1), vI p1] h3 (fun r6 h5 => ((r6 ≠ 0 → A_M_near_52 d0 Q p2 1000000000 (-1) 0 0 h5) ∧ (r6 = 0 → Q (-2) h5))))) ∧ ((h3.1 12 11) < p1 → Q (-1) h3)))))))))) : Call d M_M_near [vR 12 (-1), vI p1, vI p2] h Q := by
  refine ⟨d0, hd, Big.of rfl (Nat.le_of_ble_eq_true rfl) ?_⟩
  show AW d0 M_M_near Q 0 [some (vR 12 (-1)), some (vI p1), some (vI p2), none, none, none, none, none] [] h
  refine a_iload_n dX11_near_0 rfl ?_
  refine a_iconst (x := 1) dX11_near_1 rfl ⟨by decide, by decide⟩ ?_
  refine a_bipush (x := 12) dX11_near_2 (by decide) ⟨by decide, by decide⟩ ?_
  refine a_callSi (as := [vI p1, vI 1, vI 12]) (st := []) dX11_near_4 lk_M_139 rfl rfl (Nat.le_of_ble_eq_true rfl) (Or.inr rfl) (Call.mono hy (fun r2 h1 _ hy => ?_))
  refine a_if_eq (tgt := 27) dX11_near_7 (by decide) (fun c => ?_) (fun c => ?_)
  · have hy := hy.1 c
    refine a_iconst (x := (-1)) dX11_near_27 rfl ⟨by decide, by decide⟩ ?_
    exact a_iret dX11_near_28 rfl hy
  · have hy := hy.2 (c)
    refine a_iload_n dX11_near_10 rfl ?_
    refine a_iconst (x := 0) dX11_near_11 rfl ⟨by decide, by decide⟩ ?_
    refine a_iconst (x := 2) dX11_near_12 rfl ⟨by decide, by decide⟩ ?_
    refine a_callSi (as := [vI p2, vI 0, vI 2]) (st := []) dX11_near_13 lk_M_139 rfl rfl (Nat.le_of_ble_eq_true rfl) (Or.inr rfl) (Call.mono hy (fun r4 h3 _ hy => ?_))
    refine a_if_eq (tgt := 27) dX11_near_16 (by decide) (fun c => ?_) (fun c => ?_)
    · have hy := hy.1 c
      refine a_iconst (x := (-1)) dX11_near_27 rfl ⟨by decide, by decide⟩ ?_
      exact a_iret dX11_near_28 rfl hy
    · have hy := hy.2 (c)
      refine a_iload_n dX11_near_19 rfl ?_
      refine a_aload_n dX11_near_20 rfl ?_
      refine a_getI' (kz := 11) dX11_near_21 fl_M_133 sk_12 rfl rfl (rfl) ?_
      refine a_icmp_le (tgt := 29) dX11_near_24 (by decide) (fun c => ?_) (fun c => ?_)
      · have hy := hy.1 c
        refine a_aload_n dX11_near_29 rfl ?_
        refine a_iload_n dX11_near_30 rfl ?_
        refine a_callVi (as := [vI p1]) (st := []) dX11_near_31 lk_M_147 sk_12 rfl rfl (Nat.le_of_ble_eq_true rfl) (Or.inr rfl) (Call.mono hy (fun r6 h5 _ hy => ?_))
        refine a_if_ne (tgt := 40) dX11_near_34 (by decide) (fun c => ?_) (fun c => ?_)
        · have hy := hy.1 c
          refine a_ldc (x := 1000000000) dX11_near_40 kc_M_129 ⟨by decide, by decide⟩ ?_
          refine a_istore_n (i := 3) (ls2 := [some (vR 12 (-1)), some (vI p1), some (vI p2), some (vI 1000000000), none, none, none, none]) dX11_near_42 rfl (Nat.le_of_ble_eq_true rfl) rfl ?_
          refine a_iconst (x := (-1)) dX11_near_43 rfl ⟨by decide, by decide⟩ ?_
          refine a_istore (ls2 := [some (vR 12 (-1)), some (vI p1), some (vI p2), some (vI 1000000000), some (vI (-1)), none, none, none]) dX11_near_44 (Nat.le_of_ble_eq_true rfl) rfl ?_
          refine a_iconst (x := 0) dX11_near_46 rfl ⟨by decide, by decide⟩ ?_
          refine a_istore (ls2 := [some (vR 12 (-1)), some (vI p1), some (vI p2), some (vI 1000000000), some (vI (-1)), some (vI 0), none, none]) dX11_near_47 (Nat.le_of_ble_eq_true rfl) rfl ?_
          refine a_iconst (x := 0) dX11_near_49 rfl ⟨by decide, by decide⟩ ?_
          refine a_istore (ls2 := [some (vR 12 (-1)), some (vI p1), some (vI p2), some (vI 1000000000), some (vI (-1)), some (vI 0), some (vI 0), none]) dX11_near_50 (Nat.le_of_ble_eq_true rfl) rfl ?_
          refine a_mask [true, false, true, true, true, true, true, true] (ls2 := [some (vR 12 (-1)), none, some (vI p2), some (vI 1000000000), some (vI (-1)), some (vI 0), some (vI 0), none]) rfl rfl ?_
          exact hy
        · have hy := hy.2 (Decidable.not_not.mp c)
          refine a_bipush (x := (-2)) dX11_near_37 (by decide) ⟨by decide, by decide⟩ ?_
          exact a_iret dX11_near_39 rfl hy
      · have hy := hy.2 (Int.not_le.mp c)
        refine a_iconst (x := (-1)) dX11_near_27 rfl ⟨by decide, by decide⟩ ?_
        exact a_iret dX11_near_28 rfl hy
def A_M_newWord_22 (d : Nat) (Q : Int → AH → Prop) (p1 : Int) (h : AH) : Prop := AW d M_M_newWord Q 22 [some (vR 12 (-1)), some (vI p1), none] [] h
def A_M_newWord_44 (d : Nat) (Q : Int → AH → Prop) (p1 : Int) (v2 : Int) (h : AH) : Prop := AW d M_M_newWord Q 44 [some (vR 12 (-1)), some (vI p1), some (vI v2)] [] h
def A_M_newWord_79 (d : Nat) (Q : Int → AH → Prop) (p1 : Int) (v2 : Int) (h : AH) : Prop := AW d M_M_newWord Q 79 [some (vR 12 (-1)), some (vI p1), some (vI v2)] [] h
theorem s_M_newWord_22 {d : Nat} {Q : Int → AH → Prop} {p1 : Int} {h : AH} (hy : Call d M_M_laysWays [vR 12 (-1)] h (fun _ h1 => A_M_newWord_44 d Q p1 0 (wI (wI (wI h1 12 41 0) 12 42 0) 12 43 99))) : A_M_newWord_22 d Q p1 h := by
  show AW d M_M_newWord Q 22 [some (vR 12 (-1)), some (vI p1), none] [] h
  refine a_aload_n dX11_newWord_22 rfl ?_
  refine a_callVv (as := []) (st := []) dX11_newWord_23 lk_M_306 sk_12 rfl rfl (Nat.le_of_ble_eq_true rfl) rfl (Call.mono hy (fun _ h1 _ hy => ?_))
  refine a_aload_n dX11_newWord_26 rfl ?_
  refine a_iconst (x := 0) dX11_newWord_27 rfl ⟨by decide, by decide⟩ ?_
  refine a_putI (kz := 41) dX11_newWord_28 fp_M_345 sk_12 rfl rfl ?_
  refine a_aload_n dX11_newWord_31 rfl ?_
  refine a_iconst (x := 0) dX11_newWord_32 rfl ⟨by decide, by decide⟩ ?_
  refine a_putI (kz := 42) dX11_newWord_33 fp_M_348 sk_12 rfl rfl ?_
  refine a_aload_n dX11_newWord_36 rfl ?_
  refine a_bipush (x := 99) dX11_newWord_37 (by decide) ⟨by decide, by decide⟩ ?_
  refine a_putI (kz := 43) dX11_newWord_39 fp_M_339 sk_12 rfl rfl ?_
  refine a_iconst (x := 0) dX11_newWord_42 rfl ⟨by decide, by decide⟩ ?_
  refine a_istore_n (i := 2) (ls2 := [some (vR 12 (-1)), some (vI p1), some (vI 0)]) dX11_newWord_43 rfl (Nat.le_of_ble_eq_true rfl) rfl ?_
  exact hy
theorem s_M_newWord_44 {d : Nat} {Q : Int → AH → Prop} {p1 : Int} {v2 : Int} {h : AH} (hy : (((h.1 12 0) ≤ v2 → A_M_newWord_79 d Q p1 0 h) ∧ (v2 < (h.1 12 0) → (Call d M_M_isUsed [vR 12 (-1), vI v2] h (fun r2 h1 => ((r2 = 0 → (inI (v2 + 1) ∧ A_M_newWord_44 d Q p1 (v2 + 1) h1)) ∧ (r2 ≠ 0 → (Call d M_M_heapOf [vR 12 (-1), vI v2] h1 (fun r5 h4 => inb v2 40 ∧ (inI (v2 + 1) ∧ A_M_newWord_44 d Q p1 (v2 + 1) (wI h4 85 v2 r5))))))))))) : A_M_newWord_44 d Q p1 v2 h := by
  show AW d M_M_newWord Q 44 [some (vR 12 (-1)), some (vI p1), some (vI v2)] [] h
  refine a_iload_n dX11_newWord_44 rfl ?_
  refine a_aload_n dX11_newWord_45 rfl ?_
  refine a_getI' (kz := 0) dX11_newWord_46 fl_M_130 sk_12 rfl rfl (rfl) ?_
  refine a_icmp_ge (tgt := 77) dX11_newWord_49 (by decide) (fun c => ?_) (fun c => ?_)
  · have hy := hy.1 c
    refine a_iconst (x := 0) dX11_newWord_77 rfl ⟨by decide, by decide⟩ ?_
    refine a_istore_n (i := 2) (ls2 := [some (vR 12 (-1)), some (vI p1), some (vI 0)]) dX11_newWord_78 rfl (Nat.le_of_ble_eq_true rfl) rfl ?_
    exact hy
  · have hy := hy.2 (Int.not_le.mp c)
    refine a_aload_n dX11_newWord_52 rfl ?_
    refine a_iload_n dX11_newWord_53 rfl ?_
    refine a_callVi (as := [vI v2]) (st := []) dX11_newWord_54 lk_M_282 sk_12 rfl rfl (Nat.le_of_ble_eq_true rfl) (Or.inr rfl) (Call.mono hy (fun r2 h1 _ hy => ?_))
    refine a_if_eq (tgt := 71) dX11_newWord_57 (by decide) (fun c => ?_) (fun c => ?_)
    · have hy := hy.1 c
      obtain ⟨c3, hy⟩ := hy
      refine a_iinc (y := v2 + 1) (ls2 := [some (vR 12 (-1)), some (vI p1), some (vI (v2 + 1))]) dX11_newWord_71 rfl rfl c3 rfl ?_
      refine a_goto (tgt := 44) dX11_newWord_74 (by decide) ?_
      exact hy
    · have hy := hy.2 (c)
      refine a_aload_n dX11_newWord_60 rfl ?_
      refine a_getR dX11_newWord_61 fl_M_94 sk_12 rfl ?_
      refine a_iload_n dX11_newWord_64 rfl ?_
      refine a_aload_n dX11_newWord_65 rfl ?_
      refine a_iload_n dX11_newWord_66 rfl ?_
      refine a_callVi (as := [vI v2]) (st := [vI v2, vR 85 (-1)]) dX11_newWord_67 lk_M_326 sk_12 rfl rfl (Nat.le_of_ble_eq_true rfl) (Or.inl rfl) (Call.mono hy (fun r5 h4 _ hy => ?_))
      obtain ⟨c6, hy⟩ := hy
      refine a_iast dX11_newWord_70 sk_85 c6 ?_
      obtain ⟨c7, hy⟩ := hy
      refine a_iinc (y := v2 + 1) (ls2 := [some (vR 12 (-1)), some (vI p1), some (vI (v2 + 1))]) dX11_newWord_71 rfl rfl c7 rfl ?_
      refine a_goto (tgt := 44) dX11_newWord_74 (by decide) ?_
      exact hy
theorem s_M_newWord_79 {d : Nat} {Q : Int → AH → Prop} {p1 : Int} {v2 : Int} {h : AH} (hy : (((h.1 12 0) ≤ v2 → (((h.1 12 41) ≠ 0 → ((p1 ≠ 0 → ((p1 ≠ 1 → ((p1 ≠ 2 → (inI (p1 - 10) ∧ (((h.1 12 43) ≤ (p1 - 10) → Q (-1) h) ∧ ((p1 - 10) < (h.1 12 43) → (inb (p1 - 10) 8 ∧ Q (h.1 84 (p1 - 10)) h))))) ∧ (p1 = 2 → Q (h.1 12 43) h))) ∧ (p1 = 1 → Q (h.1 12 42) h))) ∧ (p1 = 0 → Q (h.1 12 41) h))) ∧ ((h.1 12 41) = 0 → Q (-2) h))) ∧ (v2 < (h.1 12 0) → (Call d M_M_isUsed [vR 12 (-1), vI v2] h (fun r4 h3 => ((r4 = 0 → (inI (v2 + 1) ∧ A_M_newWord_79 d Q p1 (v2 + 1) h3)) ∧ (r4 ≠ 0 → (Call d M_M_triesAbout [vR 12 (-1), vI v2] h3 (fun _ h6 => inI (v2 + 1) ∧ A_M_newWord_79 d Q p1 (v2 + 1) h6))))))))) : A_M_newWord_79 d Q p1 v2 h := by
  show AW d M_M_newWord Q 79 [some (vR 12 (-1)), some (vI p1), some (vI v2)] [] h
  refine a_iload_n dX11_newWord_79 rfl ?_
  refine a_aload_n dX11_newWord_80 rfl ?_
  refine a_getI' (kz := 0) dX11_newWord_81 fl_M_130 sk_12 rfl rfl (rfl) ?_
  refine a_icmp_ge (tgt := 106) dX11_newWord_84 (by decide) (fun c => ?_) (fun c => ?_)
  · have hy := hy.1 c
    refine a_aload_n dX11_newWord_106 rfl ?_
    refine a_getI' (kz := 41) dX11_newWord_107 fl_M_345 sk_12 rfl rfl (rfl) ?_
    refine a_if_ne (tgt := 116) dX11_newWord_110 (by decide) (fun c => ?_) (fun c => ?_)
    · have hy := hy.1 c
      refine a_iload_n dX11_newWord_116 rfl ?_
      refine a_if_ne (tgt := 127) dX11_newWord_117 (by decide) (fun c => ?_) (fun c => ?_)
      · have hy := hy.1 c
        refine a_iload_n dX11_newWord_127 rfl ?_
        refine a_iconst (x := 1) dX11_newWord_128 rfl ⟨by decide, by decide⟩ ?_
        refine a_icmp_ne (tgt := 139) dX11_newWord_129 (by decide) (fun c => ?_) (fun c => ?_)
        · have hy := hy.1 c
          refine a_iload_n dX11_newWord_139 rfl ?_
          refine a_iconst (x := 2) dX11_newWord_140 rfl ⟨by decide, by decide⟩ ?_
          refine a_icmp_ne (tgt := 151) dX11_newWord_141 (by decide) (fun c => ?_) (fun c => ?_)
          · have hy := hy.1 c
            refine a_iload_n dX11_newWord_151 rfl ?_
            refine a_bipush (x := 10) dX11_newWord_152 (by decide) ⟨by decide, by decide⟩ ?_
            obtain ⟨c1, hy⟩ := hy
            refine a_isub dX11_newWord_154 c1 ?_
            refine a_aload_n dX11_newWord_155 rfl ?_
            refine a_getI' (kz := 43) dX11_newWord_156 fl_M_339 sk_12 rfl rfl (rfl) ?_
            refine a_icmp_ge (tgt := 174) dX11_newWord_159 (by decide) (fun c => ?_) (fun c => ?_)
            · have hy := hy.1 c
              refine a_iconst (x := (-1)) dX11_newWord_174 rfl ⟨by decide, by decide⟩ ?_
              exact a_iret dX11_newWord_175 rfl hy
            · have hy := hy.2 (Int.not_le.mp c)
              refine a_aload_n dX11_newWord_162 rfl ?_
              refine a_getR dX11_newWord_163 fl_M_91 sk_12 rfl ?_
              refine a_iload_n dX11_newWord_166 rfl ?_
              refine a_bipush (x := 10) dX11_newWord_167 (by decide) ⟨by decide, by decide⟩ ?_
              refine a_isub dX11_newWord_169 c1 ?_
              obtain ⟨c2, hy⟩ := hy
              refine a_iald' dX11_newWord_170 sk_84 c2 (rfl) ?_
              refine a_goto (tgt := 175) dX11_newWord_171 (by decide) ?_
              exact a_iret dX11_newWord_175 rfl hy
          · have hy := hy.2 (Decidable.not_not.mp c)
            refine a_aload_n dX11_newWord_144 rfl ?_
            refine a_getI' (kz := 43) dX11_newWord_145 fl_M_339 sk_12 rfl rfl (rfl) ?_
            refine a_goto (tgt := 175) dX11_newWord_148 (by decide) ?_
            exact a_iret dX11_newWord_175 rfl hy
        · have hy := hy.2 (Decidable.not_not.mp c)
          refine a_aload_n dX11_newWord_132 rfl ?_
          refine a_getI' (kz := 42) dX11_newWord_133 fl_M_348 sk_12 rfl rfl (rfl) ?_
          refine a_goto (tgt := 175) dX11_newWord_136 (by decide) ?_
          exact a_iret dX11_newWord_175 rfl hy
      · have hy := hy.2 (Decidable.not_not.mp c)
        refine a_aload_n dX11_newWord_120 rfl ?_
        refine a_getI' (kz := 41) dX11_newWord_121 fl_M_345 sk_12 rfl rfl (rfl) ?_
        refine a_goto (tgt := 175) dX11_newWord_124 (by decide) ?_
        exact a_iret dX11_newWord_175 rfl hy
    · have hy := hy.2 (Decidable.not_not.mp c)
      refine a_bipush (x := (-2)) dX11_newWord_113 (by decide) ⟨by decide, by decide⟩ ?_
      exact a_iret dX11_newWord_115 rfl hy
  · have hy := hy.2 (Int.not_le.mp c)
    refine a_aload_n dX11_newWord_87 rfl ?_
    refine a_iload_n dX11_newWord_88 rfl ?_
    refine a_callVi (as := [vI v2]) (st := []) dX11_newWord_89 lk_M_282 sk_12 rfl rfl (Nat.le_of_ble_eq_true rfl) (Or.inr rfl) (Call.mono hy (fun r4 h3 _ hy => ?_))
    refine a_if_eq (tgt := 100) dX11_newWord_92 (by decide) (fun c => ?_) (fun c => ?_)
    · have hy := hy.1 c
      obtain ⟨c5, hy⟩ := hy
      refine a_iinc (y := v2 + 1) (ls2 := [some (vR 12 (-1)), some (vI p1), some (vI (v2 + 1))]) dX11_newWord_100 rfl rfl c5 rfl ?_
      refine a_goto (tgt := 79) dX11_newWord_103 (by decide) ?_
      exact hy
    · have hy := hy.2 (c)
      refine a_aload_n dX11_newWord_95 rfl ?_
      refine a_iload_n dX11_newWord_96 rfl ?_
      refine a_callVv (as := [vI v2]) (st := []) dX11_newWord_97 lk_M_367 sk_12 rfl rfl (Nat.le_of_ble_eq_true rfl) rfl (Call.mono hy (fun _ h6 _ hy => ?_))
      obtain ⟨c7, hy⟩ := hy
      refine a_iinc (y := v2 + 1) (ls2 := [some (vR 12 (-1)), some (vI p1), some (vI (v2 + 1))]) dX11_newWord_100 rfl rfl c7 rfl ?_
      refine a_goto (tgt := 79) dX11_newWord_103 (by decide) ?_
      exact hy
theorem c_M_newWord {d : Nat} (d0 : Nat) (hd : d0 < d) {p1 : Int} {h : AH} {Q : Int → AH → Prop} (hy : Call d0 M_M_in [vI p1, vI 0, vI 2] h (fun r2 h1 => ((r2 ≠ 0 → A_M_newWord_22 d0 Q p1 h1) ∧ (r2 = 0 → (Call d0 M_M_in [vI p1, vI 10, vI 17] h1 (fun r4 h3 => ((r4 ≠ 0 → A_M_newWord_22 d0 Q p1 h3) ∧ (r4 = 0 → Q (-1) h3)))))))) : Call d M_M_newWord [vR 12 (-1), vI p1] h Q := by
  refine ⟨d0, hd, Big.of rfl (Nat.le_of_ble_eq_true rfl) ?_⟩
  show AW d0 M_M_newWord Q 0 [some (vR 12 (-1)), some (vI p1), none] [] h
  refine a_iload_n dX11_newWord_0 rfl ?_
  refine a_iconst (x := 0) dX11_newWord_1 rfl ⟨by decide, by decide⟩ ?_
  refine a_iconst (x := 2) dX11_newWord_2 rfl ⟨by decide, by decide⟩ ?_
  refine a_callSi (as := [vI p1, vI 0, vI 2]) (st := []) dX11_newWord_3 lk_M_139 rfl rfl (Nat.le_of_ble_eq_true rfl) (Or.inr rfl) (Call.mono hy (fun r2 h1 _ hy => ?_))
  refine a_if_ne (tgt := 22) dX11_newWord_6 (by decide) (fun c => ?_) (fun c => ?_)
  · have hy := hy.1 c
    exact hy
  · have hy := hy.2 (Decidable.not_not.mp c)
    refine a_iload_n dX11_newWord_9 rfl ?_
    refine a_bipush (x := 10) dX11_newWord_10 (by decide) ⟨by decide, by decide⟩ ?_
    refine a_bipush (x := 17) dX11_newWord_12 (by decide) ⟨by decide, by decide⟩ ?_
    refine a_callSi (as := [vI p1, vI 10, vI 17]) (st := []) dX11_newWord_14 lk_M_139 rfl rfl (Nat.le_of_ble_eq_true rfl) (Or.inr rfl) (Call.mono hy (fun r4 h3 _ hy => ?_))
    refine a_if_ne (tgt := 22) dX11_newWord_17 (by decide) (fun c => ?_) (fun c => ?_)
    · have hy := hy.1 c
      exact hy
    · have hy := hy.2 (Decidable.not_not.mp c)
      refine a_iconst (x := (-1)) dX11_newWord_20 rfl ⟨by decide, by decide⟩ ?_
      exact a_iret dX11_newWord_21 rfl hy
def A_M_nextOn_2 (d : Nat) (Q : Int → AH → Prop) (p1 : Int) (p2 : Int) (v3 : Int) (h : AH) : Prop := AW d M_M_nextOn Q 2 [some (vR 12 (-1)), some (vI p1), some (vI p2), some (vI v3)] [] h
theorem s_M_nextOn_2 {d : Nat} {Q : Int → AH → Prop} {p1 : Int} {p2 : Int} {v3 : Int} {h : AH} (hy : Call d M_M_stepWay [vR 12 (-1), vI p1, vI v3] h (fun r2 h1 => inI (40 * v3) ∧ (inI ((40 * v3) + p2) ∧ (inb ((40 * v3) + p2) 1600 ∧ (Call d M_M_sum [vI r2, vI (h1.1 81 ((40 * v3) + p2))] h1 (fun r7 h6 => inI (40 * p1) ∧ (inI ((40 * p1) + p2) ∧ (inb ((40 * p1) + p2) 1600 ∧ ((r7 = (h6.1 81 ((40 * p1) + p2)) → Q v3 h6) ∧ (r7 ≠ (h6.1 81 ((40 * p1) + p2)) → (inI (v3 + 1) ∧ A_M_nextOn_2 d Q p1 p2 (v3 + 1) h6))))))))))) : A_M_nextOn_2 d Q p1 p2 v3 h := by
  show AW d M_M_nextOn Q 2 [some (vR 12 (-1)), some (vI p1), some (vI p2), some (vI v3)] [] h
  refine a_aload_n dX11_nextOn_2 rfl ?_
  refine a_iload_n dX11_nextOn_3 rfl ?_
  refine a_iload_n dX11_nextOn_4 rfl ?_
  refine a_callVi (as := [vI p1, vI v3]) (st := []) dX11_nextOn_5 lk_M_297 sk_12 rfl rfl (Nat.le_of_ble_eq_true rfl) (Or.inl rfl) (Call.mono hy (fun r2 h1 _ hy => ?_))
  refine a_aload_n dX11_nextOn_8 rfl ?_
  refine a_getR dX11_nextOn_9 fl_M_81 sk_12 rfl ?_
  refine a_bipush (x := 40) dX11_nextOn_12 (by decide) ⟨by decide, by decide⟩ ?_
  refine a_iload_n dX11_nextOn_14 rfl ?_
  obtain ⟨c3, hy⟩ := hy
  refine a_imul dX11_nextOn_15 c3 ?_
  refine a_iload_n dX11_nextOn_16 rfl ?_
  obtain ⟨c4, hy⟩ := hy
  refine a_iadd dX11_nextOn_17 c4 ?_
  obtain ⟨c5, hy⟩ := hy
  refine a_iald' dX11_nextOn_18 sk_81 c5 (rfl) ?_
  refine a_callSi (as := [vI r2, vI (h1.1 81 ((40 * v3) + p2))]) (st := []) dX11_nextOn_19 lk_M_300 rfl rfl (Nat.le_of_ble_eq_true rfl) (Or.inl rfl) (Call.mono hy (fun r7 h6 _ hy => ?_))
  refine a_aload_n dX11_nextOn_22 rfl ?_
  refine a_getR dX11_nextOn_23 fl_M_81 sk_12 rfl ?_
  refine a_bipush (x := 40) dX11_nextOn_26 (by decide) ⟨by decide, by decide⟩ ?_
  refine a_iload_n dX11_nextOn_28 rfl ?_
  obtain ⟨c8, hy⟩ := hy
  refine a_imul dX11_nextOn_29 c8 ?_
  refine a_iload_n dX11_nextOn_30 rfl ?_
  obtain ⟨c9, hy⟩ := hy
  refine a_iadd dX11_nextOn_31 c9 ?_
  obtain ⟨c10, hy⟩ := hy
  refine a_iald' dX11_nextOn_32 sk_81 c10 (rfl) ?_
  refine a_icmp_eq (tgt := 43) dX11_nextOn_33 (by decide) (fun c => ?_) (fun c => ?_)
  · have hy := hy.1 c
    refine a_iload_n dX11_nextOn_43 rfl ?_
    exact a_iret dX11_nextOn_44 rfl hy
  · have hy := hy.2 (c)
    refine a_iload_n dX11_nextOn_36 rfl ?_
    refine a_iconst (x := 1) dX11_nextOn_37 rfl ⟨by decide, by decide⟩ ?_
    obtain ⟨c11, hy⟩ := hy
    refine a_iadd dX11_nextOn_38 c11 ?_
    refine a_istore_n (i := 3) (ls2 := [some (vR 12 (-1)), some (vI p1), some (vI p2), some (vI (v3 + 1))]) dX11_nextOn_39 rfl (Nat.le_of_ble_eq_true rfl) rfl ?_
    refine a_goto (tgt := 2) dX11_nextOn_40 (by decide) ?_
    exact hy
theorem c_M_nextOn {d : Nat} (d0 : Nat) (hd : d0 < d) {p1 : Int} {p2 : Int} {h : AH} {Q : Int → AH → Prop} (hy : A_M_nextOn_2 d0 Q p1 p2 0 h) : Call d M_M_nextOn [vR 12 (-1), vI p1, vI p2] h Q := by
  refine ⟨d0, hd, Big.of rfl (Nat.le_of_ble_eq_true rfl) ?_⟩
  show AW d0 M_M_nextOn Q 0 [some (vR 12 (-1)), some (vI p1), some (vI p2), none] [] h
  refine a_iconst (x := 0) dX11_nextOn_0 rfl ⟨by decide, by decide⟩ ?_
  refine a_istore_n (i := 3) (ls2 := [some (vR 12 (-1)), some (vI p1), some (vI p2), some (vI 0)]) dX11_nextOn_1 rfl (Nat.le_of_ble_eq_true rfl) rfl ?_
  exact hy
theorem c_M_notes {d : Nat} (d0 : Nat) (hd : d0 < d) {p1 : Int} {p2 : Int} {h : AH} {Q : Int → AH → Prop} (hy : inI (1048576 * p1) ∧ (inI ((1048576 * p1) + p2) ∧ (inb (h.1 12 16) 180 ∧ (inI ((h.1 12 16) + 1) ∧ Q 0 (wI (wI h 65 (h.1 12 16) ((1048576 * p1) + p2)) 12 16 ((h.1 12 16) + 1)))))) : Call d M_M_notes [vR 12 (-1), vI p1, vI p2] h Q := by
  refine ⟨d0, hd, Big.of rfl (Nat.le_of_ble_eq_true rfl) ?_⟩
  show AW d0 M_M_notes Q 0 [some (vR 12 (-1)), some (vI p1), some (vI p2)] [] h
  refine a_aload_n dX11_notes_0 rfl ?_
  refine a_getR dX11_notes_1 fl_M_33 sk_12 rfl ?_
  refine a_aload_n dX11_notes_4 rfl ?_
  refine a_getI' (kz := 16) dX11_notes_5 fl_M_184 sk_12 rfl rfl (rfl) ?_
  refine a_ldc (x := 1048576) dX11_notes_8 kc_M_187 ⟨by decide, by decide⟩ ?_
  refine a_iload_n dX11_notes_10 rfl ?_
  obtain ⟨c1, hy⟩ := hy
  refine a_imul dX11_notes_11 c1 ?_
  refine a_iload_n dX11_notes_12 rfl ?_
  obtain ⟨c2, hy⟩ := hy
  refine a_iadd dX11_notes_13 c2 ?_
  obtain ⟨c3, hy⟩ := hy
  refine a_iast dX11_notes_14 sk_65 c3 ?_
  refine a_aload_n dX11_notes_15 rfl ?_
  refine a_aload_n dX11_notes_16 rfl ?_
  refine a_getI' (kz := 16) dX11_notes_17 fl_M_184 sk_12 rfl rfl (rI_ne (by decide)) ?_
  refine a_iconst (x := 1) dX11_notes_20 rfl ⟨by decide, by decide⟩ ?_
  obtain ⟨c4, hy⟩ := hy
  refine a_iadd dX11_notes_21 c4 ?_
  refine a_putI (kz := 16) dX11_notes_22 fp_M_184 sk_12 rfl rfl ?_
  exact a_vret dX11_notes_25 rfl hy
theorem c_M_off {d : Nat} (d0 : Nat) (hd : d0 < d)  {h : AH} {Q : Int → AH → Prop} (hy : (((h.1 12 0) ≠ 0 → (inI ((h.1 12 0) - 1) ∧ (inb ((h.1 12 0) - 1) 40 ∧ Q (h.1 58 ((h.1 12 0) - 1)) (wI h 12 0 ((h.1 12 0) - 1))))) ∧ ((h.1 12 0) = 0 → Q (-1) h))) : Call d M_M_off [vR 12 (-1)] h Q := by
  refine ⟨d0, hd, Big.of rfl (Nat.le_of_ble_eq_true rfl) ?_⟩
  show AW d0 M_M_off Q 0 [some (vR 12 (-1))] [] h
  refine a_aload_n dX11_off_0 rfl ?_
  refine a_getI' (kz := 0) dX11_off_1 fl_M_130 sk_12 rfl rfl (rfl) ?_
  refine a_if_ne (tgt := 9) dX11_off_4 (by decide) (fun c => ?_) (fun c => ?_)
  · have hy := hy.1 c
    refine a_aload_n dX11_off_9 rfl ?_
    refine a_aload_n dX11_off_10 rfl ?_
    refine a_getI' (kz := 0) dX11_off_11 fl_M_130 sk_12 rfl rfl (rfl) ?_
    refine a_iconst (x := 1) dX11_off_14 rfl ⟨by decide, by decide⟩ ?_
    obtain ⟨c1, hy⟩ := hy
    refine a_isub dX11_off_15 c1 ?_
    refine a_putI (kz := 0) dX11_off_16 fp_M_130 sk_12 rfl rfl ?_
    refine a_aload_n dX11_off_19 rfl ?_
    refine a_getR dX11_off_20 fl_M_7 sk_12 rfl ?_
    refine a_aload_n dX11_off_23 rfl ?_
    refine a_getI' (kz := 0) dX11_off_24 fl_M_130 sk_12 rfl rfl (rI_eq) ?_
    obtain ⟨c2, hy⟩ := hy
    refine a_iald' dX11_off_27 sk_58 c2 (rI_ne (by decide)) ?_
    exact a_iret dX11_off_28 rfl hy
  · have hy := hy.2 (Decidable.not_not.mp c)
    refine a_iconst (x := (-1)) dX11_off_7 rfl ⟨by decide, by decide⟩ ?_
    exact a_iret dX11_off_8 rfl hy
theorem c_M_opens {d : Nat} (d0 : Nat) (hd : d0 < d) {p1 : Int} {h : AH} {Q : Int → AH → Prop} (hy : (((h.1 12 15) ≠ 6 → (inI ((h.1 12 15) + 1) ∧ (inI (1048576 * p1) ∧ (inb (h.1 12 17) 180 ∧ (inI ((h.1 12 17) + 1) ∧ (inI ((h.1 12 12) + 1) ∧ Q 1 (wI (wI (wI (wI h 12 15 ((h.1 12 15) + 1)) 66 (h.1 12 17) (1048576 * p1)) 12 17 ((h.1 12 17) + 1)) 12 12 ((h.1 12 12) + 1)))))))) ∧ ((h.1 12 15) = 6 → (Call d0 M_M_wrongAt [vR 12 (-1), vI 5, vI (h.1 12 12)] h (fun r7 h6 => (r7 = 0 ∨ r7 = 1) ∧ Q r7 h6))))) : Call d M_M_opens [vR 12 (-1), vI p1] h Q := by
  refine ⟨d0, hd, Big.of rfl (Nat.le_of_ble_eq_true rfl) ?_⟩
  show AW d0 M_M_opens Q 0 [some (vR 12 (-1)), some (vI p1)] [] h
  refine a_aload_n dX11_opens_0 rfl ?_
  refine a_getI' (kz := 15) dX11_opens_1 fl_M_188 sk_12 rfl rfl (rfl) ?_
  refine a_bipush (x := 6) dX11_opens_4 (by decide) ⟨by decide, by decide⟩ ?_
  refine a_icmp_ne (tgt := 19) dX11_opens_6 (by decide) (fun c => ?_) (fun c => ?_)
  · have hy := hy.1 c
    refine a_aload_n dX11_opens_19 rfl ?_
    refine a_aload_n dX11_opens_20 rfl ?_
    refine a_getI' (kz := 15) dX11_opens_21 fl_M_188 sk_12 rfl rfl (rfl) ?_
    refine a_iconst (x := 1) dX11_opens_24 rfl ⟨by decide, by decide⟩ ?_
    obtain ⟨c1, hy⟩ := hy
    refine a_iadd dX11_opens_25 c1 ?_
    refine a_putI (kz := 15) dX11_opens_26 fp_M_188 sk_12 rfl rfl ?_
    refine a_aload_n dX11_opens_29 rfl ?_
    refine a_getR dX11_opens_30 fl_M_36 sk_12 rfl ?_
    refine a_aload_n dX11_opens_33 rfl ?_
    refine a_getI' (kz := 17) dX11_opens_34 fl_M_191 sk_12 rfl rfl (rI_nk (by decide)) ?_
    refine a_ldc (x := 1048576) dX11_opens_37 kc_M_187 ⟨by decide, by decide⟩ ?_
    refine a_iload_n dX11_opens_39 rfl ?_
    obtain ⟨c2, hy⟩ := hy
    refine a_imul dX11_opens_40 c2 ?_
    obtain ⟨c3, hy⟩ := hy
    refine a_iast dX11_opens_41 sk_66 c3 ?_
    refine a_aload_n dX11_opens_42 rfl ?_
    refine a_aload_n dX11_opens_43 rfl ?_
    refine a_getI' (kz := 17) dX11_opens_44 fl_M_191 sk_12 rfl rfl ((rI_ne (by decide)).trans (rI_nk (by decide))) ?_
    refine a_iconst (x := 1) dX11_opens_47 rfl ⟨by decide, by decide⟩ ?_
    obtain ⟨c4, hy⟩ := hy
    refine a_iadd dX11_opens_48 c4 ?_
    refine a_putI (kz := 17) dX11_opens_49 fp_M_191 sk_12 rfl rfl ?_
    refine a_aload_n dX11_opens_52 rfl ?_
    refine a_aload_n dX11_opens_53 rfl ?_
    refine a_getI' (kz := 12) dX11_opens_54 fl_M_161 sk_12 rfl rfl ((rI_nk (by decide)).trans ((rI_ne (by decide)).trans (rI_nk (by decide)))) ?_
    refine a_iconst (x := 1) dX11_opens_57 rfl ⟨by decide, by decide⟩ ?_
    obtain ⟨c5, hy⟩ := hy
    refine a_iadd dX11_opens_58 c5 ?_
    refine a_putI (kz := 12) dX11_opens_59 fp_M_161 sk_12 rfl rfl ?_
    refine a_iconst (x := 1) dX11_opens_62 rfl ⟨by decide, by decide⟩ ?_
    exact a_zret dX11_opens_63 rfl (Or.inr rfl) hy
  · have hy := hy.2 (Decidable.not_not.mp c)
    refine a_aload_n dX11_opens_9 rfl ?_
    refine a_iconst (x := 5) dX11_opens_10 rfl ⟨by decide, by decide⟩ ?_
    refine a_aload_n dX11_opens_11 rfl ?_
    refine a_getI' (kz := 12) dX11_opens_12 fl_M_161 sk_12 rfl rfl (rfl) ?_
    refine a_callVi (as := [vI 5, vI (h.1 12 12)]) (st := []) dX11_opens_15 lk_M_174 sk_12 rfl rfl (Nat.le_of_ble_eq_true rfl) (Or.inr rfl) (Call.mono hy (fun r7 h6 _ hy => ?_))
    obtain ⟨c8, hy⟩ := hy
    exact a_zret dX11_opens_18 rfl c8 hy
def A_M_putsIn_15 (d : Nat) (Q : Int → AH → Prop) (p1 : Int) (p2 : Int) (p3 : Int) (v4 : Int) (h : AH) : Prop := AW d M_M_putsIn Q 15 [some (vR 12 (-1)), some (vI p1), some (vI p2), some (vI p3), some (vI v4)] [] h
theorem s_M_putsIn_15 {d : Nat} {Q : Int → AH → Prop} {p1 : Int} {p2 : Int} {p3 : Int} {v4 : Int} {h : AH} (hy : (((h.1 12 9) ≤ v4 → Q 0 h) ∧ (v4 < (h.1 12 9) → ((p2 ≤ v4 → ((v4 ≠ p2 → (inI (v4 - 1) ∧ (Call d M_M_letter [vR 12 (-1), vI p1, vI (v4 - 1)] h (fun r3 h2 => inb v4 12 ∧ (inI (v4 + 1) ∧ A_M_putsIn_15 d Q p1 p2 p3 (v4 + 1) (wI h2 63 v4 r3)))))) ∧ (v4 = p2 → (inb v4 12 ∧ (inI (v4 + 1) ∧ A_M_putsIn_15 d Q p1 p2 p3 (v4 + 1) (wI h 63 v4 p3)))))) ∧ (v4 < p2 → (Call d M_M_letter [vR 12 (-1), vI p1, vI v4] h (fun r9 h8 => inb v4 12 ∧ (inI (v4 + 1) ∧ A_M_putsIn_15 d Q p1 p2 p3 (v4 + 1) (wI h8 63 v4 r9))))))))) : A_M_putsIn_15 d Q p1 p2 p3 v4 h := by
  show AW d M_M_putsIn Q 15 [some (vR 12 (-1)), some (vI p1), some (vI p2), some (vI p3), some (vI v4)] [] h
  refine a_iload dX11_putsIn_15 rfl ?_
  refine a_aload_n dX11_putsIn_17 rfl ?_
  refine a_getI' (kz := 9) dX11_putsIn_18 fl_M_136 sk_12 rfl rfl (rfl) ?_
  refine a_icmp_ge (tgt := 72) dX11_putsIn_21 (by decide) (fun c => ?_) (fun c => ?_)
  · have hy := hy.1 c
    exact a_vret dX11_putsIn_72 rfl hy
  · have hy := hy.2 (Int.not_le.mp c)
    refine a_aload_n dX11_putsIn_24 rfl ?_
    refine a_getR dX11_putsIn_25 fl_M_26 sk_12 rfl ?_
    refine a_iload dX11_putsIn_28 rfl ?_
    refine a_iload dX11_putsIn_30 rfl ?_
    refine a_iload_n dX11_putsIn_32 rfl ?_
    refine a_icmp_ge (tgt := 46) dX11_putsIn_33 (by decide) (fun c => ?_) (fun c => ?_)
    · have hy := hy.1 c
      refine a_iload dX11_putsIn_46 rfl ?_
      refine a_iload_n dX11_putsIn_48 rfl ?_
      refine a_icmp_ne (tgt := 56) dX11_putsIn_49 (by decide) (fun c => ?_) (fun c => ?_)
      · have hy := hy.1 c
        refine a_aload_n dX11_putsIn_56 rfl ?_
        refine a_iload_n dX11_putsIn_57 rfl ?_
        refine a_iload dX11_putsIn_58 rfl ?_
        refine a_iconst (x := 1) dX11_putsIn_60 rfl ⟨by decide, by decide⟩ ?_
        obtain ⟨c1, hy⟩ := hy
        refine a_isub dX11_putsIn_61 c1 ?_
        refine a_callVi (as := [vI p1, vI (v4 - 1)]) (st := [vI v4, vR 63 (-1)]) dX11_putsIn_62 lk_M_262 sk_12 rfl rfl (Nat.le_of_ble_eq_true rfl) (Or.inl rfl) (Call.mono hy (fun r3 h2 _ hy => ?_))
        obtain ⟨c4, hy⟩ := hy
        refine a_iast dX11_putsIn_65 sk_63 c4 ?_
        obtain ⟨c5, hy⟩ := hy
        refine a_iinc (y := v4 + 1) (ls2 := [some (vR 12 (-1)), some (vI p1), some (vI p2), some (vI p3), some (vI (v4 + 1))]) dX11_putsIn_66 rfl rfl c5 rfl ?_
        refine a_goto (tgt := 15) dX11_putsIn_69 (by decide) ?_
        exact hy
      · have hy := hy.2 (Decidable.not_not.mp c)
        refine a_iload_n dX11_putsIn_52 rfl ?_
        refine a_goto (tgt := 65) dX11_putsIn_53 (by decide) ?_
        obtain ⟨c6, hy⟩ := hy
        refine a_iast dX11_putsIn_65 sk_63 c6 ?_
        obtain ⟨c7, hy⟩ := hy
        refine a_iinc (y := v4 + 1) (ls2 := [some (vR 12 (-1)), some (vI p1), some (vI p2), some (vI p3), some (vI (v4 + 1))]) dX11_putsIn_66 rfl rfl c7 rfl ?_
        refine a_goto (tgt := 15) dX11_putsIn_69 (by decide) ?_
        exact hy
    · have hy := hy.2 (Int.not_le.mp c)
      refine a_aload_n dX11_putsIn_36 rfl ?_
      refine a_iload_n dX11_putsIn_37 rfl ?_
      refine a_iload dX11_putsIn_38 rfl ?_
      refine a_callVi (as := [vI p1, vI v4]) (st := [vI v4, vR 63 (-1)]) dX11_putsIn_40 lk_M_262 sk_12 rfl rfl (Nat.le_of_ble_eq_true rfl) (Or.inl rfl) (Call.mono hy (fun r9 h8 _ hy => ?_))
      refine a_goto (tgt := 65) dX11_putsIn_43 (by decide) ?_
      obtain ⟨c10, hy⟩ := hy
      refine a_iast dX11_putsIn_65 sk_63 c10 ?_
      obtain ⟨c11, hy⟩ := hy
      refine a_iinc (y := v4 + 1) (ls2 := [some (vR 12 (-1)), some (vI p1), some (vI p2), some (vI p3), some (vI (v4 + 1))]) dX11_putsIn_66 rfl rfl c11 rfl ?_
      refine a_goto (tgt := 15) dX11_putsIn_69 (by decide) ?_
      exact hy
theorem c_M_putsIn {d : Nat} (d0 : Nat) (hd : d0 < d) {p1 : Int} {p2 : Int} {p3 : Int} {h : AH} {Q : Int → AH → Prop} (hy : inb p1 40 ∧ (inI ((h.1 58 p1) + 1) ∧ A_M_putsIn_15 d0 Q p1 p2 p3 0 (wI h 12 9 ((h.1 58 p1) + 1)))) : Call d M_M_putsIn [vR 12 (-1), vI p1, vI p2, vI p3] h Q := by
  refine ⟨d0, hd, Big.of rfl (Nat.le_of_ble_eq_true rfl) ?_⟩
  show AW d0 M_M_putsIn Q 0 [some (vR 12 (-1)), some (vI p1), some (vI p2), some (vI p3), none] [] h
  refine a_aload_n dX11_putsIn_0 rfl ?_
  refine a_aload_n dX11_putsIn_1 rfl ?_
  refine a_getR dX11_putsIn_2 fl_M_7 sk_12 rfl ?_
  refine a_iload_n dX11_putsIn_5 rfl ?_
  obtain ⟨c1, hy⟩ := hy
  refine a_iald' dX11_putsIn_6 sk_58 c1 (rfl) ?_
  refine a_iconst (x := 1) dX11_putsIn_7 rfl ⟨by decide, by decide⟩ ?_
  obtain ⟨c2, hy⟩ := hy
  refine a_iadd dX11_putsIn_8 c2 ?_
  refine a_putI (kz := 9) dX11_putsIn_9 fp_M_136 sk_12 rfl rfl ?_
  refine a_iconst (x := 0) dX11_putsIn_12 rfl ⟨by decide, by decide⟩ ?_
  refine a_istore (ls2 := [some (vR 12 (-1)), some (vI p1), some (vI p2), some (vI p3), some (vI 0)]) dX11_putsIn_13 (Nat.le_of_ble_eq_true rfl) rfl ?_
  exact hy
def A_M_readsClause_27 (d : Nat) (Q : Int → AH → Prop) (v1 : Int) (h : AH) : Prop := AW d M_M_readsClause Q 27 [some (vR 12 (-1)), some (vI v1)] [] h
def A_M_readsClause_104 (d : Nat) (Q : Int → AH → Prop)  (h : AH) : Prop := AW d M_M_readsClause Q 104 [some (vR 12 (-1)), none] [] h
theorem s_M_readsClause_27 {d : Nat} {Q : Int → AH → Prop} {v1 : Int} {h : AH} (hy : (((h.1 12 18) ≠ 12 → (inb (h.1 12 18) 12 ∧ (inI ((h.1 12 12) + 1) ∧ ((v1 ≠ 99 → A_M_readsClause_104 d Q  (wI (wI (wI (wI (wI h 67 (h.1 12 18) v1) 12 12 ((h.1 12 12) + 1)) 68 (h.1 12 18) (h.1 12 16)) 12 15 0) 12 17 0)) ∧ (v1 = 99 → (Call d M_M_readsSum [vR 12 (-1)] (wI (wI (wI (wI (wI h 67 (h.1 12 18) v1) 12 12 ((h.1 12 12) + 1)) 68 (h.1 12 18) (h.1 12 16)) 12 15 0) 12 17 0) (fun r4 h3 => ((r4 ≠ 0 → A_M_readsClause_104 d Q  h3) ∧ (r4 = 0 → Q 0 h3))))))))) ∧ ((h.1 12 18) = 12 → (Call d M_M_wrongAt [vR 12 (-1), vI 4, vI (h.1 12 12)] h (fun r6 h5 => (r6 = 0 ∨ r6 = 1) ∧ Q r6 h5))))) : A_M_readsClause_27 d Q v1 h := by
  show AW d M_M_readsClause Q 27 [some (vR 12 (-1)), some (vI v1)] [] h
  refine a_aload_n dX11_readsClause_27 rfl ?_
  refine a_getI' (kz := 18) dX11_readsClause_28 fl_M_239 sk_12 rfl rfl (rfl) ?_
  refine a_bipush (x := 12) dX11_readsClause_31 (by decide) ⟨by decide, by decide⟩ ?_
  refine a_icmp_ne (tgt := 46) dX11_readsClause_33 (by decide) (fun c => ?_) (fun c => ?_)
  · have hy := hy.1 c
    refine a_aload_n dX11_readsClause_46 rfl ?_
    refine a_getR dX11_readsClause_47 fl_M_39 sk_12 rfl ?_
    refine a_aload_n dX11_readsClause_50 rfl ?_
    refine a_getI' (kz := 18) dX11_readsClause_51 fl_M_239 sk_12 rfl rfl (rfl) ?_
    refine a_iload_n dX11_readsClause_54 rfl ?_
    obtain ⟨c1, hy⟩ := hy
    refine a_iast dX11_readsClause_55 sk_67 c1 ?_
    refine a_aload_n dX11_readsClause_56 rfl ?_
    refine a_aload_n dX11_readsClause_57 rfl ?_
    refine a_getI' (kz := 12) dX11_readsClause_58 fl_M_161 sk_12 rfl rfl (rI_ne (by decide)) ?_
    refine a_iconst (x := 1) dX11_readsClause_61 rfl ⟨by decide, by decide⟩ ?_
    obtain ⟨c2, hy⟩ := hy
    refine a_iadd dX11_readsClause_62 c2 ?_
    refine a_putI (kz := 12) dX11_readsClause_63 fp_M_161 sk_12 rfl rfl ?_
    refine a_aload_n dX11_readsClause_66 rfl ?_
    refine a_getR dX11_readsClause_67 fl_M_42 sk_12 rfl ?_
    refine a_aload_n dX11_readsClause_70 rfl ?_
    refine a_getI' (kz := 18) dX11_readsClause_71 fl_M_239 sk_12 rfl rfl ((rI_nk (by decide)).trans (rI_ne (by decide))) ?_
    refine a_aload_n dX11_readsClause_74 rfl ?_
    refine a_getI' (kz := 16) dX11_readsClause_75 fl_M_184 sk_12 rfl rfl ((rI_nk (by decide)).trans (rI_ne (by decide))) ?_
    refine a_iast dX11_readsClause_78 sk_68 c1 ?_
    refine a_aload_n dX11_readsClause_79 rfl ?_
    refine a_iconst (x := 0) dX11_readsClause_80 rfl ⟨by decide, by decide⟩ ?_
    refine a_putI (kz := 15) dX11_readsClause_81 fp_M_188 sk_12 rfl rfl ?_
    refine a_aload_n dX11_readsClause_84 rfl ?_
    refine a_iconst (x := 0) dX11_readsClause_85 rfl ⟨by decide, by decide⟩ ?_
    refine a_putI (kz := 17) dX11_readsClause_86 fp_M_191 sk_12 rfl rfl ?_
    refine a_iload_n dX11_readsClause_89 rfl ?_
    refine a_bipush (x := 99) dX11_readsClause_90 (by decide) ⟨by decide, by decide⟩ ?_
    refine a_icmp_ne (tgt := 104) dX11_readsClause_92 (by decide) (fun c => ?_) (fun c => ?_)
    · have hy := hy.1 c
      refine a_mask [true, false] (ls2 := [some (vR 12 (-1)), none]) rfl rfl ?_
      exact hy
    · have hy := hy.2 (Decidable.not_not.mp c)
      refine a_aload_n dX11_readsClause_95 rfl ?_
      refine a_callVi (as := []) (st := []) dX11_readsClause_96 lk_M_224 sk_12 rfl rfl (Nat.le_of_ble_eq_true rfl) (Or.inr rfl) (Call.mono hy (fun r4 h3 _ hy => ?_))
      refine a_if_ne (tgt := 104) dX11_readsClause_99 (by decide) (fun c => ?_) (fun c => ?_)
      · have hy := hy.1 c
        refine a_mask [true, false] (ls2 := [some (vR 12 (-1)), none]) rfl rfl ?_
        exact hy
      · have hy := hy.2 (Decidable.not_not.mp c)
        refine a_iconst (x := 0) dX11_readsClause_102 rfl ⟨by decide, by decide⟩ ?_
        exact a_zret dX11_readsClause_103 rfl (Or.inl rfl) hy
  · have hy := hy.2 (Decidable.not_not.mp c)
    refine a_aload_n dX11_readsClause_36 rfl ?_
    refine a_iconst (x := 4) dX11_readsClause_37 rfl ⟨by decide, by decide⟩ ?_
    refine a_aload_n dX11_readsClause_38 rfl ?_
    refine a_getI' (kz := 12) dX11_readsClause_39 fl_M_161 sk_12 rfl rfl (rfl) ?_
    refine a_callVi (as := [vI 4, vI (h.1 12 12)]) (st := []) dX11_readsClause_42 lk_M_174 sk_12 rfl rfl (Nat.le_of_ble_eq_true rfl) (Or.inr rfl) (Call.mono hy (fun r6 h5 _ hy => ?_))
    obtain ⟨c7, hy⟩ := hy
    exact a_zret dX11_readsClause_45 rfl c7 hy
theorem s_M_readsClause_104 {d : Nat} {Q : Int → AH → Prop}  {h : AH} (hy : inb (h.1 12 18) 12 ∧ (Call d M_M_readsCondition [vR 12 (-1)] (wI h 69 (h.1 12 18) (h.1 12 16)) (fun r3 h2 => ((r3 ≠ 0 → (inb (h2.1 12 18) 12 ∧ (inI ((h2.1 12 18) + 1) ∧ Q 1 (wI (wI h2 70 (h2.1 12 18) (h2.1 12 16)) 12 18 ((h2.1 12 18) + 1))))) ∧ (r3 = 0 → Q 0 h2))))) : A_M_readsClause_104 d Q  h := by
  show AW d M_M_readsClause Q 104 [some (vR 12 (-1)), none] [] h
  refine a_aload_n dX11_readsClause_104 rfl ?_
  refine a_getR dX11_readsClause_105 fl_M_45 sk_12 rfl ?_
  refine a_aload_n dX11_readsClause_108 rfl ?_
  refine a_getI' (kz := 18) dX11_readsClause_109 fl_M_239 sk_12 rfl rfl (rfl) ?_
  refine a_aload_n dX11_readsClause_112 rfl ?_
  refine a_getI' (kz := 16) dX11_readsClause_113 fl_M_184 sk_12 rfl rfl (rfl) ?_
  obtain ⟨c1, hy⟩ := hy
  refine a_iast dX11_readsClause_116 sk_69 c1 ?_
  refine a_aload_n dX11_readsClause_117 rfl ?_
  refine a_callVi (as := []) (st := []) dX11_readsClause_118 lk_M_242 sk_12 rfl rfl (Nat.le_of_ble_eq_true rfl) (Or.inr rfl) (Call.mono hy (fun r3 h2 _ hy => ?_))
  refine a_if_ne (tgt := 126) dX11_readsClause_121 (by decide) (fun c => ?_) (fun c => ?_)
  · have hy := hy.1 c
    refine a_aload_n dX11_readsClause_126 rfl ?_
    refine a_getR dX11_readsClause_127 fl_M_48 sk_12 rfl ?_
    refine a_aload_n dX11_readsClause_130 rfl ?_
    refine a_getI' (kz := 18) dX11_readsClause_131 fl_M_239 sk_12 rfl rfl (rfl) ?_
    refine a_aload_n dX11_readsClause_134 rfl ?_
    refine a_getI' (kz := 16) dX11_readsClause_135 fl_M_184 sk_12 rfl rfl (rfl) ?_
    obtain ⟨c4, hy⟩ := hy
    refine a_iast dX11_readsClause_138 sk_70 c4 ?_
    refine a_aload_n dX11_readsClause_139 rfl ?_
    refine a_aload_n dX11_readsClause_140 rfl ?_
    refine a_getI' (kz := 18) dX11_readsClause_141 fl_M_239 sk_12 rfl rfl (rI_ne (by decide)) ?_
    refine a_iconst (x := 1) dX11_readsClause_144 rfl ⟨by decide, by decide⟩ ?_
    obtain ⟨c5, hy⟩ := hy
    refine a_iadd dX11_readsClause_145 c5 ?_
    refine a_putI (kz := 18) dX11_readsClause_146 fp_M_239 sk_12 rfl rfl ?_
    refine a_iconst (x := 1) dX11_readsClause_149 rfl ⟨by decide, by decide⟩ ?_
    exact a_zret dX11_readsClause_150 rfl (Or.inr rfl) hy
  · have hy := hy.2 (Decidable.not_not.mp c)
    refine a_iconst (x := 0) dX11_readsClause_124 rfl ⟨by decide, by decide⟩ ?_
    exact a_zret dX11_readsClause_125 rfl (Or.inl rfl) hy
theorem c_M_readsClause {d : Nat} (d0 : Nat) (hd : d0 < d)  {h : AH} {Q : Int → AH → Prop} (hy : Call d0 M_M_here [vR 12 (-1)] h (fun r2 h1 => ((r2 = 110 → A_M_readsClause_27 d0 Q r2 h1) ∧ (r2 ≠ 110 → ((r2 = 99 → A_M_readsClause_27 d0 Q r2 h1) ∧ (r2 ≠ 99 → (Call d0 M_M_wrongAt [vR 12 (-1), vI 1, vI (h1.1 12 12)] h1 (fun r4 h3 => (r4 = 0 ∨ r4 = 1) ∧ Q r4 h3)))))))) : Call d M_M_readsClause [vR 12 (-1)] h Q := by
  refine ⟨d0, hd, Big.of rfl (Nat.le_of_ble_eq_true rfl) ?_⟩
  show AW d0 M_M_readsClause Q 0 [some (vR 12 (-1)), none] [] h
  refine a_aload_n dX11_readsClause_0 rfl ?_
  refine a_callVi (as := []) (st := []) dX11_readsClause_1 lk_M_167 sk_12 rfl rfl (Nat.le_of_ble_eq_true rfl) (Or.inl rfl) (Call.mono hy (fun r2 h1 _ hy => ?_))
  refine a_istore_n (i := 1) (ls2 := [some (vR 12 (-1)), some (vI r2)]) dX11_readsClause_4 rfl (Nat.le_of_ble_eq_true rfl) rfl ?_
  refine a_iload_n dX11_readsClause_5 rfl ?_
  refine a_bipush (x := 110) dX11_readsClause_6 (by decide) ⟨by decide, by decide⟩ ?_
  refine a_icmp_eq (tgt := 27) dX11_readsClause_8 (by decide) (fun c => ?_) (fun c => ?_)
  · have hy := hy.1 c
    exact hy
  · have hy := hy.2 (c)
    refine a_iload_n dX11_readsClause_11 rfl ?_
    refine a_bipush (x := 99) dX11_readsClause_12 (by decide) ⟨by decide, by decide⟩ ?_
    refine a_icmp_eq (tgt := 27) dX11_readsClause_14 (by decide) (fun c => ?_) (fun c => ?_)
    · have hy := hy.1 c
      exact hy
    · have hy := hy.2 (c)
      refine a_aload_n dX11_readsClause_17 rfl ?_
      refine a_iconst (x := 1) dX11_readsClause_18 rfl ⟨by decide, by decide⟩ ?_
      refine a_aload_n dX11_readsClause_19 rfl ?_
      refine a_getI' (kz := 12) dX11_readsClause_20 fl_M_161 sk_12 rfl rfl (rfl) ?_
      refine a_callVi (as := [vI 1, vI (h1.1 12 12)]) (st := []) dX11_readsClause_23 lk_M_174 sk_12 rfl rfl (Nat.le_of_ble_eq_true rfl) (Or.inr rfl) (Call.mono hy (fun r4 h3 _ hy => ?_))
      obtain ⟨c5, hy⟩ := hy
      exact a_zret dX11_readsClause_26 rfl c5 hy
def A_M_readsCompared_52 (d : Nat) (Q : Int → AH → Prop) (s0 : Int) (h : AH) : Prop := AW d M_M_readsCompared Q 52 [some (vR 12 (-1)), none] [vI s0] h
theorem s_M_readsCompared_52 {d : Nat} {Q : Int → AH → Prop} {s0 : Int} {h : AH} (hy : ((s0 ≠ (-1) → (inI ((h.1 12 12) + 1) ∧ (Call d M_M_readsSum [vR 12 (-1)] (wI h 12 12 ((h.1 12 12) + 1)) (fun r3 h2 => ((r3 ≠ 0 → (Call d M_M_notes [vR 12 (-1), vI s0, vI 0] h2 (fun _ h4 => Call d M_M_endsPiece [vR 12 (-1)] h4 (fun _ h5 => Q 1 h5)))) ∧ (r3 = 0 → Q 0 h2)))))) ∧ (s0 = (-1) → (Call d M_M_wrongAt [vR 12 (-1), vI 1, vI (h.1 12 12)] h (fun r7 h6 => (r7 = 0 ∨ r7 = 1) ∧ Q r7 h6))))) : A_M_readsCompared_52 d Q s0 h := by
  show AW d M_M_readsCompared Q 52 [some (vR 12 (-1)), none] [vI s0] h
  refine a_istore_n (i := 1) (ls2 := [some (vR 12 (-1)), some (vI s0)]) dX11_readsCompared_52 rfl (Nat.le_of_ble_eq_true rfl) rfl ?_
  refine a_iload_n dX11_readsCompared_53 rfl ?_
  refine a_iconst (x := (-1)) dX11_readsCompared_54 rfl ⟨by decide, by decide⟩ ?_
  refine a_icmp_ne (tgt := 68) dX11_readsCompared_55 (by decide) (fun c => ?_) (fun c => ?_)
  · have hy := hy.1 c
    refine a_aload_n dX11_readsCompared_68 rfl ?_
    refine a_aload_n dX11_readsCompared_69 rfl ?_
    refine a_getI' (kz := 12) dX11_readsCompared_70 fl_M_161 sk_12 rfl rfl (rfl) ?_
    refine a_iconst (x := 1) dX11_readsCompared_73 rfl ⟨by decide, by decide⟩ ?_
    obtain ⟨c1, hy⟩ := hy
    refine a_iadd dX11_readsCompared_74 c1 ?_
    refine a_putI (kz := 12) dX11_readsCompared_75 fp_M_161 sk_12 rfl rfl ?_
    refine a_aload_n dX11_readsCompared_78 rfl ?_
    refine a_callVi (as := []) (st := []) dX11_readsCompared_79 lk_M_224 sk_12 rfl rfl (Nat.le_of_ble_eq_true rfl) (Or.inr rfl) (Call.mono hy (fun r3 h2 _ hy => ?_))
    refine a_if_ne (tgt := 87) dX11_readsCompared_82 (by decide) (fun c => ?_) (fun c => ?_)
    · have hy := hy.1 c
      refine a_aload_n dX11_readsCompared_87 rfl ?_
      refine a_iload_n dX11_readsCompared_88 rfl ?_
      refine a_iconst (x := 0) dX11_readsCompared_89 rfl ⟨by decide, by decide⟩ ?_
      refine a_callVv (as := [vI s0, vI 0]) (st := []) dX11_readsCompared_90 lk_M_197 sk_12 rfl rfl (Nat.le_of_ble_eq_true rfl) rfl (Call.mono hy (fun _ h4 _ hy => ?_))
      refine a_aload_n dX11_readsCompared_93 rfl ?_
      refine a_callVv (as := []) (st := []) dX11_readsCompared_94 lk_M_227 sk_12 rfl rfl (Nat.le_of_ble_eq_true rfl) rfl (Call.mono hy (fun _ h5 _ hy => ?_))
      refine a_iconst (x := 1) dX11_readsCompared_97 rfl ⟨by decide, by decide⟩ ?_
      exact a_zret dX11_readsCompared_98 rfl (Or.inr rfl) hy
    · have hy := hy.2 (Decidable.not_not.mp c)
      refine a_iconst (x := 0) dX11_readsCompared_85 rfl ⟨by decide, by decide⟩ ?_
      exact a_zret dX11_readsCompared_86 rfl (Or.inl rfl) hy
  · have hy := hy.2 (Decidable.not_not.mp c)
    refine a_aload_n dX11_readsCompared_58 rfl ?_
    refine a_iconst (x := 1) dX11_readsCompared_59 rfl ⟨by decide, by decide⟩ ?_
    refine a_aload_n dX11_readsCompared_60 rfl ?_
    refine a_getI' (kz := 12) dX11_readsCompared_61 fl_M_161 sk_12 rfl rfl (rfl) ?_
    refine a_callVi (as := [vI 1, vI (h.1 12 12)]) (st := []) dX11_readsCompared_64 lk_M_174 sk_12 rfl rfl (Nat.le_of_ble_eq_true rfl) (Or.inr rfl) (Call.mono hy (fun r7 h6 _ hy => ?_))
    obtain ⟨c8, hy⟩ := hy
    exact a_zret dX11_readsCompared_67 rfl c8 hy
theorem c_M_readsCompared {d : Nat} (d0 : Nat) (hd : d0 < d)  {h : AH} {Q : Int → AH → Prop} (hy : Call d0 M_M_readsSum [vR 12 (-1)] h (fun r2 h1 => ((r2 ≠ 0 → (Call d0 M_M_here [vR 12 (-1)] h1 (fun r4 h3 => ((r4 ≠ 60 → (Call d0 M_M_here [vR 12 (-1)] h3 (fun r6 h5 => ((r6 ≠ 62 → (Call d0 M_M_here [vR 12 (-1)] h5 (fun r8 h7 => A_M_readsCompared_52 d0 Q (if r8 = 61 then (9 : Int) else (-1)) h7))) ∧ (r6 = 62 → A_M_readsCompared_52 d0 Q 8 h5))))) ∧ (r4 = 60 → A_M_readsCompared_52 d0 Q 7 h3))))) ∧ (r2 = 0 → Q 0 h1)))) : Call d M_M_readsCompared [vR 12 (-1)] h Q := by
  refine ⟨d0, hd, Big.of rfl (Nat.le_of_ble_eq_true rfl) ?_⟩
  show AW d0 M_M_readsCompared Q 0 [some (vR 12 (-1)), none] [] h
  refine a_aload_n dX11_readsCompared_0 rfl ?_
  refine a_callVi (as := []) (st := []) dX11_readsCompared_1 lk_M_224 sk_12 rfl rfl (Nat.le_of_ble_eq_true rfl) (Or.inr rfl) (Call.mono hy (fun r2 h1 _ hy => ?_))
  refine a_if_ne (tgt := 9) dX11_readsCompared_4 (by decide) (fun c => ?_) (fun c => ?_)
  · have hy := hy.1 c
    refine a_aload_n dX11_readsCompared_9 rfl ?_
    refine a_callVi (as := []) (st := []) dX11_readsCompared_10 lk_M_167 sk_12 rfl rfl (Nat.le_of_ble_eq_true rfl) (Or.inl rfl) (Call.mono hy (fun r4 h3 _ hy => ?_))
    refine a_bipush (x := 60) dX11_readsCompared_13 (by decide) ⟨by decide, by decide⟩ ?_
    refine a_icmp_ne (tgt := 23) dX11_readsCompared_15 (by decide) (fun c => ?_) (fun c => ?_)
    · have hy := hy.1 c
      refine a_aload_n dX11_readsCompared_23 rfl ?_
      refine a_callVi (as := []) (st := []) dX11_readsCompared_24 lk_M_167 sk_12 rfl rfl (Nat.le_of_ble_eq_true rfl) (Or.inl rfl) (Call.mono hy (fun r6 h5 _ hy => ?_))
      refine a_bipush (x := 62) dX11_readsCompared_27 (by decide) ⟨by decide, by decide⟩ ?_
      refine a_icmp_ne (tgt := 37) dX11_readsCompared_29 (by decide) (fun c => ?_) (fun c => ?_)
      · have hy := hy.1 c
        refine a_aload_n dX11_readsCompared_37 rfl ?_
        refine a_callVi (as := []) (st := []) dX11_readsCompared_38 lk_M_167 sk_12 rfl rfl (Nat.le_of_ble_eq_true rfl) (Or.inl rfl) (Call.mono hy (fun r8 h7 _ hy => ?_))
        refine a_bipush (x := 61) dX11_readsCompared_41 (by decide) ⟨by decide, by decide⟩ ?_
        have J : AW d0 M_M_readsCompared Q 52 [some (vR 12 (-1)), none] [vI (if r8 = 61 then (9 : Int) else (-1))] h7 := by
          exact hy
        refine a_icmp_ne (tgt := 51) dX11_readsCompared_43 (by decide) (fun e9 => ?_) (fun e9 => ?_)
        · refine a_iconst (x := (-1)) dX11_readsCompared_51 rfl ⟨by decide, by decide⟩ ?_
          exact a_cast (by first | rfl | simp only [if_neg e9]) (by first | rfl | simp only [if_neg e9]) J
        · refine a_bipush (x := 9) dX11_readsCompared_46 (by decide) ⟨by decide, by decide⟩ ?_
          refine a_goto (tgt := 52) dX11_readsCompared_48 (by decide) ?_
          exact a_cast (by first | rfl | simp only [if_pos (Decidable.not_not.mp e9)]) (by first | rfl | simp only [if_pos (Decidable.not_not.mp e9)]) J
      · have hy := hy.2 (Decidable.not_not.mp c)
        refine a_bipush (x := 8) dX11_readsCompared_32 (by decide) ⟨by decide, by decide⟩ ?_
        refine a_goto (tgt := 52) dX11_readsCompared_34 (by decide) ?_
        exact hy
    · have hy := hy.2 (Decidable.not_not.mp c)
      refine a_bipush (x := 7) dX11_readsCompared_18 (by decide) ⟨by decide, by decide⟩ ?_
      refine a_goto (tgt := 52) dX11_readsCompared_20 (by decide) ?_
      exact hy
  · have hy := hy.2 (Decidable.not_not.mp c)
    refine a_iconst (x := 0) dX11_readsCompared_7 rfl ⟨by decide, by decide⟩ ?_
    exact a_zret dX11_readsCompared_8 rfl (Or.inl rfl) hy
def A_M_readsCondition_40 (d : Nat) (Q : Int → AH → Prop)  (h : AH) : Prop := AW d M_M_readsCondition Q 40 [some (vR 12 (-1))] [] h
def A_M_readsCondition_58 (d : Nat) (Q : Int → AH → Prop)  (h : AH) : Prop := AW d M_M_readsCondition Q 58 [some (vR 12 (-1))] [] h
def A_M_readsCondition_92 (d : Nat) (Q : Int → AH → Prop)  (h : AH) : Prop := AW d M_M_readsCondition Q 92 [some (vR 12 (-1))] [] h
def A_M_readsCondition_180 (d : Nat) (Q : Int → AH → Prop)  (h : AH) : Prop := AW d M_M_readsCondition Q 180 [some (vR 12 (-1))] [] h
theorem s_M_readsCondition_40 {d : Nat} {Q : Int → AH → Prop}  {h : AH} (hy : Call d M_M_here [vR 12 (-1)] h (fun r2 h1 => ((r2 = 33 → A_M_readsCondition_58 d Q  h1) ∧ (r2 ≠ 33 → (Call d M_M_here [vR 12 (-1)] h1 (fun r4 h3 => ((r4 ≠ 40 → (Call d M_M_readsCompared [vR 12 (-1)] h3 (fun r6 h5 => ((r6 ≠ 0 → A_M_readsCondition_92 d Q  h5) ∧ (r6 = 0 → Q 0 h5))))) ∧ (r4 = 40 → A_M_readsCondition_58 d Q  h3)))))))) : A_M_readsCondition_40 d Q  h := by
  show AW d M_M_readsCondition Q 40 [some (vR 12 (-1))] [] h
  refine a_aload_n dX11_readsCondition_40 rfl ?_
  refine a_callVi (as := []) (st := []) dX11_readsCondition_41 lk_M_167 sk_12 rfl rfl (Nat.le_of_ble_eq_true rfl) (Or.inl rfl) (Call.mono hy (fun r2 h1 _ hy => ?_))
  refine a_bipush (x := 33) dX11_readsCondition_44 (by decide) ⟨by decide, by decide⟩ ?_
  refine a_icmp_eq (tgt := 58) dX11_readsCondition_46 (by decide) (fun c => ?_) (fun c => ?_)
  · have hy := hy.1 c
    exact hy
  · have hy := hy.2 (c)
    refine a_aload_n dX11_readsCondition_49 rfl ?_
    refine a_callVi (as := []) (st := []) dX11_readsCondition_50 lk_M_167 sk_12 rfl rfl (Nat.le_of_ble_eq_true rfl) (Or.inl rfl) (Call.mono hy (fun r4 h3 _ hy => ?_))
    refine a_bipush (x := 40) dX11_readsCondition_53 (by decide) ⟨by decide, by decide⟩ ?_
    refine a_icmp_ne (tgt := 83) dX11_readsCondition_55 (by decide) (fun c => ?_) (fun c => ?_)
    · have hy := hy.1 c
      refine a_aload_n dX11_readsCondition_83 rfl ?_
      refine a_callVi (as := []) (st := []) dX11_readsCondition_84 lk_M_230 sk_12 rfl rfl (Nat.le_of_ble_eq_true rfl) (Or.inr rfl) (Call.mono hy (fun r6 h5 _ hy => ?_))
      refine a_if_ne (tgt := 92) dX11_readsCondition_87 (by decide) (fun c => ?_) (fun c => ?_)
      · have hy := hy.1 c
        exact hy
      · have hy := hy.2 (Decidable.not_not.mp c)
        refine a_iconst (x := 0) dX11_readsCondition_90 rfl ⟨by decide, by decide⟩ ?_
        exact a_zret dX11_readsCondition_91 rfl (Or.inl rfl) hy
    · have hy := hy.2 (Decidable.not_not.mp c)
      exact hy
theorem s_M_readsCondition_58 {d : Nat} {Q : Int → AH → Prop}  {h : AH} (hy : Call d M_M_here [vR 12 (-1)] h (fun r2 h1 => Call d M_M_opens [vR 12 (-1), vI (if r2 = 33 then (10 : Int) else 13)] h1 (fun r4 h3 => ((r4 ≠ 0 → A_M_readsCondition_40 d Q  h3) ∧ (r4 = 0 → Q 0 h3))))) : A_M_readsCondition_58 d Q  h := by
  show AW d M_M_readsCondition Q 58 [some (vR 12 (-1))] [] h
  refine a_aload_n dX11_readsCondition_58 rfl ?_
  refine a_aload_n dX11_readsCondition_59 rfl ?_
  refine a_callVi (as := []) (st := [vR 12 (-1)]) dX11_readsCondition_60 lk_M_167 sk_12 rfl rfl (Nat.le_of_ble_eq_true rfl) (Or.inl rfl) (Call.mono hy (fun r2 h1 _ hy => ?_))
  refine a_bipush (x := 33) dX11_readsCondition_63 (by decide) ⟨by decide, by decide⟩ ?_
  have J : AW d M_M_readsCondition Q 75 [some (vR 12 (-1))] [vI (if r2 = 33 then (10 : Int) else 13), vR 12 (-1)] h1 := by
    refine a_callVi (as := [vI (if r2 = 33 then (10 : Int) else 13)]) (st := []) dX11_readsCondition_75 lk_M_201 sk_12 rfl rfl (Nat.le_of_ble_eq_true rfl) (Or.inr rfl) (Call.mono hy (fun r4 h3 _ hy => ?_))
    refine a_if_ne (tgt := 40) dX11_readsCondition_78 (by decide) (fun c => ?_) (fun c => ?_)
    · have hy := hy.1 c
      exact hy
    · have hy := hy.2 (Decidable.not_not.mp c)
      refine a_iconst (x := 0) dX11_readsCondition_81 rfl ⟨by decide, by decide⟩ ?_
      exact a_zret dX11_readsCondition_82 rfl (Or.inl rfl) hy
  refine a_icmp_ne (tgt := 73) dX11_readsCondition_65 (by decide) (fun e5 => ?_) (fun e5 => ?_)
  · refine a_bipush (x := 13) dX11_readsCondition_73 (by decide) ⟨by decide, by decide⟩ ?_
    exact a_cast (by first | rfl | simp only [if_neg e5]) (by first | rfl | simp only [if_neg e5]) J
  · refine a_bipush (x := 10) dX11_readsCondition_68 (by decide) ⟨by decide, by decide⟩ ?_
    refine a_goto (tgt := 75) dX11_readsCondition_70 (by decide) ?_
    exact a_cast (by first | rfl | simp only [if_pos (Decidable.not_not.mp e5)]) (by first | rfl | simp only [if_pos (Decidable.not_not.mp e5)]) J
theorem s_M_readsCondition_92 {d : Nat} {Q : Int → AH → Prop}  {h : AH} (hy : Call d M_M_here [vR 12 (-1)] h (fun r2 h1 => ((r2 ≠ 41 → (Call d M_M_here [vR 12 (-1)] h1 (fun r4 h3 => ((r4 = 38 → A_M_readsCondition_180 d Q  h3) ∧ (r4 ≠ 38 → (Call d M_M_here [vR 12 (-1)] h3 (fun r6 h5 => ((r6 = 124 → A_M_readsCondition_180 d Q  h5) ∧ (r6 ≠ 124 → (Call d M_M_wrongAt [vR 12 (-1), vI 1, vI (h5.1 12 12)] h5 (fun r8 h7 => (r8 = 0 ∨ r8 = 1) ∧ Q r8 h7))))))))))) ∧ (r2 = 41 → (Call d M_M_lands [vR 12 (-1), vI 1] h1 (fun _ h10 => inI ((h10.1 12 17) - 1) ∧ (inI ((h10.1 12 15) - 1) ∧ (inI ((h10.1 12 12) + 1) ∧ ((((h10.1 12 17) - 1) ≠ 0 → (Call d M_M_endsPiece [vR 12 (-1)] (wI (wI (wI h10 12 17 ((h10.1 12 17) - 1)) 12 15 ((h10.1 12 15) - 1)) 12 12 ((h10.1 12 12) + 1)) (fun _ h14 => A_M_readsCondition_92 d Q  h14))) ∧ (((h10.1 12 17) - 1) = 0 → Q 1 (wI (wI (wI h10 12 17 ((h10.1 12 17) - 1)) 12 15 ((h10.1 12 15) - 1)) 12 12 ((h10.1 12 12) + 1)))))))))))) : A_M_readsCondition_92 d Q  h := by
  show AW d M_M_readsCondition Q 92 [some (vR 12 (-1))] [] h
  refine a_aload_n dX11_readsCondition_92 rfl ?_
  refine a_callVi (as := []) (st := []) dX11_readsCondition_93 lk_M_167 sk_12 rfl rfl (Nat.le_of_ble_eq_true rfl) (Or.inl rfl) (Call.mono hy (fun r2 h1 _ hy => ?_))
  refine a_bipush (x := 41) dX11_readsCondition_96 (by decide) ⟨by decide, by decide⟩ ?_
  refine a_icmp_ne (tgt := 152) dX11_readsCondition_98 (by decide) (fun c => ?_) (fun c => ?_)
  · have hy := hy.1 c
    refine a_aload_n dX11_readsCondition_152 rfl ?_
    refine a_callVi (as := []) (st := []) dX11_readsCondition_153 lk_M_167 sk_12 rfl rfl (Nat.le_of_ble_eq_true rfl) (Or.inl rfl) (Call.mono hy (fun r4 h3 _ hy => ?_))
    refine a_bipush (x := 38) dX11_readsCondition_156 (by decide) ⟨by decide, by decide⟩ ?_
    refine a_icmp_eq (tgt := 180) dX11_readsCondition_158 (by decide) (fun c => ?_) (fun c => ?_)
    · have hy := hy.1 c
      exact hy
    · have hy := hy.2 (c)
      refine a_aload_n dX11_readsCondition_161 rfl ?_
      refine a_callVi (as := []) (st := []) dX11_readsCondition_162 lk_M_167 sk_12 rfl rfl (Nat.le_of_ble_eq_true rfl) (Or.inl rfl) (Call.mono hy (fun r6 h5 _ hy => ?_))
      refine a_bipush (x := 124) dX11_readsCondition_165 (by decide) ⟨by decide, by decide⟩ ?_
      refine a_icmp_eq (tgt := 180) dX11_readsCondition_167 (by decide) (fun c => ?_) (fun c => ?_)
      · have hy := hy.1 c
        exact hy
      · have hy := hy.2 (c)
        refine a_aload_n dX11_readsCondition_170 rfl ?_
        refine a_iconst (x := 1) dX11_readsCondition_171 rfl ⟨by decide, by decide⟩ ?_
        refine a_aload_n dX11_readsCondition_172 rfl ?_
        refine a_getI' (kz := 12) dX11_readsCondition_173 fl_M_161 sk_12 rfl rfl (rfl) ?_
        refine a_callVi (as := [vI 1, vI (h5.1 12 12)]) (st := []) dX11_readsCondition_176 lk_M_174 sk_12 rfl rfl (Nat.le_of_ble_eq_true rfl) (Or.inr rfl) (Call.mono hy (fun r8 h7 _ hy => ?_))
        obtain ⟨c9, hy⟩ := hy
        exact a_zret dX11_readsCondition_179 rfl c9 hy
  · have hy := hy.2 (Decidable.not_not.mp c)
    refine a_aload_n dX11_readsCondition_101 rfl ?_
    refine a_iconst (x := 1) dX11_readsCondition_102 rfl ⟨by decide, by decide⟩ ?_
    refine a_callVv (as := [vI 1]) (st := []) dX11_readsCondition_103 lk_M_233 sk_12 rfl rfl (Nat.le_of_ble_eq_true rfl) rfl (Call.mono hy (fun _ h10 _ hy => ?_))
    refine a_aload_n dX11_readsCondition_106 rfl ?_
    refine a_aload_n dX11_readsCondition_107 rfl ?_
    refine a_getI' (kz := 17) dX11_readsCondition_108 fl_M_191 sk_12 rfl rfl (rfl) ?_
    refine a_iconst (x := 1) dX11_readsCondition_111 rfl ⟨by decide, by decide⟩ ?_
    obtain ⟨c11, hy⟩ := hy
    refine a_isub dX11_readsCondition_112 c11 ?_
    refine a_putI (kz := 17) dX11_readsCondition_113 fp_M_191 sk_12 rfl rfl ?_
    refine a_aload_n dX11_readsCondition_116 rfl ?_
    refine a_aload_n dX11_readsCondition_117 rfl ?_
    refine a_getI' (kz := 15) dX11_readsCondition_118 fl_M_188 sk_12 rfl rfl (rI_nk (by decide)) ?_
    refine a_iconst (x := 1) dX11_readsCondition_121 rfl ⟨by decide, by decide⟩ ?_
    obtain ⟨c12, hy⟩ := hy
    refine a_isub dX11_readsCondition_122 c12 ?_
    refine a_putI (kz := 15) dX11_readsCondition_123 fp_M_188 sk_12 rfl rfl ?_
    refine a_aload_n dX11_readsCondition_126 rfl ?_
    refine a_aload_n dX11_readsCondition_127 rfl ?_
    refine a_getI' (kz := 12) dX11_readsCondition_128 fl_M_161 sk_12 rfl rfl ((rI_nk (by decide)).trans (rI_nk (by decide))) ?_
    refine a_iconst (x := 1) dX11_readsCondition_131 rfl ⟨by decide, by decide⟩ ?_
    obtain ⟨c13, hy⟩ := hy
    refine a_iadd dX11_readsCondition_132 c13 ?_
    refine a_putI (kz := 12) dX11_readsCondition_133 fp_M_161 sk_12 rfl rfl ?_
    refine a_aload_n dX11_readsCondition_136 rfl ?_
    refine a_getI' (kz := 17) dX11_readsCondition_137 fl_M_191 sk_12 rfl rfl ((rI_nk (by decide)).trans ((rI_nk (by decide)).trans (rI_eq))) ?_
    refine a_if_ne (tgt := 145) dX11_readsCondition_140 (by decide) (fun c => ?_) (fun c => ?_)
    · have hy := hy.1 c
      refine a_aload_n dX11_readsCondition_145 rfl ?_
      refine a_callVv (as := []) (st := []) dX11_readsCondition_146 lk_M_227 sk_12 rfl rfl (Nat.le_of_ble_eq_true rfl) rfl (Call.mono hy (fun _ h14 _ hy => ?_))
      refine a_goto (tgt := 92) dX11_readsCondition_149 (by decide) ?_
      exact hy
    · have hy := hy.2 (Decidable.not_not.mp c)
      refine a_iconst (x := 1) dX11_readsCondition_143 rfl ⟨by decide, by decide⟩ ?_
      exact a_zret dX11_readsCondition_144 rfl (Or.inr rfl) hy
theorem s_M_readsCondition_180 {d : Nat} {Q : Int → AH → Prop}  {h : AH} (hy : Call d M_M_here [vR 12 (-1)] h (fun r2 h1 => Call d M_M_lands [vR 12 (-1), vI (if r2 = 124 then (1 : Int) else 0)] h1 (fun _ h3 => Call d M_M_here [vR 12 (-1)] h3 (fun r5 h4 => Call d M_M_jumps [vR 12 (-1), vI (if r5 = 38 then (11 : Int) else 12)] h4 (fun _ h6 => A_M_readsCondition_40 d Q  h6))))) : A_M_readsCondition_180 d Q  h := by
  show AW d M_M_readsCondition Q 180 [some (vR 12 (-1))] [] h
  refine a_aload_n dX11_readsCondition_180 rfl ?_
  refine a_aload_n dX11_readsCondition_181 rfl ?_
  refine a_callVi (as := []) (st := [vR 12 (-1)]) dX11_readsCondition_182 lk_M_167 sk_12 rfl rfl (Nat.le_of_ble_eq_true rfl) (Or.inl rfl) (Call.mono hy (fun r2 h1 _ hy => ?_))
  refine a_bipush (x := 124) dX11_readsCondition_185 (by decide) ⟨by decide, by decide⟩ ?_
  have J : AW d M_M_readsCondition Q 195 [some (vR 12 (-1))] [vI (if r2 = 124 then (1 : Int) else 0), vR 12 (-1)] h1 := by
    refine a_callVv (as := [vI (if r2 = 124 then (1 : Int) else 0)]) (st := []) dX11_readsCondition_195 lk_M_233 sk_12 rfl rfl (Nat.le_of_ble_eq_true rfl) rfl (Call.mono hy (fun _ h3 _ hy => ?_))
    refine a_aload_n dX11_readsCondition_198 rfl ?_
    refine a_aload_n dX11_readsCondition_199 rfl ?_
    refine a_callVi (as := []) (st := [vR 12 (-1)]) dX11_readsCondition_200 lk_M_167 sk_12 rfl rfl (Nat.le_of_ble_eq_true rfl) (Or.inl rfl) (Call.mono hy (fun r5 h4 _ hy => ?_))
    refine a_bipush (x := 38) dX11_readsCondition_203 (by decide) ⟨by decide, by decide⟩ ?_
    have J : AW d M_M_readsCondition Q 215 [some (vR 12 (-1))] [vI (if r5 = 38 then (11 : Int) else 12), vR 12 (-1)] h4 := by
      refine a_callVv (as := [vI (if r5 = 38 then (11 : Int) else 12)]) (st := []) dX11_readsCondition_215 lk_M_236 sk_12 rfl rfl (Nat.le_of_ble_eq_true rfl) rfl (Call.mono hy (fun _ h6 _ hy => ?_))
      refine a_goto (tgt := 40) dX11_readsCondition_218 (by decide) ?_
      exact hy
    refine a_icmp_ne (tgt := 213) dX11_readsCondition_205 (by decide) (fun e7 => ?_) (fun e7 => ?_)
    · refine a_bipush (x := 12) dX11_readsCondition_213 (by decide) ⟨by decide, by decide⟩ ?_
      exact a_cast (by first | rfl | simp only [if_neg e7]) (by first | rfl | simp only [if_neg e7]) J
    · refine a_bipush (x := 11) dX11_readsCondition_208 (by decide) ⟨by decide, by decide⟩ ?_
      refine a_goto (tgt := 215) dX11_readsCondition_210 (by decide) ?_
      exact a_cast (by first | rfl | simp only [if_pos (Decidable.not_not.mp e7)]) (by first | rfl | simp only [if_pos (Decidable.not_not.mp e7)]) J
  refine a_icmp_ne (tgt := 194) dX11_readsCondition_187 (by decide) (fun e8 => ?_) (fun e8 => ?_)
  · refine a_iconst (x := 0) dX11_readsCondition_194 rfl ⟨by decide, by decide⟩ ?_
    exact a_cast (by first | rfl | simp only [if_neg e8]) (by first | rfl | simp only [if_neg e8]) J
  · refine a_iconst (x := 1) dX11_readsCondition_190 rfl ⟨by decide, by decide⟩ ?_
    refine a_goto (tgt := 195) dX11_readsCondition_191 (by decide) ?_
    exact a_cast (by first | rfl | simp only [if_pos (Decidable.not_not.mp e8)]) (by first | rfl | simp only [if_pos (Decidable.not_not.mp e8)]) J
theorem c_M_readsCondition {d : Nat} (d0 : Nat) (hd : d0 < d)  {h : AH} {Q : Int → AH → Prop} (hy : Call d0 M_M_here [vR 12 (-1)] h (fun r2 h1 => ((r2 = 40 → (Call d0 M_M_opens [vR 12 (-1), vI 13] (wI (wI h1 12 15 0) 12 17 0) (fun r4 h3 => ((r4 ≠ 0 → A_M_readsCondition_40 d0 Q  h3) ∧ (r4 = 0 → Q 0 h3))))) ∧ (r2 ≠ 40 → (Call d0 M_M_wrongAt [vR 12 (-1), vI 1, vI (h1.1 12 12)] h1 (fun r6 h5 => (r6 = 0 ∨ r6 = 1) ∧ Q r6 h5)))))) : Call d M_M_readsCondition [vR 12 (-1)] h Q := by
  refine ⟨d0, hd, Big.of rfl (Nat.le_of_ble_eq_true rfl) ?_⟩
  show AW d0 M_M_readsCondition Q 0 [some (vR 12 (-1))] [] h
  refine a_aload_n dX11_readsCondition_0 rfl ?_
  refine a_callVi (as := []) (st := []) dX11_readsCondition_1 lk_M_167 sk_12 rfl rfl (Nat.le_of_ble_eq_true rfl) (Or.inl rfl) (Call.mono hy (fun r2 h1 _ hy => ?_))
  refine a_bipush (x := 40) dX11_readsCondition_4 (by decide) ⟨by decide, by decide⟩ ?_
  refine a_icmp_eq (tgt := 19) dX11_readsCondition_6 (by decide) (fun c => ?_) (fun c => ?_)
  · have hy := hy.1 c
    refine a_aload_n dX11_readsCondition_19 rfl ?_
    refine a_iconst (x := 0) dX11_readsCondition_20 rfl ⟨by decide, by decide⟩ ?_
    refine a_putI (kz := 15) dX11_readsCondition_21 fp_M_188 sk_12 rfl rfl ?_
    refine a_aload_n dX11_readsCondition_24 rfl ?_
    refine a_iconst (x := 0) dX11_readsCondition_25 rfl ⟨by decide, by decide⟩ ?_
    refine a_putI (kz := 17) dX11_readsCondition_26 fp_M_191 sk_12 rfl rfl ?_
    refine a_aload_n dX11_readsCondition_29 rfl ?_
    refine a_bipush (x := 13) dX11_readsCondition_30 (by decide) ⟨by decide, by decide⟩ ?_
    refine a_callVi (as := [vI 13]) (st := []) dX11_readsCondition_32 lk_M_201 sk_12 rfl rfl (Nat.le_of_ble_eq_true rfl) (Or.inr rfl) (Call.mono hy (fun r4 h3 _ hy => ?_))
    refine a_if_ne (tgt := 40) dX11_readsCondition_35 (by decide) (fun c => ?_) (fun c => ?_)
    · have hy := hy.1 c
      exact hy
    · have hy := hy.2 (Decidable.not_not.mp c)
      refine a_iconst (x := 0) dX11_readsCondition_38 rfl ⟨by decide, by decide⟩ ?_
      exact a_zret dX11_readsCondition_39 rfl (Or.inl rfl) hy
  · have hy := hy.2 (c)
    refine a_aload_n dX11_readsCondition_9 rfl ?_
    refine a_iconst (x := 1) dX11_readsCondition_10 rfl ⟨by decide, by decide⟩ ?_
    refine a_aload_n dX11_readsCondition_11 rfl ?_
    refine a_getI' (kz := 12) dX11_readsCondition_12 fl_M_161 sk_12 rfl rfl (rfl) ?_
    refine a_callVi (as := [vI 1, vI (h1.1 12 12)]) (st := []) dX11_readsCondition_15 lk_M_174 sk_12 rfl rfl (Nat.le_of_ble_eq_true rfl) (Or.inr rfl) (Call.mono hy (fun r6 h5 _ hy => ?_))
    obtain ⟨c7, hy⟩ := hy
    exact a_zret dX11_readsCondition_18 rfl c7 hy

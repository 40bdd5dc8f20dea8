def A_M_triesAbout_2 (d : Nat) (Q : Int → AH → Prop) (p1 : Int) (v2 : Int) (h : AH) : Prop := AW d M_M_triesAbout Q 2 [some (vR 12 (-1)), some (vI p1), some (vI v2), none] [] h
def A_M_triesAbout_14 (d : Nat) (Q : Int → AH → Prop) (p1 : Int) (v2 : Int) (v3 : Int) (h : AH) : Prop := AW d M_M_triesAbout Q 14 [some (vR 12 (-1)), some (vI p1), some (vI v2), some (vI v3)] [] h
theorem s_M_triesAbout_2 {d : Nat} {Q : Int → AH → Prop} {p1 : Int} {v2 : Int} {h : AH} (hy : inb p1 40 ∧ (((h.1 58 p1) < v2 → Q 0 h) ∧ (v2 ≤ (h.1 58 p1) → A_M_triesAbout_14 d Q p1 v2 0 h))) : A_M_triesAbout_2 d Q p1 v2 h := by
  show AW d M_M_triesAbout Q 2 [some (vR 12 (-1)), some (vI p1), some (vI v2), none] [] h
  refine a_iload_n dX11_triesAbout_2 rfl ?_
  refine a_aload_n dX11_triesAbout_3 rfl ?_
  refine a_getR dX11_triesAbout_4 fl_M_7 sk_12 rfl ?_
  refine a_iload_n dX11_triesAbout_7 rfl ?_
  obtain ⟨c1, hy⟩ := hy
  refine a_iald' dX11_triesAbout_8 sk_58 c1 (rfl) ?_
  refine a_icmp_gt (tgt := 147) dX11_triesAbout_9 (by decide) (fun c => ?_) (fun c => ?_)
  · have hy := hy.1 c
    exact a_vret dX11_triesAbout_147 rfl hy
  · have hy := hy.2 (Int.not_lt.mp c)
    refine a_iconst (x := 0) dX11_triesAbout_12 rfl ⟨by decide, by decide⟩ ?_
    refine a_istore_n (i := 3) (ls2 := [some (vR 12 (-1)), some (vI p1), some (vI v2), some (vI 0)]) dX11_triesAbout_13 rfl (Nat.le_of_ble_eq_true rfl) rfl ?_
    exact hy
theorem s_M_triesAbout_14 {d : Nat} {Q : Int → AH → Prop} {p1 : Int} {v2 : Int} {v3 : Int} {h : AH} (hy : ((26 ≤ v3 → (inb p1 40 ∧ ((v2 ≠ (h.1 58 p1) → (Call d M_M_leavesOut [vR 12 (-1), vI p1, vI v2] h (fun _ h2 => Call d M_M_triesNew [vR 12 (-1)] h2 (fun _ h3 => inI (v2 + 1) ∧ (((v2 + 1) ≠ (h3.1 58 p1) → (Call d M_M_laysRow [vR 12 (-1), vI p1] h3 (fun _ h5 => Call d M_M_letter [vR 12 (-1), vI p1, vI (v2 + 1)] h5 (fun r7 h6 => inb v2 12 ∧ (Call d M_M_letter [vR 12 (-1), vI p1, vI v2] (wI h6 63 v2 r7) (fun r10 h9 => inb (v2 + 1) 12 ∧ (Call d M_M_triesNew [vR 12 (-1)] (wI h9 63 (v2 + 1) r10) (fun _ h12 => A_M_triesAbout_2 d Q p1 (v2 + 1) h12)))))))) ∧ ((v2 + 1) = (h3.1 58 p1) → A_M_triesAbout_2 d Q p1 (v2 + 1) h3)))))) ∧ (v2 = (h.1 58 p1) → (inI (v2 + 1) ∧ A_M_triesAbout_2 d Q p1 (v2 + 1) h))))) ∧ (v3 < 26 → (Call d M_M_putsIn [vR 12 (-1), vI p1, vI v2, vI v3] h (fun _ h14 => Call d M_M_triesNew [vR 12 (-1)] h14 (fun _ h15 => inb p1 40 ∧ ((v2 ≠ (h15.1 58 p1) → (Call d M_M_laysRow [vR 12 (-1), vI p1] h15 (fun _ h17 => inb v2 12 ∧ (Call d M_M_triesNew [vR 12 (-1)] (wI h17 63 v2 v3) (fun _ h19 => inI (v3 + 1) ∧ A_M_triesAbout_14 d Q p1 v2 (v3 + 1) h19))))) ∧ (v2 = (h15.1 58 p1) → (inI (v3 + 1) ∧ A_M_triesAbout_14 d Q p1 v2 (v3 + 1) h15))))))))) : A_M_triesAbout_14 d Q p1 v2 v3 h := by
  show AW d M_M_triesAbout Q 14 [some (vR 12 (-1)), some (vI p1), some (vI v2), some (vI v3)] [] h
  refine a_iload_n dX11_triesAbout_14 rfl ?_
  refine a_bipush (x := 26) dX11_triesAbout_15 (by decide) ⟨by decide, by decide⟩ ?_
  refine a_icmp_ge (tgt := 66) dX11_triesAbout_17 (by decide) (fun c => ?_) (fun c => ?_)
  · have hy := hy.1 c
    refine a_iload_n dX11_triesAbout_66 rfl ?_
    refine a_aload_n dX11_triesAbout_67 rfl ?_
    refine a_getR dX11_triesAbout_68 fl_M_7 sk_12 rfl ?_
    refine a_iload_n dX11_triesAbout_71 rfl ?_
    obtain ⟨c1, hy⟩ := hy
    refine a_iald' dX11_triesAbout_72 sk_58 c1 (rfl) ?_
    refine a_icmp_ne (tgt := 79) dX11_triesAbout_73 (by decide) (fun c => ?_) (fun c => ?_)
    · have hy := hy.1 c
      refine a_aload_n dX11_triesAbout_79 rfl ?_
      refine a_iload_n dX11_triesAbout_80 rfl ?_
      refine a_iload_n dX11_triesAbout_81 rfl ?_
      refine a_callVv (as := [vI p1, vI v2]) (st := []) dX11_triesAbout_82 lk_M_364 sk_12 rfl rfl (Nat.le_of_ble_eq_true rfl) rfl (Call.mono hy (fun _ h2 _ hy => ?_))
      refine a_aload_n dX11_triesAbout_85 rfl ?_
      refine a_callVv (as := []) (st := []) dX11_triesAbout_86 lk_M_358 sk_12 rfl rfl (Nat.le_of_ble_eq_true rfl) rfl (Call.mono hy (fun _ h3 _ hy => ?_))
      refine a_iload_n dX11_triesAbout_89 rfl ?_
      refine a_iconst (x := 1) dX11_triesAbout_90 rfl ⟨by decide, by decide⟩ ?_
      obtain ⟨c4, hy⟩ := hy
      refine a_iadd dX11_triesAbout_91 c4 ?_
      refine a_aload_n dX11_triesAbout_92 rfl ?_
      refine a_getR dX11_triesAbout_93 fl_M_7 sk_12 rfl ?_
      refine a_iload_n dX11_triesAbout_96 rfl ?_
      refine a_iald' dX11_triesAbout_97 sk_58 c1 (rfl) ?_
      refine a_icmp_ne (tgt := 104) dX11_triesAbout_98 (by decide) (fun c => ?_) (fun c => ?_)
      · have hy := hy.1 c
        refine a_aload_n dX11_triesAbout_104 rfl ?_
        refine a_iload_n dX11_triesAbout_105 rfl ?_
        refine a_callVv (as := [vI p1]) (st := []) dX11_triesAbout_106 lk_M_361 sk_12 rfl rfl (Nat.le_of_ble_eq_true rfl) rfl (Call.mono hy (fun _ h5 _ hy => ?_))
        refine a_aload_n dX11_triesAbout_109 rfl ?_
        refine a_getR dX11_triesAbout_110 fl_M_26 sk_12 rfl ?_
        refine a_iload_n dX11_triesAbout_113 rfl ?_
        refine a_aload_n dX11_triesAbout_114 rfl ?_
        refine a_iload_n dX11_triesAbout_115 rfl ?_
        refine a_iload_n dX11_triesAbout_116 rfl ?_
        refine a_iconst (x := 1) dX11_triesAbout_117 rfl ⟨by decide, by decide⟩ ?_
        refine a_iadd dX11_triesAbout_118 c4 ?_
        refine a_callVi (as := [vI p1, vI (v2 + 1)]) (st := [vI v2, vR 63 (-1)]) dX11_triesAbout_119 lk_M_262 sk_12 rfl rfl (Nat.le_of_ble_eq_true rfl) (Or.inl rfl) (Call.mono hy (fun r7 h6 _ hy => ?_))
        obtain ⟨c8, hy⟩ := hy
        refine a_iast dX11_triesAbout_122 sk_63 c8 ?_
        refine a_aload_n dX11_triesAbout_123 rfl ?_
        refine a_getR dX11_triesAbout_124 fl_M_26 sk_12 rfl ?_
        refine a_iload_n dX11_triesAbout_127 rfl ?_
        refine a_iconst (x := 1) dX11_triesAbout_128 rfl ⟨by decide, by decide⟩ ?_
        refine a_iadd dX11_triesAbout_129 c4 ?_
        refine a_aload_n dX11_triesAbout_130 rfl ?_
        refine a_iload_n dX11_triesAbout_131 rfl ?_
        refine a_iload_n dX11_triesAbout_132 rfl ?_
        refine a_callVi (as := [vI p1, vI v2]) (st := [vI (v2 + 1), vR 63 (-1)]) dX11_triesAbout_133 lk_M_262 sk_12 rfl rfl (Nat.le_of_ble_eq_true rfl) (Or.inl rfl) (Call.mono hy (fun r10 h9 _ hy => ?_))
        obtain ⟨c11, hy⟩ := hy
        refine a_iast dX11_triesAbout_136 sk_63 c11 ?_
        refine a_aload_n dX11_triesAbout_137 rfl ?_
        refine a_callVv (as := []) (st := []) dX11_triesAbout_138 lk_M_358 sk_12 rfl rfl (Nat.le_of_ble_eq_true rfl) rfl (Call.mono hy (fun _ h12 _ hy => ?_))
        refine a_iinc (y := v2 + 1) (ls2 := [some (vR 12 (-1)), some (vI p1), some (vI (v2 + 1)), some (vI v3)]) dX11_triesAbout_141 rfl rfl c4 rfl ?_
        refine a_goto (tgt := 2) dX11_triesAbout_144 (by decide) ?_
        refine a_mask [true, true, true, false] (ls2 := [some (vR 12 (-1)), some (vI p1), some (vI (v2 + 1)), none]) rfl rfl ?_
        exact hy
      · have hy := hy.2 (Decidable.not_not.mp c)
        refine a_goto (tgt := 141) dX11_triesAbout_101 (by decide) ?_
        refine a_iinc (y := v2 + 1) (ls2 := [some (vR 12 (-1)), some (vI p1), some (vI (v2 + 1)), some (vI v3)]) dX11_triesAbout_141 rfl rfl c4 rfl ?_
        refine a_goto (tgt := 2) dX11_triesAbout_144 (by decide) ?_
        refine a_mask [true, true, true, false] (ls2 := [some (vR 12 (-1)), some (vI p1), some (vI (v2 + 1)), none]) rfl rfl ?_
        exact hy
    · have hy := hy.2 (Decidable.not_not.mp c)
      refine a_goto (tgt := 141) dX11_triesAbout_76 (by decide) ?_
      obtain ⟨c13, hy⟩ := hy
      refine a_iinc (y := v2 + 1) (ls2 := [some (vR 12 (-1)), some (vI p1), some (vI (v2 + 1)), some (vI v3)]) dX11_triesAbout_141 rfl rfl c13 rfl ?_
      refine a_goto (tgt := 2) dX11_triesAbout_144 (by decide) ?_
      refine a_mask [true, true, true, false] (ls2 := [some (vR 12 (-1)), some (vI p1), some (vI (v2 + 1)), none]) rfl rfl ?_
      exact hy
  · have hy := hy.2 (Int.not_le.mp c)
    refine a_aload_n dX11_triesAbout_20 rfl ?_
    refine a_iload_n dX11_triesAbout_21 rfl ?_
    refine a_iload_n dX11_triesAbout_22 rfl ?_
    refine a_iload_n dX11_triesAbout_23 rfl ?_
    refine a_callVv (as := [vI p1, vI v2, vI v3]) (st := []) dX11_triesAbout_24 lk_M_354 sk_12 rfl rfl (Nat.le_of_ble_eq_true rfl) rfl (Call.mono hy (fun _ h14 _ hy => ?_))
    refine a_aload_n dX11_triesAbout_27 rfl ?_
    refine a_callVv (as := []) (st := []) dX11_triesAbout_28 lk_M_358 sk_12 rfl rfl (Nat.le_of_ble_eq_true rfl) rfl (Call.mono hy (fun _ h15 _ hy => ?_))
    refine a_iload_n dX11_triesAbout_31 rfl ?_
    refine a_aload_n dX11_triesAbout_32 rfl ?_
    refine a_getR dX11_triesAbout_33 fl_M_7 sk_12 rfl ?_
    refine a_iload_n dX11_triesAbout_36 rfl ?_
    obtain ⟨c16, hy⟩ := hy
    refine a_iald' dX11_triesAbout_37 sk_58 c16 (rfl) ?_
    refine a_icmp_ne (tgt := 44) dX11_triesAbout_38 (by decide) (fun c => ?_) (fun c => ?_)
    · have hy := hy.1 c
      refine a_aload_n dX11_triesAbout_44 rfl ?_
      refine a_iload_n dX11_triesAbout_45 rfl ?_
      refine a_callVv (as := [vI p1]) (st := []) dX11_triesAbout_46 lk_M_361 sk_12 rfl rfl (Nat.le_of_ble_eq_true rfl) rfl (Call.mono hy (fun _ h17 _ hy => ?_))
      refine a_aload_n dX11_triesAbout_49 rfl ?_
      refine a_getR dX11_triesAbout_50 fl_M_26 sk_12 rfl ?_
      refine a_iload_n dX11_triesAbout_53 rfl ?_
      refine a_iload_n dX11_triesAbout_54 rfl ?_
      obtain ⟨c18, hy⟩ := hy
      refine a_iast dX11_triesAbout_55 sk_63 c18 ?_
      refine a_aload_n dX11_triesAbout_56 rfl ?_
      refine a_callVv (as := []) (st := []) dX11_triesAbout_57 lk_M_358 sk_12 rfl rfl (Nat.le_of_ble_eq_true rfl) rfl (Call.mono hy (fun _ h19 _ hy => ?_))
      obtain ⟨c20, hy⟩ := hy
      refine a_iinc (y := v3 + 1) (ls2 := [some (vR 12 (-1)), some (vI p1), some (vI v2), some (vI (v3 + 1))]) dX11_triesAbout_60 rfl rfl c20 rfl ?_
      refine a_goto (tgt := 14) dX11_triesAbout_63 (by decide) ?_
      exact hy
    · have hy := hy.2 (Decidable.not_not.mp c)
      refine a_goto (tgt := 60) dX11_triesAbout_41 (by decide) ?_
      obtain ⟨c21, hy⟩ := hy
      refine a_iinc (y := v3 + 1) (ls2 := [some (vR 12 (-1)), some (vI p1), some (vI v2), some (vI (v3 + 1))]) dX11_triesAbout_60 rfl rfl c21 rfl ?_
      refine a_goto (tgt := 14) dX11_triesAbout_63 (by decide) ?_
      exact hy
theorem c_M_triesAbout {d : Nat} (d0 : Nat) (hd : d0 < d) {p1 : Int} {h : AH} {Q : Int → AH → Prop} (hy : A_M_triesAbout_2 d0 Q p1 0 h) : Call d M_M_triesAbout [vR 12 (-1), vI p1] h Q := by
  refine ⟨d0, hd, Big.of rfl (Nat.le_of_ble_eq_true rfl) ?_⟩
  show AW d0 M_M_triesAbout Q 0 [some (vR 12 (-1)), some (vI p1), none, none] [] h
  refine a_iconst (x := 0) dX11_triesAbout_0 rfl ⟨by decide, by decide⟩ ?_
  refine a_istore_n (i := 2) (ls2 := [some (vR 12 (-1)), some (vI p1), some (vI 0), none]) dX11_triesAbout_1 rfl (Nat.le_of_ble_eq_true rfl) rfl ?_
  exact hy
def A_M_triesNew_32 (d : Nat) (Q : Int → AH → Prop) (v1 : Int) (v3 : Int) (v4 : Int) (h : AH) : Prop := AW d M_M_triesNew Q 32 [some (vR 12 (-1)), some (vL v1), none, some (vI v3), some (vI v4), none] [] h
def A_M_triesNew_90 (d : Nat) (Q : Int → AH → Prop) (v1 : Int) (v3 : Int) (v4 : Int) (v5 : Int) (h : AH) : Prop := AW d M_M_triesNew Q 90 [some (vR 12 (-1)), some (vL v1), none, some (vI v3), some (vI v4), some (vI v5)] [] h
def A_M_triesNew_159 (d : Nat) (Q : Int → AH → Prop) (v3 : Int) (v4 : Int) (h : AH) : Prop := AW d M_M_triesNew Q 159 [some (vR 12 (-1)), none, none, some (vI v3), some (vI v4), none] [] h
def A_M_triesNew_181 (d : Nat) (Q : Int → AH → Prop) (v5 : Int) (h : AH) : Prop := AW d M_M_triesNew Q 181 [some (vR 12 (-1)), none, none, none, none, some (vI v5)] [] h
theorem s_M_triesNew_32 {d : Nat} {Q : Int → AH → Prop} {v1 : Int} {v3 : Int} {v4 : Int} {h : AH} (hy : (((h.1 12 0) ≤ v4 → A_M_triesNew_90 d Q v1 v3 0 0 h) ∧ (v4 < (h.1 12 0) → (Call d M_M_isUsed [vR 12 (-1), vI v4] h (fun r2 h1 => ((r2 = 0 → (inI (v4 + 1) ∧ A_M_triesNew_32 d Q v1 v3 (v4 + 1) h1)) ∧ (r2 ≠ 0 → (Call d M_M_isNear [vR 12 (-1), vI v4] h1 (fun r5 h4 => ((r5 ≠ 0 → (inI (v3 + 1) ∧ (inb v4 40 ∧ (inI (v4 + 1) ∧ A_M_triesNew_32 d Q (lor v1 (lshl 1 (h4.1 85 v4))) (v3 + 1) (v4 + 1) h4)))) ∧ (r5 = 0 → (inI (v4 + 1) ∧ A_M_triesNew_32 d Q v1 v3 (v4 + 1) h4)))))))))))) : A_M_triesNew_32 d Q v1 v3 v4 h := by
  show AW d M_M_triesNew Q 32 [some (vR 12 (-1)), some (vL v1), none, some (vI v3), some (vI v4), none] [] h
  refine a_iload dX11_triesNew_32 rfl ?_
  refine a_aload_n dX11_triesNew_34 rfl ?_
  refine a_getI' (kz := 0) dX11_triesNew_35 fl_M_130 sk_12 rfl rfl (rfl) ?_
  refine a_icmp_ge (tgt := 84) dX11_triesNew_38 (by decide) (fun c => ?_) (fun c => ?_)
  · have hy := hy.1 c
    refine a_iconst (x := 0) dX11_triesNew_84 rfl ⟨by decide, by decide⟩ ?_
    refine a_istore (ls2 := [some (vR 12 (-1)), some (vL v1), none, some (vI v3), some (vI 0), none]) dX11_triesNew_85 (Nat.le_of_ble_eq_true rfl) rfl ?_
    refine a_iconst (x := 0) dX11_triesNew_87 rfl ⟨by decide, by decide⟩ ?_
    refine a_istore (ls2 := [some (vR 12 (-1)), some (vL v1), none, some (vI v3), some (vI 0), some (vI 0)]) dX11_triesNew_88 (Nat.le_of_ble_eq_true rfl) rfl ?_
    exact hy
  · have hy := hy.2 (Int.not_le.mp c)
    refine a_aload_n dX11_triesNew_41 rfl ?_
    refine a_iload dX11_triesNew_42 rfl ?_
    refine a_callVi (as := [vI v4]) (st := []) dX11_triesNew_44 lk_M_282 sk_12 rfl rfl (Nat.le_of_ble_eq_true rfl) (Or.inr rfl) (Call.mono hy (fun r2 h1 _ hy => ?_))
    refine a_if_eq (tgt := 78) dX11_triesNew_47 (by decide) (fun c => ?_) (fun c => ?_)
    · have hy := hy.1 c
      obtain ⟨c3, hy⟩ := hy
      refine a_iinc (y := v4 + 1) (ls2 := [some (vR 12 (-1)), some (vL v1), none, some (vI v3), some (vI (v4 + 1)), none]) dX11_triesNew_78 rfl rfl c3 rfl ?_
      refine a_goto (tgt := 32) dX11_triesNew_81 (by decide) ?_
      exact hy
    · have hy := hy.2 (c)
      refine a_aload_n dX11_triesNew_50 rfl ?_
      refine a_iload dX11_triesNew_51 rfl ?_
      refine a_callVi (as := [vI v4]) (st := []) dX11_triesNew_53 lk_M_342 sk_12 rfl rfl (Nat.le_of_ble_eq_true rfl) (Or.inr rfl) (Call.mono hy (fun r5 h4 _ hy => ?_))
      refine a_if_ne (tgt := 62) dX11_triesNew_56 (by decide) (fun c => ?_) (fun c => ?_)
      · have hy := hy.1 c
        refine a_iload_n dX11_triesNew_62 rfl ?_
        refine a_iconst (x := 1) dX11_triesNew_63 rfl ⟨by decide, by decide⟩ ?_
        obtain ⟨c6, hy⟩ := hy
        refine a_iadd dX11_triesNew_64 c6 ?_
        refine a_istore_n (i := 3) (ls2 := [some (vR 12 (-1)), some (vL v1), none, some (vI (v3 + 1)), some (vI v4), none]) dX11_triesNew_65 rfl (Nat.le_of_ble_eq_true rfl) rfl ?_
        refine a_lload_n dX11_triesNew_66 rfl ?_
        refine a_lconst (x := 1) dX11_triesNew_67 rfl ⟨by decide, by decide⟩ ?_
        refine a_aload_n dX11_triesNew_68 rfl ?_
        refine a_getR dX11_triesNew_69 fl_M_94 sk_12 rfl ?_
        refine a_iload dX11_triesNew_72 rfl ?_
        obtain ⟨c7, hy⟩ := hy
        refine a_iald' dX11_triesNew_74 sk_85 c7 (rfl) ?_
        refine a_lshl dX11_triesNew_75 ?_
        refine a_lor dX11_triesNew_76 ?_
        refine a_lstore_n (i := 1) (ls2 := [some (vR 12 (-1)), some (vL (lor v1 (lshl 1 (h4.1 85 v4)))), none, some (vI (v3 + 1)), some (vI v4), none]) dX11_triesNew_77 rfl (Nat.le_of_ble_eq_true rfl) rfl ?_
        obtain ⟨c8, hy⟩ := hy
        refine a_iinc (y := v4 + 1) (ls2 := [some (vR 12 (-1)), some (vL (lor v1 (lshl 1 (h4.1 85 v4)))), none, some (vI (v3 + 1)), some (vI (v4 + 1)), none]) dX11_triesNew_78 rfl rfl c8 rfl ?_
        refine a_goto (tgt := 32) dX11_triesNew_81 (by decide) ?_
        exact hy
      · have hy := hy.2 (Decidable.not_not.mp c)
        refine a_goto (tgt := 78) dX11_triesNew_59 (by decide) ?_
        obtain ⟨c9, hy⟩ := hy
        refine a_iinc (y := v4 + 1) (ls2 := [some (vR 12 (-1)), some (vL v1), none, some (vI v3), some (vI (v4 + 1)), none]) dX11_triesNew_78 rfl rfl c9 rfl ?_
        refine a_goto (tgt := 32) dX11_triesNew_81 (by decide) ?_
        exact hy
theorem s_M_triesNew_90 {d : Nat} {Q : Int → AH → Prop} {v1 : Int} {v3 : Int} {v4 : Int} {v5 : Int} {h : AH} (hy : (((h.1 12 0) ≤ v5 → ((v4 < (h.1 12 41) → Q 0 h) ∧ ((h.1 12 41) ≤ v4 → ((v4 ≠ (h.1 12 41) → A_M_triesNew_159 d Q v3 v4 h) ∧ (v4 = (h.1 12 41) → ((v3 < (h.1 12 42) → Q 0 h) ∧ ((h.1 12 42) ≤ v3 → ((v3 ≠ (h.1 12 42) → A_M_triesNew_159 d Q v3 v4 h) ∧ (v3 = (h.1 12 42) → (Call d M_M_isAheadOfNew [vR 12 (-1)] h (fun r2 h1 => ((r2 ≠ 0 → A_M_triesNew_159 d Q v3 v4 h1) ∧ (r2 = 0 → Q 0 h1))))))))))))) ∧ (v5 < (h.1 12 0) → (inI (v4 + (l2i (land (lshr v1 v5) 1))) ∧ (inI (v5 + 1) ∧ A_M_triesNew_90 d Q v1 v3 (v4 + (l2i (land (lshr v1 v5) 1))) (v5 + 1) h))))) : A_M_triesNew_90 d Q v1 v3 v4 v5 h := by
  show AW d M_M_triesNew Q 90 [some (vR 12 (-1)), some (vL v1), none, some (vI v3), some (vI v4), some (vI v5)] [] h
  refine a_iload dX11_triesNew_90 rfl ?_
  refine a_aload_n dX11_triesNew_92 rfl ?_
  refine a_getI' (kz := 0) dX11_triesNew_93 fl_M_130 sk_12 rfl rfl (rfl) ?_
  refine a_icmp_ge (tgt := 117) dX11_triesNew_96 (by decide) (fun c => ?_) (fun c => ?_)
  · have hy := hy.1 c
    refine a_iload dX11_triesNew_117 rfl ?_
    refine a_aload_n dX11_triesNew_119 rfl ?_
    refine a_getI' (kz := 41) dX11_triesNew_120 fl_M_345 sk_12 rfl rfl (rfl) ?_
    refine a_icmp_lt (tgt := 158) dX11_triesNew_123 (by decide) (fun c => ?_) (fun c => ?_)
    · have hy := hy.1 c
      exact a_vret dX11_triesNew_158 rfl hy
    · have hy := hy.2 (Int.not_lt.mp c)
      refine a_iload dX11_triesNew_126 rfl ?_
      refine a_aload_n dX11_triesNew_128 rfl ?_
      refine a_getI' (kz := 41) dX11_triesNew_129 fl_M_345 sk_12 rfl rfl (rfl) ?_
      refine a_icmp_ne (tgt := 159) dX11_triesNew_132 (by decide) (fun c => ?_) (fun c => ?_)
      · have hy := hy.1 c
        refine a_mask [true, false, true, true, true, false] (ls2 := [some (vR 12 (-1)), none, none, some (vI v3), some (vI v4), none]) rfl rfl ?_
        exact hy
      · have hy := hy.2 (Decidable.not_not.mp c)
        refine a_iload_n dX11_triesNew_135 rfl ?_
        refine a_aload_n dX11_triesNew_136 rfl ?_
        refine a_getI' (kz := 42) dX11_triesNew_137 fl_M_348 sk_12 rfl rfl (rfl) ?_
        refine a_icmp_lt (tgt := 158) dX11_triesNew_140 (by decide) (fun c => ?_) (fun c => ?_)
        · have hy := hy.1 c
          exact a_vret dX11_triesNew_158 rfl hy
        · have hy := hy.2 (Int.not_lt.mp c)
          refine a_iload_n dX11_triesNew_143 rfl ?_
          refine a_aload_n dX11_triesNew_144 rfl ?_
          refine a_getI' (kz := 42) dX11_triesNew_145 fl_M_348 sk_12 rfl rfl (rfl) ?_
          refine a_icmp_ne (tgt := 159) dX11_triesNew_148 (by decide) (fun c => ?_) (fun c => ?_)
          · have hy := hy.1 c
            refine a_mask [true, false, true, true, true, false] (ls2 := [some (vR 12 (-1)), none, none, some (vI v3), some (vI v4), none]) rfl rfl ?_
            exact hy
          · have hy := hy.2 (Decidable.not_not.mp c)
            refine a_aload_n dX11_triesNew_151 rfl ?_
            refine a_callVi (as := []) (st := []) dX11_triesNew_152 lk_M_351 sk_12 rfl rfl (Nat.le_of_ble_eq_true rfl) (Or.inr rfl) (Call.mono hy (fun r2 h1 _ hy => ?_))
            refine a_if_ne (tgt := 159) dX11_triesNew_155 (by decide) (fun c => ?_) (fun c => ?_)
            · have hy := hy.1 c
              refine a_mask [true, false, true, true, true, false] (ls2 := [some (vR 12 (-1)), none, none, some (vI v3), some (vI v4), none]) rfl rfl ?_
              exact hy
            · have hy := hy.2 (Decidable.not_not.mp c)
              exact a_vret dX11_triesNew_158 rfl hy
  · have hy := hy.2 (Int.not_le.mp c)
    refine a_iload dX11_triesNew_99 rfl ?_
    refine a_lload_n dX11_triesNew_101 rfl ?_
    refine a_iload dX11_triesNew_102 rfl ?_
    refine a_lshr dX11_triesNew_104 ?_
    refine a_lconst (x := 1) dX11_triesNew_105 rfl ⟨by decide, by decide⟩ ?_
    refine a_land dX11_triesNew_106 ?_
    refine a_l2i dX11_triesNew_107 ?_
    obtain ⟨c3, hy⟩ := hy
    refine a_iadd dX11_triesNew_108 c3 ?_
    refine a_istore (ls2 := [some (vR 12 (-1)), some (vL v1), none, some (vI v3), some (vI (v4 + (l2i (land (lshr v1 v5) 1)))), some (vI v5)]) dX11_triesNew_109 (Nat.le_of_ble_eq_true rfl) rfl ?_
    obtain ⟨c4, hy⟩ := hy
    refine a_iinc (y := v5 + 1) (ls2 := [some (vR 12 (-1)), some (vL v1), none, some (vI v3), some (vI (v4 + (l2i (land (lshr v1 v5) 1)))), some (vI (v5 + 1))]) dX11_triesNew_111 rfl rfl c4 rfl ?_
    refine a_goto (tgt := 90) dX11_triesNew_114 (by decide) ?_
    exact hy
theorem s_M_triesNew_159 {d : Nat} {Q : Int → AH → Prop} {v3 : Int} {v4 : Int} {h : AH} (hy : A_M_triesNew_181 d Q 0 (wI (wI (wI h 12 41 v4) 12 42 v3) 12 43 (h.1 12 9))) : A_M_triesNew_159 d Q v3 v4 h := by
  show AW d M_M_triesNew Q 159 [some (vR 12 (-1)), none, none, some (vI v3), some (vI v4), none] [] h
  refine a_aload_n dX11_triesNew_159 rfl ?_
  refine a_iload dX11_triesNew_160 rfl ?_
  refine a_putI (kz := 41) dX11_triesNew_162 fp_M_345 sk_12 rfl rfl ?_
  refine a_aload_n dX11_triesNew_165 rfl ?_
  refine a_iload_n dX11_triesNew_166 rfl ?_
  refine a_putI (kz := 42) dX11_triesNew_167 fp_M_348 sk_12 rfl rfl ?_
  refine a_aload_n dX11_triesNew_170 rfl ?_
  refine a_aload_n dX11_triesNew_171 rfl ?_
  refine a_getI' (kz := 9) dX11_triesNew_172 fl_M_136 sk_12 rfl rfl ((rI_nk (by decide)).trans (rI_nk (by decide))) ?_
  refine a_putI (kz := 43) dX11_triesNew_175 fp_M_339 sk_12 rfl rfl ?_
  refine a_iconst (x := 0) dX11_triesNew_178 rfl ⟨by decide, by decide⟩ ?_
  refine a_istore (ls2 := [some (vR 12 (-1)), none, none, some (vI v3), some (vI v4), some (vI 0)]) dX11_triesNew_179 (Nat.le_of_ble_eq_true rfl) rfl ?_
  refine a_mask [true, true, true, false, false, true] (ls2 := [some (vR 12 (-1)), none, none, none, none, some (vI 0)]) rfl rfl ?_
  exact hy
theorem s_M_triesNew_181 {d : Nat} {Q : Int → AH → Prop} {v5 : Int} {h : AH} (hy : (((h.1 12 9) ≤ v5 → Q 0 h) ∧ (v5 < (h.1 12 9) → (inb v5 12 ∧ (inb v5 8 ∧ (inI (v5 + 1) ∧ A_M_triesNew_181 d Q (v5 + 1) (wI h 84 v5 (h.1 63 v5)))))))) : A_M_triesNew_181 d Q v5 h := by
  show AW d M_M_triesNew Q 181 [some (vR 12 (-1)), none, none, none, none, some (vI v5)] [] h
  refine a_iload dX11_triesNew_181 rfl ?_
  refine a_aload_n dX11_triesNew_183 rfl ?_
  refine a_getI' (kz := 9) dX11_triesNew_184 fl_M_136 sk_12 rfl rfl (rfl) ?_
  refine a_icmp_ge (tgt := 210) dX11_triesNew_187 (by decide) (fun c => ?_) (fun c => ?_)
  · have hy := hy.1 c
    exact a_vret dX11_triesNew_210 rfl hy
  · have hy := hy.2 (Int.not_le.mp c)
    refine a_aload_n dX11_triesNew_190 rfl ?_
    refine a_getR dX11_triesNew_191 fl_M_91 sk_12 rfl ?_
    refine a_iload dX11_triesNew_194 rfl ?_
    refine a_aload_n dX11_triesNew_196 rfl ?_
    refine a_getR dX11_triesNew_197 fl_M_26 sk_12 rfl ?_
    refine a_iload dX11_triesNew_200 rfl ?_
    obtain ⟨c1, hy⟩ := hy
    refine a_iald' dX11_triesNew_202 sk_63 c1 (rfl) ?_
    obtain ⟨c2, hy⟩ := hy
    refine a_iast dX11_triesNew_203 sk_84 c2 ?_
    obtain ⟨c3, hy⟩ := hy
    refine a_iinc (y := v5 + 1) (ls2 := [some (vR 12 (-1)), none, none, none, none, some (vI (v5 + 1))]) dX11_triesNew_204 rfl rfl c3 rfl ?_
    refine a_goto (tgt := 181) dX11_triesNew_207 (by decide) ?_
    exact hy
theorem c_M_triesNew {d : Nat} (d0 : Nat) (hd : d0 < d)  {h : AH} {Q : Int → AH → Prop} (hy : (((h.1 12 9) < 1 → Q 0 h) ∧ (1 ≤ (h.1 12 9) → ((8 < (h.1 12 9) → Q 0 h) ∧ ((h.1 12 9) ≤ 8 → (Call d0 M_M_isRowWord [vR 12 (-1)] h (fun r2 h1 => ((r2 = 0 → A_M_triesNew_32 d0 Q 0 0 0 h1) ∧ (r2 ≠ 0 → Q 0 h1))))))))) : Call d M_M_triesNew [vR 12 (-1)] h Q := by
  refine ⟨d0, hd, Big.of rfl (Nat.le_of_ble_eq_true rfl) ?_⟩
  show AW d0 M_M_triesNew Q 0 [some (vR 12 (-1)), none, none, none, none, none] [] h
  refine a_aload_n dX11_triesNew_0 rfl ?_
  refine a_getI' (kz := 9) dX11_triesNew_1 fl_M_136 sk_12 rfl rfl (rfl) ?_
  refine a_iconst (x := 1) dX11_triesNew_4 rfl ⟨by decide, by decide⟩ ?_
  refine a_icmp_lt (tgt := 24) dX11_triesNew_5 (by decide) (fun c => ?_) (fun c => ?_)
  · have hy := hy.1 c
    exact a_vret dX11_triesNew_24 rfl hy
  · have hy := hy.2 (Int.not_lt.mp c)
    refine a_aload_n dX11_triesNew_8 rfl ?_
    refine a_getI' (kz := 9) dX11_triesNew_9 fl_M_136 sk_12 rfl rfl (rfl) ?_
    refine a_bipush (x := 8) dX11_triesNew_12 (by decide) ⟨by decide, by decide⟩ ?_
    refine a_icmp_gt (tgt := 24) dX11_triesNew_14 (by decide) (fun c => ?_) (fun c => ?_)
    · have hy := hy.1 c
      exact a_vret dX11_triesNew_24 rfl hy
    · have hy := hy.2 (Int.not_lt.mp c)
      refine a_aload_n dX11_triesNew_17 rfl ?_
      refine a_callVi (as := []) (st := []) dX11_triesNew_18 lk_M_150 sk_12 rfl rfl (Nat.le_of_ble_eq_true rfl) (Or.inr rfl) (Call.mono hy (fun r2 h1 _ hy => ?_))
      refine a_if_eq (tgt := 25) dX11_triesNew_21 (by decide) (fun c => ?_) (fun c => ?_)
      · have hy := hy.1 c
        refine a_lconst (x := 0) dX11_triesNew_25 rfl ⟨by decide, by decide⟩ ?_
        refine a_lstore_n (i := 1) (ls2 := [some (vR 12 (-1)), some (vL 0), none, none, none, none]) dX11_triesNew_26 rfl (Nat.le_of_ble_eq_true rfl) rfl ?_
        refine a_iconst (x := 0) dX11_triesNew_27 rfl ⟨by decide, by decide⟩ ?_
        refine a_istore_n (i := 3) (ls2 := [some (vR 12 (-1)), some (vL 0), none, some (vI 0), none, none]) dX11_triesNew_28 rfl (Nat.le_of_ble_eq_true rfl) rfl ?_
        refine a_iconst (x := 0) dX11_triesNew_29 rfl ⟨by decide, by decide⟩ ?_
        refine a_istore (ls2 := [some (vR 12 (-1)), some (vL 0), none, some (vI 0), some (vI 0), none]) dX11_triesNew_30 (Nat.le_of_ble_eq_true rfl) rfl ?_
        exact hy
      · have hy := hy.2 (c)
        exact a_vret dX11_triesNew_24 rfl hy
def A_M_twosBy_4 (d : Nat) (Q : Int → AH → Prop) (p1 : Int) (v2 : Int) (v3 : Int) (h : AH) : Prop := AW d M_M_twosBy Q 4 [some (vR 12 (-1)), some (vI p1), some (vI v2), some (vI v3), none] [] h
def A_M_twosBy_15 (d : Nat) (Q : Int → AH → Prop) (p1 : Int) (v2 : Int) (v3 : Int) (v4 : Int) (h : AH) : Prop := AW d M_M_twosBy Q 15 [some (vR 12 (-1)), some (vI p1), some (vI v2), some (vI v3), some (vI v4)] [] h
theorem s_M_twosBy_4 {d : Nat} {Q : Int → AH → Prop} {p1 : Int} {v2 : Int} {v3 : Int} {h : AH} (hy : (((h.1 12 0) ≤ v3 → Q v2 h) ∧ (v3 < (h.1 12 0) → A_M_twosBy_15 d Q p1 v2 v3 0 h))) : A_M_twosBy_4 d Q p1 v2 v3 h := by
  show AW d M_M_twosBy Q 4 [some (vR 12 (-1)), some (vI p1), some (vI v2), some (vI v3), none] [] h
  refine a_iload_n dX11_twosBy_4 rfl ?_
  refine a_aload_n dX11_twosBy_5 rfl ?_
  refine a_getI' (kz := 0) dX11_twosBy_6 fl_M_130 sk_12 rfl rfl (rfl) ?_
  refine a_icmp_ge (tgt := 95) dX11_twosBy_9 (by decide) (fun c => ?_) (fun c => ?_)
  · have hy := hy.1 c
    refine a_iload_n dX11_twosBy_95 rfl ?_
    exact a_iret dX11_twosBy_96 rfl hy
  · have hy := hy.2 (Int.not_le.mp c)
    refine a_iconst (x := 0) dX11_twosBy_12 rfl ⟨by decide, by decide⟩ ?_
    refine a_istore (ls2 := [some (vR 12 (-1)), some (vI p1), some (vI v2), some (vI v3), some (vI 0)]) dX11_twosBy_13 (Nat.le_of_ble_eq_true rfl) rfl ?_
    exact hy
theorem s_M_twosBy_15 {d : Nat} {Q : Int → AH → Prop} {p1 : Int} {v2 : Int} {v3 : Int} {v4 : Int} {h : AH} (hy : (((h.1 12 0) ≤ v4 → (inI (v3 + 1) ∧ A_M_twosBy_4 d Q p1 v2 (v3 + 1) h)) ∧ (v4 < (h.1 12 0) → ((v3 = v4 → (inI (v4 + 1) ∧ A_M_twosBy_15 d Q p1 v2 v3 (v4 + 1) h)) ∧ (v3 ≠ v4 → ((v3 = p1 → (inI (v4 + 1) ∧ A_M_twosBy_15 d Q p1 v2 v3 (v4 + 1) h)) ∧ (v3 ≠ p1 → ((v4 = p1 → (inI (v4 + 1) ∧ A_M_twosBy_15 d Q p1 v2 v3 (v4 + 1) h)) ∧ (v4 ≠ p1 → (Call d M_M_leastOf [vR 12 (-1), vI v3, vI v4] h (fun r6 h5 => ((1000000000 ≤ r6 → (inI (v4 + 1) ∧ A_M_twosBy_15 d Q p1 v2 v3 (v4 + 1) h5)) ∧ (r6 < 1000000000 → (Call d M_M_leastOf [vR 12 (-1), vI v3, vI p1] h5 (fun r9 h8 => Call d M_M_leastOf [vR 12 (-1), vI p1, vI v4] h8 (fun r11 h10 => Call d M_M_sum [vI r9, vI r11] h10 (fun r13 h12 => Call d M_M_leastOf [vR 12 (-1), vI v3, vI v4] h12 (fun r15 h14 => ((r13 ≠ r15 → (inI (v4 + 1) ∧ A_M_twosBy_15 d Q p1 v2 v3 (v4 + 1) h14)) ∧ (r13 = r15 → (inI (v2 + 1) ∧ (inI (v4 + 1) ∧ A_M_twosBy_15 d Q p1 (v2 + 1) v3 (v4 + 1) h14)))))))))))))))))))))) : A_M_twosBy_15 d Q p1 v2 v3 v4 h := by
  show AW d M_M_twosBy Q 15 [some (vR 12 (-1)), some (vI p1), some (vI v2), some (vI v3), some (vI v4)] [] h
  refine a_iload dX11_twosBy_15 rfl ?_
  refine a_aload_n dX11_twosBy_17 rfl ?_
  refine a_getI' (kz := 0) dX11_twosBy_18 fl_M_130 sk_12 rfl rfl (rfl) ?_
  refine a_icmp_ge (tgt := 89) dX11_twosBy_21 (by decide) (fun c => ?_) (fun c => ?_)
  · have hy := hy.1 c
    obtain ⟨c1, hy⟩ := hy
    refine a_iinc (y := v3 + 1) (ls2 := [some (vR 12 (-1)), some (vI p1), some (vI v2), some (vI (v3 + 1)), some (vI v4)]) dX11_twosBy_89 rfl rfl c1 rfl ?_
    refine a_goto (tgt := 4) dX11_twosBy_92 (by decide) ?_
    refine a_mask [true, true, true, true, false] (ls2 := [some (vR 12 (-1)), some (vI p1), some (vI v2), some (vI (v3 + 1)), none]) rfl rfl ?_
    exact hy
  · have hy := hy.2 (Int.not_le.mp c)
    refine a_iload_n dX11_twosBy_24 rfl ?_
    refine a_iload dX11_twosBy_25 rfl ?_
    refine a_icmp_eq (tgt := 83) dX11_twosBy_27 (by decide) (fun c => ?_) (fun c => ?_)
    · have hy := hy.1 c
      obtain ⟨c2, hy⟩ := hy
      refine a_iinc (y := v4 + 1) (ls2 := [some (vR 12 (-1)), some (vI p1), some (vI v2), some (vI v3), some (vI (v4 + 1))]) dX11_twosBy_83 rfl rfl c2 rfl ?_
      refine a_goto (tgt := 15) dX11_twosBy_86 (by decide) ?_
      exact hy
    · have hy := hy.2 (c)
      refine a_iload_n dX11_twosBy_30 rfl ?_
      refine a_iload_n dX11_twosBy_31 rfl ?_
      refine a_icmp_eq (tgt := 83) dX11_twosBy_32 (by decide) (fun c => ?_) (fun c => ?_)
      · have hy := hy.1 c
        obtain ⟨c3, hy⟩ := hy
        refine a_iinc (y := v4 + 1) (ls2 := [some (vR 12 (-1)), some (vI p1), some (vI v2), some (vI v3), some (vI (v4 + 1))]) dX11_twosBy_83 rfl rfl c3 rfl ?_
        refine a_goto (tgt := 15) dX11_twosBy_86 (by decide) ?_
        exact hy
      · have hy := hy.2 (c)
        refine a_iload dX11_twosBy_35 rfl ?_
        refine a_iload_n dX11_twosBy_37 rfl ?_
        refine a_icmp_eq (tgt := 83) dX11_twosBy_38 (by decide) (fun c => ?_) (fun c => ?_)
        · have hy := hy.1 c
          obtain ⟨c4, hy⟩ := hy
          refine a_iinc (y := v4 + 1) (ls2 := [some (vR 12 (-1)), some (vI p1), some (vI v2), some (vI v3), some (vI (v4 + 1))]) dX11_twosBy_83 rfl rfl c4 rfl ?_
          refine a_goto (tgt := 15) dX11_twosBy_86 (by decide) ?_
          exact hy
        · have hy := hy.2 (c)
          refine a_aload_n dX11_twosBy_41 rfl ?_
          refine a_iload_n dX11_twosBy_42 rfl ?_
          refine a_iload dX11_twosBy_43 rfl ?_
          refine a_callVi (as := [vI v3, vI v4]) (st := []) dX11_twosBy_45 lk_M_314 sk_12 rfl rfl (Nat.le_of_ble_eq_true rfl) (Or.inl rfl) (Call.mono hy (fun r6 h5 _ hy => ?_))
          refine a_ldc (x := 1000000000) dX11_twosBy_48 kc_M_129 ⟨by decide, by decide⟩ ?_
          refine a_icmp_ge (tgt := 83) dX11_twosBy_50 (by decide) (fun c => ?_) (fun c => ?_)
          · have hy := hy.1 c
            obtain ⟨c7, hy⟩ := hy
            refine a_iinc (y := v4 + 1) (ls2 := [some (vR 12 (-1)), some (vI p1), some (vI v2), some (vI v3), some (vI (v4 + 1))]) dX11_twosBy_83 rfl rfl c7 rfl ?_
            refine a_goto (tgt := 15) dX11_twosBy_86 (by decide) ?_
            exact hy
          · have hy := hy.2 (Int.not_le.mp c)
            refine a_aload_n dX11_twosBy_53 rfl ?_
            refine a_iload_n dX11_twosBy_54 rfl ?_
            refine a_iload_n dX11_twosBy_55 rfl ?_
            refine a_callVi (as := [vI v3, vI p1]) (st := []) dX11_twosBy_56 lk_M_314 sk_12 rfl rfl (Nat.le_of_ble_eq_true rfl) (Or.inl rfl) (Call.mono hy (fun r9 h8 _ hy => ?_))
            refine a_aload_n dX11_twosBy_59 rfl ?_
            refine a_iload_n dX11_twosBy_60 rfl ?_
            refine a_iload dX11_twosBy_61 rfl ?_
            refine a_callVi (as := [vI p1, vI v4]) (st := [vI r9]) dX11_twosBy_63 lk_M_314 sk_12 rfl rfl (Nat.le_of_ble_eq_true rfl) (Or.inl rfl) (Call.mono hy (fun r11 h10 _ hy => ?_))
            refine a_callSi (as := [vI r9, vI r11]) (st := []) dX11_twosBy_66 lk_M_300 rfl rfl (Nat.le_of_ble_eq_true rfl) (Or.inl rfl) (Call.mono hy (fun r13 h12 _ hy => ?_))
            refine a_aload_n dX11_twosBy_69 rfl ?_
            refine a_iload_n dX11_twosBy_70 rfl ?_
            refine a_iload dX11_twosBy_71 rfl ?_
            refine a_callVi (as := [vI v3, vI v4]) (st := [vI r13]) dX11_twosBy_73 lk_M_314 sk_12 rfl rfl (Nat.le_of_ble_eq_true rfl) (Or.inl rfl) (Call.mono hy (fun r15 h14 _ hy => ?_))
            refine a_icmp_ne (tgt := 83) dX11_twosBy_76 (by decide) (fun c => ?_) (fun c => ?_)
            · have hy := hy.1 c
              obtain ⟨c16, hy⟩ := hy
              refine a_iinc (y := v4 + 1) (ls2 := [some (vR 12 (-1)), some (vI p1), some (vI v2), some (vI v3), some (vI (v4 + 1))]) dX11_twosBy_83 rfl rfl c16 rfl ?_
              refine a_goto (tgt := 15) dX11_twosBy_86 (by decide) ?_
              exact hy
            · have hy := hy.2 (Decidable.not_not.mp c)
              refine a_iload_n dX11_twosBy_79 rfl ?_
              refine a_iconst (x := 1) dX11_twosBy_80 rfl ⟨by decide, by decide⟩ ?_
              obtain ⟨c17, hy⟩ := hy
              refine a_iadd dX11_twosBy_81 c17 ?_
              refine a_istore_n (i := 2) (ls2 := [some (vR 12 (-1)), some (vI p1), some (vI (v2 + 1)), some (vI v3), some (vI v4)]) dX11_twosBy_82 rfl (Nat.le_of_ble_eq_true rfl) rfl ?_
              obtain ⟨c18, hy⟩ := hy
              refine a_iinc (y := v4 + 1) (ls2 := [some (vR 12 (-1)), some (vI p1), some (vI (v2 + 1)), some (vI v3), some (vI (v4 + 1))]) dX11_twosBy_83 rfl rfl c18 rfl ?_
              refine a_goto (tgt := 15) dX11_twosBy_86 (by decide) ?_
              exact hy
theorem c_M_twosBy {d : Nat} (d0 : Nat) (hd : d0 < d) {p1 : Int} {h : AH} {Q : Int → AH → Prop} (hy : A_M_twosBy_4 d0 Q p1 0 0 h) : Call d M_M_twosBy [vR 12 (-1), vI p1] h Q := by
  refine ⟨d0, hd, Big.of rfl (Nat.le_of_ble_eq_true rfl) ?_⟩
  show AW d0 M_M_twosBy Q 0 [some (vR 12 (-1)), some (vI p1), none, none, none] [] h
  refine a_iconst (x := 0) dX11_twosBy_0 rfl ⟨by decide, by decide⟩ ?_
  refine a_istore_n (i := 2) (ls2 := [some (vR 12 (-1)), some (vI p1), some (vI 0), none, none]) dX11_twosBy_1 rfl (Nat.le_of_ble_eq_true rfl) rfl ?_
  refine a_iconst (x := 0) dX11_twosBy_2 rfl ⟨by decide, by decide⟩ ?_
  refine a_istore_n (i := 3) (ls2 := [some (vR 12 (-1)), some (vI p1), some (vI 0), some (vI 0), none]) dX11_twosBy_3 rfl (Nat.le_of_ble_eq_true rfl) rfl ?_
  exact hy
def A_M_types_2 (d : Nat) (Q : Int → AH → Prop) (p1 : Int) (v2 : Int) (h : AH) : Prop := AW d M_M_types Q 2 [some (vR 12 (-1)), some (vI p1), some (vI v2)] [] h
theorem s_M_types_2 {d : Nat} {Q : Int → AH → Prop} {p1 : Int} {v2 : Int} {h : AH} (hy : ((v2 < 0 → Q 0 h) ∧ (0 ≤ v2 → (inI (8 * v2) ∧ (inb (h.1 12 11) 200 ∧ (-128 ≤ (i2b (ishr p1 (8 * v2))) ∧ (i2b (ishr p1 (8 * v2))) < 128) ∧ (inI ((h.1 12 11) + 1) ∧ (inI (v2 - 1) ∧ A_M_types_2 d Q p1 (v2 - 1) (wI (wI h 64 (h.1 12 11) (i2b (ishr p1 (8 * v2)))) 12 11 ((h.1 12 11) + 1))))))))) : A_M_types_2 d Q p1 v2 h := by
  show AW d M_M_types Q 2 [some (vR 12 (-1)), some (vI p1), some (vI v2)] [] h
  refine a_iload_n dX11_types_2 rfl ?_
  refine a_if_lt (tgt := 38) dX11_types_3 (by decide) (fun c => ?_) (fun c => ?_)
  · have hy := hy.1 c
    exact a_vret dX11_types_38 rfl hy
  · have hy := hy.2 (Int.not_lt.mp c)
    refine a_aload_n dX11_types_6 rfl ?_
    refine a_getR dX11_types_7 fl_M_29 sk_12 rfl ?_
    refine a_aload_n dX11_types_10 rfl ?_
    refine a_getI' (kz := 11) dX11_types_11 fl_M_133 sk_12 rfl rfl (rfl) ?_
    refine a_iload_n dX11_types_14 rfl ?_
    refine a_bipush (x := 8) dX11_types_15 (by decide) ⟨by decide, by decide⟩ ?_
    refine a_iload_n dX11_types_17 rfl ?_
    obtain ⟨c1, hy⟩ := hy
    refine a_imul dX11_types_18 c1 ?_
    refine a_ishr dX11_types_19 ?_
    refine a_i2b dX11_types_20 ?_
    obtain ⟨c2, hy⟩ := hy
    obtain ⟨c3, hy⟩ := hy
    refine a_bast dX11_types_21 sk_64 c2 c3 ?_
    refine a_aload_n dX11_types_22 rfl ?_
    refine a_aload_n dX11_types_23 rfl ?_
    refine a_getI' (kz := 11) dX11_types_24 fl_M_133 sk_12 rfl rfl (rI_ne (by decide)) ?_
    refine a_iconst (x := 1) dX11_types_27 rfl ⟨by decide, by decide⟩ ?_
    obtain ⟨c4, hy⟩ := hy
    refine a_iadd dX11_types_28 c4 ?_
    refine a_putI (kz := 11) dX11_types_29 fp_M_133 sk_12 rfl rfl ?_
    obtain ⟨c5, hy⟩ := hy
    refine a_iinc (y := v2 - 1) (ls2 := [some (vR 12 (-1)), some (vI p1), some (vI (v2 - 1))]) dX11_types_32 rfl (by omega) c5 rfl ?_
    refine a_goto (tgt := 2) dX11_types_35 (by decide) ?_
    exact hy
theorem c_M_types {d : Nat} (d0 : Nat) (hd : d0 < d) {p1 : Int} {h : AH} {Q : Int → AH → Prop} (hy : A_M_types_2 d0 Q p1 3 h) : Call d M_M_types [vR 12 (-1), vI p1] h Q := by
  refine ⟨d0, hd, Big.of rfl (Nat.le_of_ble_eq_true rfl) ?_⟩
  show AW d0 M_M_types Q 0 [some (vR 12 (-1)), some (vI p1), none] [] h
  refine a_iconst (x := 3) dX11_types_0 rfl ⟨by decide, by decide⟩ ?_
  refine a_istore_n (i := 2) (ls2 := [some (vR 12 (-1)), some (vI p1), some (vI 3)]) dX11_types_1 rfl (Nat.le_of_ble_eq_true rfl) rfl ?_
  exact hy
def A_M_usedMany_4 (d : Nat) (Q : Int → AH → Prop) (v1 : Int) (v2 : Int) (h : AH) : Prop := AW d M_M_usedMany Q 4 [some (vR 12 (-1)), some (vI v1), some (vI v2)] [] h
theorem s_M_usedMany_4 {d : Nat} {Q : Int → AH → Prop} {v1 : Int} {v2 : Int} {h : AH} (hy : (((h.1 12 0) ≤ v2 → Q v1 h) ∧ (v2 < (h.1 12 0) → (Call d M_M_isUsed [vR 12 (-1), vI v2] h (fun r2 h1 => inI (v1 + (if r2 = 0 then (0 : Int) else 1)) ∧ (inI (v2 + 1) ∧ A_M_usedMany_4 d Q (v1 + (if r2 = 0 then (0 : Int) else 1)) (v2 + 1) h1)))))) : A_M_usedMany_4 d Q v1 v2 h := by
  show AW d M_M_usedMany Q 4 [some (vR 12 (-1)), some (vI v1), some (vI v2)] [] h
  refine a_iload_n dX11_usedMany_4 rfl ?_
  refine a_aload_n dX11_usedMany_5 rfl ?_
  refine a_getI' (kz := 0) dX11_usedMany_6 fl_M_130 sk_12 rfl rfl (rfl) ?_
  refine a_icmp_ge (tgt := 34) dX11_usedMany_9 (by decide) (fun c => ?_) (fun c => ?_)
  · have hy := hy.1 c
    refine a_iload_n dX11_usedMany_34 rfl ?_
    exact a_iret dX11_usedMany_35 rfl hy
  · have hy := hy.2 (Int.not_le.mp c)
    refine a_iload_n dX11_usedMany_12 rfl ?_
    refine a_aload_n dX11_usedMany_13 rfl ?_
    refine a_iload_n dX11_usedMany_14 rfl ?_
    refine a_callVi (as := [vI v2]) (st := [vI v1]) dX11_usedMany_15 lk_M_282 sk_12 rfl rfl (Nat.le_of_ble_eq_true rfl) (Or.inr rfl) (Call.mono hy (fun r2 h1 _ hy => ?_))
    have J : AW d M_M_usedMany Q 26 [some (vR 12 (-1)), some (vI v1), some (vI v2)] [vI (if r2 = 0 then (0 : Int) else 1), vI v1] h1 := by
      obtain ⟨c3, hy⟩ := hy
      refine a_iadd dX11_usedMany_26 c3 ?_
      refine a_istore_n (i := 1) (ls2 := [some (vR 12 (-1)), some (vI (v1 + (if r2 = 0 then (0 : Int) else 1))), some (vI v2)]) dX11_usedMany_27 rfl (Nat.le_of_ble_eq_true rfl) rfl ?_
      obtain ⟨c4, hy⟩ := hy
      refine a_iinc (y := v2 + 1) (ls2 := [some (vR 12 (-1)), some (vI (v1 + (if r2 = 0 then (0 : Int) else 1))), some (vI (v2 + 1))]) dX11_usedMany_28 rfl rfl c4 rfl ?_
      refine a_goto (tgt := 4) dX11_usedMany_31 (by decide) ?_
      exact hy
    refine a_if_eq (tgt := 25) dX11_usedMany_18 (by decide) (fun e5 => ?_) (fun e5 => ?_)
    · refine a_iconst (x := 0) dX11_usedMany_25 rfl ⟨by decide, by decide⟩ ?_
      exact a_cast (by first | rfl | simp only [if_pos e5]) (by first | rfl | simp only [if_pos e5]) J
    · refine a_iconst (x := 1) dX11_usedMany_21 rfl ⟨by decide, by decide⟩ ?_
      refine a_goto (tgt := 26) dX11_usedMany_22 (by decide) ?_
      exact a_cast (by first | rfl | simp only [if_neg e5]) (by first | rfl | simp only [if_neg e5]) J
theorem c_M_usedMany {d : Nat} (d0 : Nat) (hd : d0 < d)  {h : AH} {Q : Int → AH → Prop} (hy : A_M_usedMany_4 d0 Q 0 0 h) : Call d M_M_usedMany [vR 12 (-1)] h Q := by
  refine ⟨d0, hd, Big.of rfl (Nat.le_of_ble_eq_true rfl) ?_⟩
  show AW d0 M_M_usedMany Q 0 [some (vR 12 (-1)), none, none] [] h
  refine a_iconst (x := 0) dX11_usedMany_0 rfl ⟨by decide, by decide⟩ ?_
  refine a_istore_n (i := 1) (ls2 := [some (vR 12 (-1)), some (vI 0), none]) dX11_usedMany_1 rfl (Nat.le_of_ble_eq_true rfl) rfl ?_
  refine a_iconst (x := 0) dX11_usedMany_2 rfl ⟨by decide, by decide⟩ ?_
  refine a_istore_n (i := 2) (ls2 := [some (vR 12 (-1)), some (vI 0), some (vI 0)]) dX11_usedMany_3 rfl (Nat.le_of_ble_eq_true rfl) rfl ?_
  exact hy
def A_M_walks_55 (d : Nat) (Q : Int → AH → Prop) (p1 : Int) (p2 : Int) (p3 : Int) (v4 : Int) (h : AH) : Prop := AW d M_M_walks Q 55 [some (vR 12 (-1)), some (vI p1), some (vI p2), some (vI p3), some (vI v4), none, none] [] h
def A_M_walks_91 (d : Nat) (Q : Int → AH → Prop) (p2 : Int) (p3 : Int) (v4 : Int) (h : AH) : Prop := AW d M_M_walks Q 91 [some (vR 12 (-1)), none, some (vI p2), some (vI p3), some (vI v4), none, none] [] h
def A_M_walks_100 (d : Nat) (Q : Int → AH → Prop) (p2 : Int) (p3 : Int) (v4 : Int) (v5 : Int) (h : AH) : Prop := AW d M_M_walks Q 100 [some (vR 12 (-1)), none, some (vI p2), some (vI p3), some (vI v4), some (vI v5), none] [] h
def A_M_walks_177 (d : Nat) (Q : Int → AH → Prop) (p2 : Int) (p3 : Int) (v4 : Int) (v5 : Int) (h : AH) : Prop := AW d M_M_walks Q 177 [some (vR 12 (-1)), none, some (vI p2), some (vI p3), some (vI v4), some (vI v5), none] [] h
def A_M_walks_120 (d : Nat) (Q : Int → AH → Prop) (p2 : Int) (p3 : Int) (v4 : Int) (v5 : Int) (v6 : Int) (h : AH) : Prop := AW d M_M_walks Q 120 [some (vR 12 (-1)), none, some (vI p2), some (vI p3), some (vI v4), some (vI v5), some (vI v6)] [] h
theorem s_M_walks_55 {d : Nat} {Q : Int → AH → Prop} {p1 : Int} {p2 : Int} {p3 : Int} {v4 : Int} {h : AH} (hy : (((h.1 12 0) ≤ v4 → A_M_walks_91 d Q p2 p3 0 h) ∧ (v4 < (h.1 12 0) → (inb v4 40 ∧ (inI (v4 + 1) ∧ A_M_walks_55 d Q p1 p2 p3 (v4 + 1) (wL h 86 v4 (if v4 = p1 then (1 : Int) else 0))))))) : A_M_walks_55 d Q p1 p2 p3 v4 h := by
  show AW d M_M_walks Q 55 [some (vR 12 (-1)), some (vI p1), some (vI p2), some (vI p3), some (vI v4), none, none] [] h
  refine a_iload dX11_walks_55 rfl ?_
  refine a_aload_n dX11_walks_57 rfl ?_
  refine a_getI' (kz := 0) dX11_walks_58 fl_M_130 sk_12 rfl rfl (rfl) ?_
  refine a_icmp_ge (tgt := 88) dX11_walks_61 (by decide) (fun c => ?_) (fun c => ?_)
  · have hy := hy.1 c
    refine a_iconst (x := 0) dX11_walks_88 rfl ⟨by decide, by decide⟩ ?_
    refine a_istore (ls2 := [some (vR 12 (-1)), some (vI p1), some (vI p2), some (vI p3), some (vI 0), none, none]) dX11_walks_89 (Nat.le_of_ble_eq_true rfl) rfl ?_
    refine a_mask [true, false, true, true, true, true, true] (ls2 := [some (vR 12 (-1)), none, some (vI p2), some (vI p3), some (vI 0), none, none]) rfl rfl ?_
    exact hy
  · have hy := hy.2 (Int.not_le.mp c)
    refine a_aload_n dX11_walks_64 rfl ?_
    refine a_getR dX11_walks_65 fl_M_97 sk_12 rfl ?_
    refine a_iload dX11_walks_68 rfl ?_
    refine a_iload dX11_walks_70 rfl ?_
    refine a_iload_n dX11_walks_72 rfl ?_
    have J : AW d M_M_walks Q 81 [some (vR 12 (-1)), some (vI p1), some (vI p2), some (vI p3), some (vI v4), none, none] [vL (if v4 = p1 then (1 : Int) else 0), vI v4, vR 86 (-1)] h := by
      obtain ⟨c1, hy⟩ := hy
      refine a_last dX11_walks_81 sk_86 c1 ?_
      obtain ⟨c2, hy⟩ := hy
      refine a_iinc (y := v4 + 1) (ls2 := [some (vR 12 (-1)), some (vI p1), some (vI p2), some (vI p3), some (vI (v4 + 1)), none, none]) dX11_walks_82 rfl rfl c2 rfl ?_
      refine a_goto (tgt := 55) dX11_walks_85 (by decide) ?_
      exact hy
    refine a_icmp_ne (tgt := 80) dX11_walks_73 (by decide) (fun e3 => ?_) (fun e3 => ?_)
    · refine a_lconst (x := 0) dX11_walks_80 rfl ⟨by decide, by decide⟩ ?_
      exact a_cast (by first | rfl | simp only [if_neg e3]) (by first | rfl | simp only [if_neg e3]) J
    · refine a_lconst (x := 1) dX11_walks_76 rfl ⟨by decide, by decide⟩ ?_
      refine a_goto (tgt := 81) dX11_walks_77 (by decide) ?_
      exact a_cast (by first | rfl | simp only [if_pos (Decidable.not_not.mp e3)]) (by first | rfl | simp only [if_pos (Decidable.not_not.mp e3)]) J
theorem s_M_walks_91 {d : Nat} {Q : Int → AH → Prop} {p2 : Int} {p3 : Int} {v4 : Int} {h : AH} (hy : ((p3 ≤ v4 → (inb p2 40 ∧ Q (h.2.1 86 p2) h)) ∧ (v4 < p3 → A_M_walks_100 d Q p2 p3 v4 0 h))) : A_M_walks_91 d Q p2 p3 v4 h := by
  show AW d M_M_walks Q 91 [some (vR 12 (-1)), none, some (vI p2), some (vI p3), some (vI v4), none, none] [] h
  refine a_iload dX11_walks_91 rfl ?_
  refine a_iload_n dX11_walks_93 rfl ?_
  refine a_icmp_ge (tgt := 212) dX11_walks_94 (by decide) (fun c => ?_) (fun c => ?_)
  · have hy := hy.1 c
    refine a_aload_n dX11_walks_212 rfl ?_
    refine a_getR dX11_walks_213 fl_M_97 sk_12 rfl ?_
    refine a_iload_n dX11_walks_216 rfl ?_
    obtain ⟨c1, hy⟩ := hy
    refine a_lald' dX11_walks_217 sk_86 c1 (rfl) ?_
    exact a_lret dX11_walks_218 rfl hy
  · have hy := hy.2 (Int.not_le.mp c)
    refine a_iconst (x := 0) dX11_walks_97 rfl ⟨by decide, by decide⟩ ?_
    refine a_istore (ls2 := [some (vR 12 (-1)), none, some (vI p2), some (vI p3), some (vI v4), some (vI 0), none]) dX11_walks_98 (Nat.le_of_ble_eq_true rfl) rfl ?_
    exact hy
theorem s_M_walks_100 {d : Nat} {Q : Int → AH → Prop} {p2 : Int} {p3 : Int} {v4 : Int} {v5 : Int} {h : AH} (hy : (((h.1 12 0) ≤ v5 → A_M_walks_177 d Q p2 p3 v4 0 h) ∧ (v5 < (h.1 12 0) → (inb v5 40 ∧ A_M_walks_120 d Q p2 p3 v4 v5 0 (wL h 87 v5 0))))) : A_M_walks_100 d Q p2 p3 v4 v5 h := by
  show AW d M_M_walks Q 100 [some (vR 12 (-1)), none, some (vI p2), some (vI p3), some (vI v4), some (vI v5), none] [] h
  refine a_iload dX11_walks_100 rfl ?_
  refine a_aload_n dX11_walks_102 rfl ?_
  refine a_getI' (kz := 0) dX11_walks_103 fl_M_130 sk_12 rfl rfl (rfl) ?_
  refine a_icmp_ge (tgt := 174) dX11_walks_106 (by decide) (fun c => ?_) (fun c => ?_)
  · have hy := hy.1 c
    refine a_iconst (x := 0) dX11_walks_174 rfl ⟨by decide, by decide⟩ ?_
    refine a_istore (ls2 := [some (vR 12 (-1)), none, some (vI p2), some (vI p3), some (vI v4), some (vI 0), none]) dX11_walks_175 (Nat.le_of_ble_eq_true rfl) rfl ?_
    exact hy
  · have hy := hy.2 (Int.not_le.mp c)
    refine a_aload_n dX11_walks_109 rfl ?_
    refine a_getR dX11_walks_110 fl_M_100 sk_12 rfl ?_
    refine a_iload dX11_walks_113 rfl ?_
    refine a_lconst (x := 0) dX11_walks_115 rfl ⟨by decide, by decide⟩ ?_
    obtain ⟨c1, hy⟩ := hy
    refine a_last dX11_walks_116 sk_87 c1 ?_
    refine a_iconst (x := 0) dX11_walks_117 rfl ⟨by decide, by decide⟩ ?_
    refine a_istore (ls2 := [some (vR 12 (-1)), none, some (vI p2), some (vI p3), some (vI v4), some (vI v5), some (vI 0)]) dX11_walks_118 (Nat.le_of_ble_eq_true rfl) rfl ?_
    exact hy
theorem s_M_walks_177 {d : Nat} {Q : Int → AH → Prop} {p2 : Int} {p3 : Int} {v4 : Int} {v5 : Int} {h : AH} (hy : (((h.1 12 0) ≤ v5 → (inI (v4 + 1) ∧ A_M_walks_91 d Q p2 p3 (v4 + 1) h)) ∧ (v5 < (h.1 12 0) → (inb v5 40 ∧ (inI (v5 + 1) ∧ A_M_walks_177 d Q p2 p3 v4 (v5 + 1) (wL h 86 v5 (h.2.1 87 v5))))))) : A_M_walks_177 d Q p2 p3 v4 v5 h := by
  show AW d M_M_walks Q 177 [some (vR 12 (-1)), none, some (vI p2), some (vI p3), some (vI v4), some (vI v5), none] [] h
  refine a_iload dX11_walks_177 rfl ?_
  refine a_aload_n dX11_walks_179 rfl ?_
  refine a_getI' (kz := 0) dX11_walks_180 fl_M_130 sk_12 rfl rfl (rfl) ?_
  refine a_icmp_ge (tgt := 206) dX11_walks_183 (by decide) (fun c => ?_) (fun c => ?_)
  · have hy := hy.1 c
    obtain ⟨c1, hy⟩ := hy
    refine a_iinc (y := v4 + 1) (ls2 := [some (vR 12 (-1)), none, some (vI p2), some (vI p3), some (vI (v4 + 1)), some (vI v5), none]) dX11_walks_206 rfl rfl c1 rfl ?_
    refine a_goto (tgt := 91) dX11_walks_209 (by decide) ?_
    refine a_mask [true, true, true, true, true, false, true] (ls2 := [some (vR 12 (-1)), none, some (vI p2), some (vI p3), some (vI (v4 + 1)), none, none]) rfl rfl ?_
    exact hy
  · have hy := hy.2 (Int.not_le.mp c)
    refine a_aload_n dX11_walks_186 rfl ?_
    refine a_getR dX11_walks_187 fl_M_97 sk_12 rfl ?_
    refine a_iload dX11_walks_190 rfl ?_
    refine a_aload_n dX11_walks_192 rfl ?_
    refine a_getR dX11_walks_193 fl_M_100 sk_12 rfl ?_
    refine a_iload dX11_walks_196 rfl ?_
    obtain ⟨c2, hy⟩ := hy
    refine a_lald' dX11_walks_198 sk_87 c2 (rfl) ?_
    refine a_last dX11_walks_199 sk_86 c2 ?_
    obtain ⟨c3, hy⟩ := hy
    refine a_iinc (y := v5 + 1) (ls2 := [some (vR 12 (-1)), none, some (vI p2), some (vI p3), some (vI v4), some (vI (v5 + 1)), none]) dX11_walks_200 rfl rfl c3 rfl ?_
    refine a_goto (tgt := 177) dX11_walks_203 (by decide) ?_
    exact hy
theorem s_M_walks_120 {d : Nat} {Q : Int → AH → Prop} {p2 : Int} {p3 : Int} {v4 : Int} {v5 : Int} {v6 : Int} {h : AH} (hy : (((h.1 12 0) ≤ v6 → (inI (v5 + 1) ∧ A_M_walks_100 d Q p2 p3 v4 (v5 + 1) h)) ∧ (v6 < (h.1 12 0) → (Call d M_M_isStep [vR 12 (-1), vI v6, vI v5] h (fun r3 h2 => ((r3 = 0 → (inI (v6 + 1) ∧ A_M_walks_120 d Q p2 p3 v4 v5 (v6 + 1) h2)) ∧ (r3 ≠ 0 → (inb v5 40 ∧ (inb v6 40 ∧ (inI (v6 + 1) ∧ A_M_walks_120 d Q p2 p3 v4 v5 (v6 + 1) (wL h2 87 v5 (w64 ((h2.2.1 87 v5) + (h2.2.1 86 v6)))))))))))))) : A_M_walks_120 d Q p2 p3 v4 v5 v6 h := by
  show AW d M_M_walks Q 120 [some (vR 12 (-1)), none, some (vI p2), some (vI p3), some (vI v4), some (vI v5), some (vI v6)] [] h
  refine a_iload dX11_walks_120 rfl ?_
  refine a_aload_n dX11_walks_122 rfl ?_
  refine a_getI' (kz := 0) dX11_walks_123 fl_M_130 sk_12 rfl rfl (rfl) ?_
  refine a_icmp_ge (tgt := 168) dX11_walks_126 (by decide) (fun c => ?_) (fun c => ?_)
  · have hy := hy.1 c
    obtain ⟨c1, hy⟩ := hy
    refine a_iinc (y := v5 + 1) (ls2 := [some (vR 12 (-1)), none, some (vI p2), some (vI p3), some (vI v4), some (vI (v5 + 1)), some (vI v6)]) dX11_walks_168 rfl rfl c1 rfl ?_
    refine a_goto (tgt := 100) dX11_walks_171 (by decide) ?_
    refine a_mask [true, true, true, true, true, true, false] (ls2 := [some (vR 12 (-1)), none, some (vI p2), some (vI p3), some (vI v4), some (vI (v5 + 1)), none]) rfl rfl ?_
    exact hy
  · have hy := hy.2 (Int.not_le.mp c)
    refine a_aload_n dX11_walks_129 rfl ?_
    refine a_iload dX11_walks_130 rfl ?_
    refine a_iload dX11_walks_132 rfl ?_
    refine a_callVi (as := [vI v6, vI v5]) (st := []) dX11_walks_134 lk_M_294 sk_12 rfl rfl (Nat.le_of_ble_eq_true rfl) (Or.inr rfl) (Call.mono hy (fun r3 h2 _ hy => ?_))
    refine a_if_eq (tgt := 162) dX11_walks_137 (by decide) (fun c => ?_) (fun c => ?_)
    · have hy := hy.1 c
      obtain ⟨c4, hy⟩ := hy
      refine a_iinc (y := v6 + 1) (ls2 := [some (vR 12 (-1)), none, some (vI p2), some (vI p3), some (vI v4), some (vI v5), some (vI (v6 + 1))]) dX11_walks_162 rfl rfl c4 rfl ?_
      refine a_goto (tgt := 120) dX11_walks_165 (by decide) ?_
      exact hy
    · have hy := hy.2 (c)
      refine a_aload_n dX11_walks_140 rfl ?_
      refine a_getR dX11_walks_141 fl_M_100 sk_12 rfl ?_
      refine a_iload dX11_walks_144 rfl ?_
      refine a_aload_n dX11_walks_146 rfl ?_
      refine a_getR dX11_walks_147 fl_M_100 sk_12 rfl ?_
      refine a_iload dX11_walks_150 rfl ?_
      obtain ⟨c5, hy⟩ := hy
      refine a_lald' dX11_walks_152 sk_87 c5 (rfl) ?_
      refine a_aload_n dX11_walks_153 rfl ?_
      refine a_getR dX11_walks_154 fl_M_97 sk_12 rfl ?_
      refine a_iload dX11_walks_157 rfl ?_
      obtain ⟨c6, hy⟩ := hy
      refine a_lald' dX11_walks_159 sk_86 c6 (rfl) ?_
      refine a_laddW dX11_walks_160 ?_
      refine a_last dX11_walks_161 sk_87 c5 ?_
      obtain ⟨c7, hy⟩ := hy
      refine a_iinc (y := v6 + 1) (ls2 := [some (vR 12 (-1)), none, some (vI p2), some (vI p3), some (vI v4), some (vI v5), some (vI (v6 + 1))]) dX11_walks_162 rfl rfl c7 rfl ?_
      refine a_goto (tgt := 120) dX11_walks_165 (by decide) ?_
      exact hy
theorem c_M_walks {d : Nat} (d0 : Nat) (hd : d0 < d) {p1 : Int} {p2 : Int} {p3 : Int} {h : AH} {Q : Int → AH → Prop} (hy : Call d0 M_M_isWord [vR 12 (-1), vI p1] h (fun r2 h1 => ((r2 = 0 → Q (-1) h1) ∧ (r2 ≠ 0 → (Call d0 M_M_isWord [vR 12 (-1), vI p2] h1 (fun r4 h3 => ((r4 = 0 → Q (-1) h3) ∧ (r4 ≠ 0 → (Call d0 M_M_in [vI p3, vI 0, vI 10] h3 (fun r6 h5 => ((r6 ≠ 0 → (Call d0 M_M_isUsed [vR 12 (-1), vI p1] h5 (fun r8 h7 => ((r8 = 0 → Q 0 h7) ∧ (r8 ≠ 0 → (Call d0 M_M_isUsed [vR 12 (-1), vI p2] h7 (fun r10 h9 => ((r10 ≠ 0 → (Call d0 M_M_laysSteps [vR 12 (-1)] h9 (fun _ h11 => A_M_walks_55 d0 Q p1 p2 p3 0 h11))) ∧ (r10 = 0 → Q 0 h9))))))))) ∧ (r6 = 0 → Q (-1) h5)))))))))))) : Call d M_M_walks [vR 12 (-1), vI p1, vI p2, vI p3] h Q := by
  refine ⟨d0, hd, Big.of rfl (Nat.le_of_ble_eq_true rfl) ?_⟩
  show AW d0 M_M_walks Q 0 [some (vR 12 (-1)), some (vI p1), some (vI p2), some (vI p3), none, none, none] [] h
  refine a_aload_n dX11_walks_0 rfl ?_
  refine a_iload_n dX11_walks_1 rfl ?_
  refine a_callVi (as := [vI p1]) (st := []) dX11_walks_2 lk_M_154 sk_12 rfl rfl (Nat.le_of_ble_eq_true rfl) (Or.inr rfl) (Call.mono hy (fun r2 h1 _ hy => ?_))
  refine a_if_eq (tgt := 26) dX11_walks_5 (by decide) (fun c => ?_) (fun c => ?_)
  · have hy := hy.1 c
    refine a_ldc2 (x := (-1)) dX11_walks_26 kc_M_312 ⟨by decide, by decide⟩ ?_
    exact a_lret dX11_walks_29 rfl hy
  · have hy := hy.2 (c)
    refine a_aload_n dX11_walks_8 rfl ?_
    refine a_iload_n dX11_walks_9 rfl ?_
    refine a_callVi (as := [vI p2]) (st := []) dX11_walks_10 lk_M_154 sk_12 rfl rfl (Nat.le_of_ble_eq_true rfl) (Or.inr rfl) (Call.mono hy (fun r4 h3 _ hy => ?_))
    refine a_if_eq (tgt := 26) dX11_walks_13 (by decide) (fun c => ?_) (fun c => ?_)
    · have hy := hy.1 c
      refine a_ldc2 (x := (-1)) dX11_walks_26 kc_M_312 ⟨by decide, by decide⟩ ?_
      exact a_lret dX11_walks_29 rfl hy
    · have hy := hy.2 (c)
      refine a_iload_n dX11_walks_16 rfl ?_
      refine a_iconst (x := 0) dX11_walks_17 rfl ⟨by decide, by decide⟩ ?_
      refine a_bipush (x := 10) dX11_walks_18 (by decide) ⟨by decide, by decide⟩ ?_
      refine a_callSi (as := [vI p3, vI 0, vI 10]) (st := []) dX11_walks_20 lk_M_139 rfl rfl (Nat.le_of_ble_eq_true rfl) (Or.inr rfl) (Call.mono hy (fun r6 h5 _ hy => ?_))
      refine a_if_ne (tgt := 30) dX11_walks_23 (by decide) (fun c => ?_) (fun c => ?_)
      · have hy := hy.1 c
        refine a_aload_n dX11_walks_30 rfl ?_
        refine a_iload_n dX11_walks_31 rfl ?_
        refine a_callVi (as := [vI p1]) (st := []) dX11_walks_32 lk_M_282 sk_12 rfl rfl (Nat.le_of_ble_eq_true rfl) (Or.inr rfl) (Call.mono hy (fun r8 h7 _ hy => ?_))
        refine a_if_eq (tgt := 46) dX11_walks_35 (by decide) (fun c => ?_) (fun c => ?_)
        · have hy := hy.1 c
          refine a_lconst (x := 0) dX11_walks_46 rfl ⟨by decide, by decide⟩ ?_
          exact a_lret dX11_walks_47 rfl hy
        · have hy := hy.2 (c)
          refine a_aload_n dX11_walks_38 rfl ?_
          refine a_iload_n dX11_walks_39 rfl ?_
          refine a_callVi (as := [vI p2]) (st := []) dX11_walks_40 lk_M_282 sk_12 rfl rfl (Nat.le_of_ble_eq_true rfl) (Or.inr rfl) (Call.mono hy (fun r10 h9 _ hy => ?_))
          refine a_if_ne (tgt := 48) dX11_walks_43 (by decide) (fun c => ?_) (fun c => ?_)
          · have hy := hy.1 c
            refine a_aload_n dX11_walks_48 rfl ?_
            refine a_callVv (as := []) (st := []) dX11_walks_49 lk_M_291 sk_12 rfl rfl (Nat.le_of_ble_eq_true rfl) rfl (Call.mono hy (fun _ h11 _ hy => ?_))
            refine a_iconst (x := 0) dX11_walks_52 rfl ⟨by decide, by decide⟩ ?_
            refine a_istore (ls2 := [some (vR 12 (-1)), some (vI p1), some (vI p2), some (vI p3), some (vI 0), none, none]) dX11_walks_53 (Nat.le_of_ble_eq_true rfl) rfl ?_
            exact hy
          · have hy := hy.2 (Decidable.not_not.mp c)
            refine a_lconst (x := 0) dX11_walks_46 rfl ⟨by decide, by decide⟩ ?_
            exact a_lret dX11_walks_47 rfl hy
      · have hy := hy.2 (Decidable.not_not.mp c)
        refine a_ldc2 (x := (-1)) dX11_walks_26 kc_M_312 ⟨by decide, by decide⟩ ?_
        exact a_lret dX11_walks_29 rfl hy
def A_M_wins_3 (d : Nat) (Q : Int → AH → Prop) (p1 : Int) (p2 : Int) (p3 : Int) (v4 : Int) (h : AH) : Prop := AW d M_M_wins Q 3 [some (vR 12 (-1)), some (vI p1), some (vI p2), some (vI p3), some (vI v4)] [] h
theorem s_M_wins_3 {d : Nat} {Q : Int → AH → Prop} {p1 : Int} {p2 : Int} {p3 : Int} {v4 : Int} {h : AH} (hy : ((p1 ≤ v4 → Q 0 h) ∧ (v4 < p1 → (((iand (ishr p2 v4) 1) ≠ 0 → (inI (v4 + 1) ∧ A_M_wins_3 d Q p1 p2 p3 (v4 + 1) h)) ∧ ((iand (ishr p2 v4) 1) = 0 → (Call d M_M_stepTold [vR 12 (-1), vI p3, vI v4] h (fun r3 h2 => ((1000000000 ≤ r3 → (inI (v4 + 1) ∧ A_M_wins_3 d Q p1 p2 p3 (v4 + 1) h2)) ∧ (r3 < 1000000000 → (inI (13 * (ior p2 (ishl 1 v4))) ∧ (inI ((13 * (ior p2 (ishl 1 v4))) + v4) ∧ (inb ((13 * (ior p2 (ishl 1 v4))) + v4) 53248 ∧ (((h2.1 89 ((13 * (ior p2 (ishl 1 v4))) + v4)) ≠ 0 → (inI (v4 + 1) ∧ A_M_wins_3 d Q p1 p2 p3 (v4 + 1) h2)) ∧ ((h2.1 89 ((13 * (ior p2 (ishl 1 v4))) + v4)) = 0 → Q 1 h2)))))))))))))) : A_M_wins_3 d Q p1 p2 p3 v4 h := by
  show AW d M_M_wins Q 3 [some (vR 12 (-1)), some (vI p1), some (vI p2), some (vI p3), some (vI v4)] [] h
  refine a_iload dX11_wins_3 rfl ?_
  refine a_iload_n dX11_wins_5 rfl ?_
  refine a_icmp_ge (tgt := 58) dX11_wins_6 (by decide) (fun c => ?_) (fun c => ?_)
  · have hy := hy.1 c
    refine a_iconst (x := 0) dX11_wins_58 rfl ⟨by decide, by decide⟩ ?_
    exact a_zret dX11_wins_59 rfl (Or.inl rfl) hy
  · have hy := hy.2 (Int.not_le.mp c)
    refine a_iload_n dX11_wins_9 rfl ?_
    refine a_iload dX11_wins_10 rfl ?_
    refine a_ishr dX11_wins_12 ?_
    refine a_iconst (x := 1) dX11_wins_13 rfl ⟨by decide, by decide⟩ ?_
    refine a_iand dX11_wins_14 ?_
    refine a_if_ne (tgt := 52) dX11_wins_15 (by decide) (fun c => ?_) (fun c => ?_)
    · have hy := hy.1 c
      obtain ⟨c1, hy⟩ := hy
      refine a_iinc (y := v4 + 1) (ls2 := [some (vR 12 (-1)), some (vI p1), some (vI p2), some (vI p3), some (vI (v4 + 1))]) dX11_wins_52 rfl rfl c1 rfl ?_
      refine a_goto (tgt := 3) dX11_wins_55 (by decide) ?_
      exact hy
    · have hy := hy.2 (Decidable.not_not.mp c)
      refine a_aload_n dX11_wins_18 rfl ?_
      refine a_iload_n dX11_wins_19 rfl ?_
      refine a_iload dX11_wins_20 rfl ?_
      refine a_callVi (as := [vI p3, vI v4]) (st := []) dX11_wins_22 lk_M_370 sk_12 rfl rfl (Nat.le_of_ble_eq_true rfl) (Or.inl rfl) (Call.mono hy (fun r3 h2 _ hy => ?_))
      refine a_ldc (x := 1000000000) dX11_wins_25 kc_M_129 ⟨by decide, by decide⟩ ?_
      refine a_icmp_ge (tgt := 52) dX11_wins_27 (by decide) (fun c => ?_) (fun c => ?_)
      · have hy := hy.1 c
        obtain ⟨c4, hy⟩ := hy
        refine a_iinc (y := v4 + 1) (ls2 := [some (vR 12 (-1)), some (vI p1), some (vI p2), some (vI p3), some (vI (v4 + 1))]) dX11_wins_52 rfl rfl c4 rfl ?_
        refine a_goto (tgt := 3) dX11_wins_55 (by decide) ?_
        exact hy
      · have hy := hy.2 (Int.not_le.mp c)
        refine a_aload_n dX11_wins_30 rfl ?_
        refine a_getR dX11_wins_31 fl_M_107 sk_12 rfl ?_
        refine a_bipush (x := 13) dX11_wins_34 (by decide) ⟨by decide, by decide⟩ ?_
        refine a_iload_n dX11_wins_36 rfl ?_
        refine a_iconst (x := 1) dX11_wins_37 rfl ⟨by decide, by decide⟩ ?_
        refine a_iload dX11_wins_38 rfl ?_
        refine a_ishl dX11_wins_40 ?_
        refine a_ior dX11_wins_41 ?_
        obtain ⟨c5, hy⟩ := hy
        refine a_imul dX11_wins_42 c5 ?_
        refine a_iload dX11_wins_43 rfl ?_
        obtain ⟨c6, hy⟩ := hy
        refine a_iadd dX11_wins_45 c6 ?_
        obtain ⟨c7, hy⟩ := hy
        refine a_iald' dX11_wins_46 sk_89 c7 (rfl) ?_
        refine a_if_ne (tgt := 52) dX11_wins_47 (by decide) (fun c => ?_) (fun c => ?_)
        · have hy := hy.1 c
          obtain ⟨c8, hy⟩ := hy
          refine a_iinc (y := v4 + 1) (ls2 := [some (vR 12 (-1)), some (vI p1), some (vI p2), some (vI p3), some (vI (v4 + 1))]) dX11_wins_52 rfl rfl c8 rfl ?_
          refine a_goto (tgt := 3) dX11_wins_55 (by decide) ?_
          exact hy
        · have hy := hy.2 (Decidable.not_not.mp c)
          refine a_iconst (x := 1) dX11_wins_50 rfl ⟨by decide, by decide⟩ ?_
          exact a_zret dX11_wins_51 rfl (Or.inr rfl) hy
theorem c_M_wins {d : Nat} (d0 : Nat) (hd : d0 < d) {p1 : Int} {p2 : Int} {p3 : Int} {h : AH} {Q : Int → AH → Prop} (hy : A_M_wins_3 d0 Q p1 p2 p3 0 h) : Call d M_M_wins [vR 12 (-1), vI p1, vI p2, vI p3] h Q := by
  refine ⟨d0, hd, Big.of rfl (Nat.le_of_ble_eq_true rfl) ?_⟩
  show AW d0 M_M_wins Q 0 [some (vR 12 (-1)), some (vI p1), some (vI p2), some (vI p3), none] [] h
  refine a_iconst (x := 0) dX11_wins_0 rfl ⟨by decide, by decide⟩ ?_
  refine a_istore (ls2 := [some (vR 12 (-1)), some (vI p1), some (vI p2), some (vI p3), some (vI 0)]) dX11_wins_1 (Nat.le_of_ble_eq_true rfl) rfl ?_
  exact hy
def A_M_without_59 (d : Nat) (Q : Int → AH → Prop) (p1 : Int) (p2 : Int) (v3 : Int) (v5 : Int) (h : AH) : Prop := AW d M_M_without Q 59 [some (vR 12 (-1)), some (vI p1), some (vI p2), some (vL v3), none, some (vI v5)] [] h
theorem s_M_without_59 {d : Nat} {Q : Int → AH → Prop} {p1 : Int} {p2 : Int} {v3 : Int} {v5 : Int} {h : AH} (hy : (((h.1 12 0) ≤ v5 → Q v3 h) ∧ (v5 < (h.1 12 0) → ((v5 = p1 → (inI (v5 + 1) ∧ A_M_without_59 d Q p1 p2 v3 (v5 + 1) h)) ∧ (v5 ≠ p1 → ((v5 = p2 → (inI (v5 + 1) ∧ A_M_without_59 d Q p1 p2 v3 (v5 + 1) h)) ∧ (v5 ≠ p2 → (Call d M_M_comes [vR 12 (-1), vI p1, vI p2, vI v5] h (fun r4 h3 => ((r4 ≠ 0 → (inI (v5 + 1) ∧ A_M_without_59 d Q p1 p2 v3 (v5 + 1) h3)) ∧ (r4 = 0 → (inI (v5 + 1) ∧ A_M_without_59 d Q p1 p2 (lor v3 (lshl 1 v5)) (v5 + 1) h3)))))))))))) : A_M_without_59 d Q p1 p2 v3 v5 h := by
  show AW d M_M_without Q 59 [some (vR 12 (-1)), some (vI p1), some (vI p2), some (vL v3), none, some (vI v5)] [] h
  refine a_iload dX11_without_59 rfl ?_
  refine a_aload_n dX11_without_61 rfl ?_
  refine a_getI' (kz := 0) dX11_without_62 fl_M_130 sk_12 rfl rfl (rfl) ?_
  refine a_icmp_ge (tgt := 104) dX11_without_65 (by decide) (fun c => ?_) (fun c => ?_)
  · have hy := hy.1 c
    refine a_lload_n dX11_without_104 rfl ?_
    exact a_lret dX11_without_105 rfl hy
  · have hy := hy.2 (Int.not_le.mp c)
    refine a_iload dX11_without_68 rfl ?_
    refine a_iload_n dX11_without_70 rfl ?_
    refine a_icmp_eq (tgt := 98) dX11_without_71 (by decide) (fun c => ?_) (fun c => ?_)
    · have hy := hy.1 c
      obtain ⟨c1, hy⟩ := hy
      refine a_iinc (y := v5 + 1) (ls2 := [some (vR 12 (-1)), some (vI p1), some (vI p2), some (vL v3), none, some (vI (v5 + 1))]) dX11_without_98 rfl rfl c1 rfl ?_
      refine a_goto (tgt := 59) dX11_without_101 (by decide) ?_
      exact hy
    · have hy := hy.2 (c)
      refine a_iload dX11_without_74 rfl ?_
      refine a_iload_n dX11_without_76 rfl ?_
      refine a_icmp_eq (tgt := 98) dX11_without_77 (by decide) (fun c => ?_) (fun c => ?_)
      · have hy := hy.1 c
        obtain ⟨c2, hy⟩ := hy
        refine a_iinc (y := v5 + 1) (ls2 := [some (vR 12 (-1)), some (vI p1), some (vI p2), some (vL v3), none, some (vI (v5 + 1))]) dX11_without_98 rfl rfl c2 rfl ?_
        refine a_goto (tgt := 59) dX11_without_101 (by decide) ?_
        exact hy
      · have hy := hy.2 (c)
        refine a_aload_n dX11_without_80 rfl ?_
        refine a_iload_n dX11_without_81 rfl ?_
        refine a_iload_n dX11_without_82 rfl ?_
        refine a_iload dX11_without_83 rfl ?_
        refine a_callVi (as := [vI p1, vI p2, vI v5]) (st := []) dX11_without_85 lk_M_321 sk_12 rfl rfl (Nat.le_of_ble_eq_true rfl) (Or.inr rfl) (Call.mono hy (fun r4 h3 _ hy => ?_))
        refine a_if_ne (tgt := 98) dX11_without_88 (by decide) (fun c => ?_) (fun c => ?_)
        · have hy := hy.1 c
          obtain ⟨c5, hy⟩ := hy
          refine a_iinc (y := v5 + 1) (ls2 := [some (vR 12 (-1)), some (vI p1), some (vI p2), some (vL v3), none, some (vI (v5 + 1))]) dX11_without_98 rfl rfl c5 rfl ?_
          refine a_goto (tgt := 59) dX11_without_101 (by decide) ?_
          exact hy
        · have hy := hy.2 (Decidable.not_not.mp c)
          refine a_lload_n dX11_without_91 rfl ?_
          refine a_lconst (x := 1) dX11_without_92 rfl ⟨by decide, by decide⟩ ?_
          refine a_iload dX11_without_93 rfl ?_
          refine a_lshl dX11_without_95 ?_
          refine a_lor dX11_without_96 ?_
          refine a_lstore_n (i := 3) (ls2 := [some (vR 12 (-1)), some (vI p1), some (vI p2), some (vL (lor v3 (lshl 1 v5))), none, some (vI v5)]) dX11_without_97 rfl (Nat.le_of_ble_eq_true rfl) rfl ?_
          obtain ⟨c6, hy⟩ := hy
          refine a_iinc (y := v5 + 1) (ls2 := [some (vR 12 (-1)), some (vI p1), some (vI p2), some (vL (lor v3 (lshl 1 v5))), none, some (vI (v5 + 1))]) dX11_without_98 rfl rfl c6 rfl ?_
          refine a_goto (tgt := 59) dX11_without_101 (by decide) ?_
          exact hy
theorem c_M_without {d : Nat} (d0 : Nat) (hd : d0 < d) {p1 : Int} {p2 : Int} {h : AH} {Q : Int → AH → Prop} (hy : Call d0 M_M_isWord [vR 12 (-1), vI p1] h (fun r2 h1 => ((r2 = 0 → Q (-1) h1) ∧ (r2 ≠ 0 → (Call d0 M_M_isWord [vR 12 (-1), vI p2] h1 (fun r4 h3 => ((r4 ≠ 0 → (Call d0 M_M_laysSteps [vR 12 (-1)] h3 (fun _ h5 => Call d0 M_M_isUsed [vR 12 (-1), vI p1] h5 (fun r7 h6 => ((r7 = 0 → Q (-2) h6) ∧ (r7 ≠ 0 → (Call d0 M_M_isUsed [vR 12 (-1), vI p2] h6 (fun r9 h8 => ((r9 = 0 → Q (-2) h8) ∧ (r9 ≠ 0 → (Call d0 M_M_comes [vR 12 (-1), vI p1, vI p2, vI (-1)] h8 (fun r11 h10 => ((r11 ≠ 0 → A_M_without_59 d0 Q p1 p2 0 0 h10) ∧ (r11 = 0 → Q (-2) h10)))))))))))))) ∧ (r4 = 0 → Q (-1) h3)))))))) : Call d M_M_without [vR 12 (-1), vI p1, vI p2] h Q := by
  refine ⟨d0, hd, Big.of rfl (Nat.le_of_ble_eq_true rfl) ?_⟩
  show AW d0 M_M_without Q 0 [some (vR 12 (-1)), some (vI p1), some (vI p2), none, none, none] [] h
  refine a_aload_n dX11_without_0 rfl ?_
  refine a_iload_n dX11_without_1 rfl ?_
  refine a_callVi (as := [vI p1]) (st := []) dX11_without_2 lk_M_154 sk_12 rfl rfl (Nat.le_of_ble_eq_true rfl) (Or.inr rfl) (Call.mono hy (fun r2 h1 _ hy => ?_))
  refine a_if_eq (tgt := 16) dX11_without_5 (by decide) (fun c => ?_) (fun c => ?_)
  · have hy := hy.1 c
    refine a_ldc2 (x := (-1)) dX11_without_16 kc_M_312 ⟨by decide, by decide⟩ ?_
    exact a_lret dX11_without_19 rfl hy
  · have hy := hy.2 (c)
    refine a_aload_n dX11_without_8 rfl ?_
    refine a_iload_n dX11_without_9 rfl ?_
    refine a_callVi (as := [vI p2]) (st := []) dX11_without_10 lk_M_154 sk_12 rfl rfl (Nat.le_of_ble_eq_true rfl) (Or.inr rfl) (Call.mono hy (fun r4 h3 _ hy => ?_))
    refine a_if_ne (tgt := 20) dX11_without_13 (by decide) (fun c => ?_) (fun c => ?_)
    · have hy := hy.1 c
      refine a_aload_n dX11_without_20 rfl ?_
      refine a_callVv (as := []) (st := []) dX11_without_21 lk_M_291 sk_12 rfl rfl (Nat.le_of_ble_eq_true rfl) rfl (Call.mono hy (fun _ h5 _ hy => ?_))
      refine a_aload_n dX11_without_24 rfl ?_
      refine a_iload_n dX11_without_25 rfl ?_
      refine a_callVi (as := [vI p1]) (st := []) dX11_without_26 lk_M_282 sk_12 rfl rfl (Nat.le_of_ble_eq_true rfl) (Or.inr rfl) (Call.mono hy (fun r7 h6 _ hy => ?_))
      refine a_if_eq (tgt := 50) dX11_without_29 (by decide) (fun c => ?_) (fun c => ?_)
      · have hy := hy.1 c
        refine a_ldc2 (x := (-2)) dX11_without_50 kc_M_324 ⟨by decide, by decide⟩ ?_
        exact a_lret dX11_without_53 rfl hy
      · have hy := hy.2 (c)
        refine a_aload_n dX11_without_32 rfl ?_
        refine a_iload_n dX11_without_33 rfl ?_
        refine a_callVi (as := [vI p2]) (st := []) dX11_without_34 lk_M_282 sk_12 rfl rfl (Nat.le_of_ble_eq_true rfl) (Or.inr rfl) (Call.mono hy (fun r9 h8 _ hy => ?_))
        refine a_if_eq (tgt := 50) dX11_without_37 (by decide) (fun c => ?_) (fun c => ?_)
        · have hy := hy.1 c
          refine a_ldc2 (x := (-2)) dX11_without_50 kc_M_324 ⟨by decide, by decide⟩ ?_
          exact a_lret dX11_without_53 rfl hy
        · have hy := hy.2 (c)
          refine a_aload_n dX11_without_40 rfl ?_
          refine a_iload_n dX11_without_41 rfl ?_
          refine a_iload_n dX11_without_42 rfl ?_
          refine a_iconst (x := (-1)) dX11_without_43 rfl ⟨by decide, by decide⟩ ?_
          refine a_callVi (as := [vI p1, vI p2, vI (-1)]) (st := []) dX11_without_44 lk_M_321 sk_12 rfl rfl (Nat.le_of_ble_eq_true rfl) (Or.inr rfl) (Call.mono hy (fun r11 h10 _ hy => ?_))
          refine a_if_ne (tgt := 54) dX11_without_47 (by decide) (fun c => ?_) (fun c => ?_)
          · have hy := hy.1 c
            refine a_lconst (x := 0) dX11_without_54 rfl ⟨by decide, by decide⟩ ?_
            refine a_lstore_n (i := 3) (ls2 := [some (vR 12 (-1)), some (vI p1), some (vI p2), some (vL 0), none, none]) dX11_without_55 rfl (Nat.le_of_ble_eq_true rfl) rfl ?_
            refine a_iconst (x := 0) dX11_without_56 rfl ⟨by decide, by decide⟩ ?_
            refine a_istore (ls2 := [some (vR 12 (-1)), some (vI p1), some (vI p2), some (vL 0), none, some (vI 0)]) dX11_without_57 (Nat.le_of_ble_eq_true rfl) rfl ?_
            exact hy
          · have hy := hy.2 (Decidable.not_not.mp c)
            refine a_ldc2 (x := (-2)) dX11_without_50 kc_M_324 ⟨by decide, by decide⟩ ?_
            exact a_lret dX11_without_53 rfl hy
    · have hy := hy.2 (Decidable.not_not.mp c)
      refine a_ldc2 (x := (-1)) dX11_without_16 kc_M_312 ⟨by decide, by decide⟩ ?_
      exact a_lret dX11_without_19 rfl hy
def A_M_word_70 (d : Nat) (Q : Int → AH → Prop) (p1 : Int) (p2 : Int) (p3 : Int) (v4 : Int) (h : AH) : Prop := AW d M_M_word Q 70 [some (vR 12 (-1)), some (vI p1), some (vI p2), some (vI p3), some (vI v4)] [] h
theorem s_M_word_70 {d : Nat} {Q : Int → AH → Prop} {p1 : Int} {p2 : Int} {p3 : Int} {v4 : Int} {h : AH} (hy : ((p1 ≤ v4 → (inb (h.1 12 0) 40 ∧ (inI ((h.1 12 0) + 1) ∧ (inI (((h.1 12 0) + 1) - 1) ∧ Q (((h.1 12 0) + 1) - 1) (wI (wI (wI (wI (wI h 58 (h.1 12 0) p1) 60 (h.1 12 0) p2) 61 (h.1 12 0) p3) 62 (h.1 12 0) 0) 12 0 ((h.1 12 0) + 1)))))) ∧ (v4 < p1 → (inI (8 * (h.1 12 0)) ∧ (inI ((8 * (h.1 12 0)) + v4) ∧ (inb v4 12 ∧ (inb ((8 * (h.1 12 0)) + v4) 320 ∧ (inI (v4 + 1) ∧ A_M_word_70 d Q p1 p2 p3 (v4 + 1) (wI h 59 ((8 * (h.1 12 0)) + v4) (h.1 63 v4)))))))))) : A_M_word_70 d Q p1 p2 p3 v4 h := by
  show AW d M_M_word Q 70 [some (vR 12 (-1)), some (vI p1), some (vI p2), some (vI p3), some (vI v4)] [] h
  refine a_iload dX11_word_70 rfl ?_
  refine a_iload_n dX11_word_72 rfl ?_
  refine a_icmp_ge (tgt := 104) dX11_word_73 (by decide) (fun c => ?_) (fun c => ?_)
  · have hy := hy.1 c
    refine a_aload_n dX11_word_104 rfl ?_
    refine a_getR dX11_word_105 fl_M_7 sk_12 rfl ?_
    refine a_aload_n dX11_word_108 rfl ?_
    refine a_getI' (kz := 0) dX11_word_109 fl_M_130 sk_12 rfl rfl (rfl) ?_
    refine a_iload_n dX11_word_112 rfl ?_
    obtain ⟨c1, hy⟩ := hy
    refine a_iast dX11_word_113 sk_58 c1 ?_
    refine a_aload_n dX11_word_114 rfl ?_
    refine a_getR dX11_word_115 fl_M_16 sk_12 rfl ?_
    refine a_aload_n dX11_word_118 rfl ?_
    refine a_getI' (kz := 0) dX11_word_119 fl_M_130 sk_12 rfl rfl (rI_ne (by decide)) ?_
    refine a_iload_n dX11_word_122 rfl ?_
    refine a_iast dX11_word_123 sk_60 c1 ?_
    refine a_aload_n dX11_word_124 rfl ?_
    refine a_getR dX11_word_125 fl_M_19 sk_12 rfl ?_
    refine a_aload_n dX11_word_128 rfl ?_
    refine a_getI' (kz := 0) dX11_word_129 fl_M_130 sk_12 rfl rfl ((rI_ne (by decide)).trans (rI_ne (by decide))) ?_
    refine a_iload_n dX11_word_132 rfl ?_
    refine a_iast dX11_word_133 sk_61 c1 ?_
    refine a_aload_n dX11_word_134 rfl ?_
    refine a_getR dX11_word_135 fl_M_22 sk_12 rfl ?_
    refine a_aload_n dX11_word_138 rfl ?_
    refine a_getI' (kz := 0) dX11_word_139 fl_M_130 sk_12 rfl rfl ((rI_ne (by decide)).trans ((rI_ne (by decide)).trans (rI_ne (by decide)))) ?_
    refine a_iconst (x := 0) dX11_word_142 rfl ⟨by decide, by decide⟩ ?_
    refine a_zast dX11_word_143 sk_62 c1 (Or.inl rfl) ?_
    refine a_aload_n dX11_word_144 rfl ?_
    refine a_aload_n dX11_word_145 rfl ?_
    refine a_getI' (kz := 0) dX11_word_146 fl_M_130 sk_12 rfl rfl ((rI_ne (by decide)).trans ((rI_ne (by decide)).trans ((rI_ne (by decide)).trans (rI_ne (by decide))))) ?_
    refine a_iconst (x := 1) dX11_word_149 rfl ⟨by decide, by decide⟩ ?_
    obtain ⟨c2, hy⟩ := hy
    refine a_iadd dX11_word_150 c2 ?_
    refine a_putI (kz := 0) dX11_word_151 fp_M_130 sk_12 rfl rfl ?_
    refine a_aload_n dX11_word_154 rfl ?_
    refine a_getI' (kz := 0) dX11_word_155 fl_M_130 sk_12 rfl rfl (rI_eq) ?_
    refine a_iconst (x := 1) dX11_word_158 rfl ⟨by decide, by decide⟩ ?_
    obtain ⟨c3, hy⟩ := hy
    refine a_isub dX11_word_159 c3 ?_
    exact a_iret dX11_word_160 rfl hy
  · have hy := hy.2 (Int.not_le.mp c)
    refine a_aload_n dX11_word_76 rfl ?_
    refine a_getR dX11_word_77 fl_M_13 sk_12 rfl ?_
    refine a_bipush (x := 8) dX11_word_80 (by decide) ⟨by decide, by decide⟩ ?_
    refine a_aload_n dX11_word_82 rfl ?_
    refine a_getI' (kz := 0) dX11_word_83 fl_M_130 sk_12 rfl rfl (rfl) ?_
    obtain ⟨c4, hy⟩ := hy
    refine a_imul dX11_word_86 c4 ?_
    refine a_iload dX11_word_87 rfl ?_
    obtain ⟨c5, hy⟩ := hy
    refine a_iadd dX11_word_89 c5 ?_
    refine a_aload_n dX11_word_90 rfl ?_
    refine a_getR dX11_word_91 fl_M_26 sk_12 rfl ?_
    refine a_iload dX11_word_94 rfl ?_
    obtain ⟨c6, hy⟩ := hy
    refine a_iald' dX11_word_96 sk_63 c6 (rfl) ?_
    obtain ⟨c7, hy⟩ := hy
    refine a_iast dX11_word_97 sk_59 c7 ?_
    obtain ⟨c8, hy⟩ := hy
    refine a_iinc (y := v4 + 1) (ls2 := [some (vR 12 (-1)), some (vI p1), some (vI p2), some (vI p3), some (vI (v4 + 1))]) dX11_word_98 rfl rfl c8 rfl ?_
    refine a_goto (tgt := 70) dX11_word_101 (by decide) ?_
    exact hy
theorem c_M_word {d : Nat} (d0 : Nat) (hd : d0 < d) {p1 : Int} {p2 : Int} {p3 : Int} {h : AH} {Q : Int → AH → Prop} (hy : Call d0 M_M_in [vI p1, vI 1, vI 8] h (fun r2 h1 => ((r2 = 0 → Q (-1) h1) ∧ (r2 ≠ 0 → (Call d0 M_M_in [vI p2, vI 0, vI 99] h1 (fun r4 h3 => ((r4 = 0 → Q (-1) h3) ∧ (r4 ≠ 0 → (Call d0 M_M_in [vI p3, vI 1, vI 15] h3 (fun r6 h5 => ((r6 = 0 → Q (-1) h5) ∧ (r6 ≠ 0 → (((h5.1 12 0) = 40 → Q (-1) h5) ∧ ((h5.1 12 0) ≠ 40 → ((p1 ≤ (h5.1 12 11) → (Call d0 M_M_takesLetters [vR 12 (-1), vI p1] h5 (fun r8 h7 => ((r8 = 0 → Q (-2) h7) ∧ (r8 ≠ 0 → (Call d0 M_M_isRowWord [vR 12 (-1)] h7 (fun r10 h9 => ((r10 = 0 → A_M_word_70 d0 Q p1 p2 p3 0 h9) ∧ (r10 ≠ 0 → Q (-2) h9))))))))) ∧ ((h5.1 12 11) < p1 → Q (-1) h5)))))))))))))))) : Call d M_M_word [vR 12 (-1), vI p1, vI p2, vI p3] h Q := by
  refine ⟨d0, hd, Big.of rfl (Nat.le_of_ble_eq_true rfl) ?_⟩
  show AW d0 M_M_word Q 0 [some (vR 12 (-1)), some (vI p1), some (vI p2), some (vI p3), none] [] h
  refine a_iload_n dX11_word_0 rfl ?_
  refine a_iconst (x := 1) dX11_word_1 rfl ⟨by decide, by decide⟩ ?_
  refine a_bipush (x := 8) dX11_word_2 (by decide) ⟨by decide, by decide⟩ ?_
  refine a_callSi (as := [vI p1, vI 1, vI 8]) (st := []) dX11_word_4 lk_M_139 rfl rfl (Nat.le_of_ble_eq_true rfl) (Or.inr rfl) (Call.mono hy (fun r2 h1 _ hy => ?_))
  refine a_if_eq (tgt := 47) dX11_word_7 (by decide) (fun c => ?_) (fun c => ?_)
  · have hy := hy.1 c
    refine a_iconst (x := (-1)) dX11_word_47 rfl ⟨by decide, by decide⟩ ?_
    exact a_iret dX11_word_48 rfl hy
  · have hy := hy.2 (c)
    refine a_iload_n dX11_word_10 rfl ?_
    refine a_iconst (x := 0) dX11_word_11 rfl ⟨by decide, by decide⟩ ?_
    refine a_bipush (x := 99) dX11_word_12 (by decide) ⟨by decide, by decide⟩ ?_
    refine a_callSi (as := [vI p2, vI 0, vI 99]) (st := []) dX11_word_14 lk_M_139 rfl rfl (Nat.le_of_ble_eq_true rfl) (Or.inr rfl) (Call.mono hy (fun r4 h3 _ hy => ?_))
    refine a_if_eq (tgt := 47) dX11_word_17 (by decide) (fun c => ?_) (fun c => ?_)
    · have hy := hy.1 c
      refine a_iconst (x := (-1)) dX11_word_47 rfl ⟨by decide, by decide⟩ ?_
      exact a_iret dX11_word_48 rfl hy
    · have hy := hy.2 (c)
      refine a_iload_n dX11_word_20 rfl ?_
      refine a_iconst (x := 1) dX11_word_21 rfl ⟨by decide, by decide⟩ ?_
      refine a_bipush (x := 15) dX11_word_22 (by decide) ⟨by decide, by decide⟩ ?_
      refine a_callSi (as := [vI p3, vI 1, vI 15]) (st := []) dX11_word_24 lk_M_139 rfl rfl (Nat.le_of_ble_eq_true rfl) (Or.inr rfl) (Call.mono hy (fun r6 h5 _ hy => ?_))
      refine a_if_eq (tgt := 47) dX11_word_27 (by decide) (fun c => ?_) (fun c => ?_)
      · have hy := hy.1 c
        refine a_iconst (x := (-1)) dX11_word_47 rfl ⟨by decide, by decide⟩ ?_
        exact a_iret dX11_word_48 rfl hy
      · have hy := hy.2 (c)
        refine a_aload_n dX11_word_30 rfl ?_
        refine a_getI' (kz := 0) dX11_word_31 fl_M_130 sk_12 rfl rfl (rfl) ?_
        refine a_bipush (x := 40) dX11_word_34 (by decide) ⟨by decide, by decide⟩ ?_
        refine a_icmp_eq (tgt := 47) dX11_word_36 (by decide) (fun c => ?_) (fun c => ?_)
        · have hy := hy.1 c
          refine a_iconst (x := (-1)) dX11_word_47 rfl ⟨by decide, by decide⟩ ?_
          exact a_iret dX11_word_48 rfl hy
        · have hy := hy.2 (c)
          refine a_iload_n dX11_word_39 rfl ?_
          refine a_aload_n dX11_word_40 rfl ?_
          refine a_getI' (kz := 11) dX11_word_41 fl_M_133 sk_12 rfl rfl (rfl) ?_
          refine a_icmp_le (tgt := 49) dX11_word_44 (by decide) (fun c => ?_) (fun c => ?_)
          · have hy := hy.1 c
            refine a_aload_n dX11_word_49 rfl ?_
            refine a_iload_n dX11_word_50 rfl ?_
            refine a_callVi (as := [vI p1]) (st := []) dX11_word_51 lk_M_147 sk_12 rfl rfl (Nat.le_of_ble_eq_true rfl) (Or.inr rfl) (Call.mono hy (fun r8 h7 _ hy => ?_))
            refine a_if_eq (tgt := 64) dX11_word_54 (by decide) (fun c => ?_) (fun c => ?_)
            · have hy := hy.1 c
              refine a_bipush (x := (-2)) dX11_word_64 (by decide) ⟨by decide, by decide⟩ ?_
              exact a_iret dX11_word_66 rfl hy
            · have hy := hy.2 (c)
              refine a_aload_n dX11_word_57 rfl ?_
              refine a_callVi (as := []) (st := []) dX11_word_58 lk_M_150 sk_12 rfl rfl (Nat.le_of_ble_eq_true rfl) (Or.inr rfl) (Call.mono hy (fun r10 h9 _ hy => ?_))
              refine a_if_eq (tgt := 67) dX11_word_61 (by decide) (fun c => ?_) (fun c => ?_)
              · have hy := hy.1 c
                refine a_iconst (x := 0) dX11_word_67 rfl ⟨by decide, by decide⟩ ?_
                refine a_istore (ls2 := [some (vR 12 (-1)), some (vI p1), some (vI p2), some (vI p3), some (vI 0)]) dX11_word_68 (Nat.le_of_ble_eq_true rfl) rfl ?_
                exact hy
              · have hy := hy.2 (c)
                refine a_bipush (x := (-2)) dX11_word_64 (by decide) ⟨by decide, by decide⟩ ?_
                exact a_iret dX11_word_66 rfl hy
          · have hy := hy.2 (Int.not_le.mp c)
            refine a_iconst (x := (-1)) dX11_word_47 rfl ⟨by decide, by decide⟩ ?_
            exact a_iret dX11_word_48 rfl hy
theorem c_M_wrongAt {d : Nat} (d0 : Nat) (hd : d0 < d) {p1 : Int} {p2 : Int} {h : AH} {Q : Int → AH → Prop} (hy : inI ((-1000) * p1) ∧ (inI (((-1000) * p1) - p2) ∧ Q 0 (wI h 12 14 (((-1000) * p1) - p2)))) : Call d M_M_wrongAt [vR 12 (-1), vI p1, vI p2] h Q := by
  refine ⟨d0, hd, Big.of rfl (Nat.le_of_ble_eq_true rfl) ?_⟩
  show AW d0 M_M_wrongAt Q 0 [some (vR 12 (-1)), some (vI p1), some (vI p2)] [] h
  refine a_aload_n dX11_wrongAt_0 rfl ?_
  refine a_sipush (x := (-1000)) dX11_wrongAt_1 (by decide) ⟨by decide, by decide⟩ ?_
  refine a_iload_n dX11_wrongAt_4 rfl ?_
  obtain ⟨c1, hy⟩ := hy
  refine a_imul dX11_wrongAt_5 c1 ?_
  refine a_iload_n dX11_wrongAt_6 rfl ?_
  obtain ⟨c2, hy⟩ := hy
  refine a_isub dX11_wrongAt_7 c2 ?_
  refine a_putI (kz := 14) dX11_wrongAt_8 fp_M_171 sk_12 rfl rfl ?_
  refine a_iconst (x := 0) dX11_wrongAt_11 rfl ⟨by decide, by decide⟩ ?_
  exact a_zret dX11_wrongAt_12 rfl (Or.inl rfl) hy

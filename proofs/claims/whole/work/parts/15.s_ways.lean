theorem c_Ways_costOf {d : Nat} (d0 : Nat) (hd : d0 < d) {p1 : Int} {p2 : Int} {h : AH} {Q : Int → AH → Prop} (hy : inb p1 40 ∧ (inb p2 40 ∧ (inI (Int.tdiv (h.2.2 36 p1 p2) 64) ∧ Q (Int.tdiv (h.2.2 36 p1 p2) 64) h))) : Call d M_Ways_costOf [vR 7 (-1), vI p1, vI p2] h Q := by
  refine ⟨d0, hd, Big.of rfl (Nat.le_of_ble_eq_true rfl) ?_⟩
  show AW d0 M_Ways_costOf Q 0 [some (vR 7 (-1)), some (vI p1), some (vI p2)] [] h
  refine a_aload_n dX8_costOf_0 rfl ?_
  refine a_getR dX8_costOf_1 fl_Ways_11 sk_7 rfl ?_
  refine a_iload_n dX8_costOf_4 rfl ?_
  obtain ⟨c1, hy⟩ := hy
  refine a_aald dX8_costOf_5 sk_36 c1 ?_
  refine a_iload_n dX8_costOf_6 rfl ?_
  obtain ⟨c2, hy⟩ := hy
  refine a_ialdR' dX8_costOf_7 sk_36 (inb_ne c1) c2 (rfl) ?_
  refine a_bipush (x := 64) dX8_costOf_8 (by decide) ⟨by decide, by decide⟩ ?_
  obtain ⟨c3, hy⟩ := hy
  refine a_idiv dX8_costOf_10 (by decide) c3 ?_
  exact a_iret dX8_costOf_11 rfl hy
def A_Ways_countLeast_11 (d : Nat) (Q : Int → AH → Prop) (p1 : Int) (p2 : Int) (v3 : Int) (v4 : Int) (h : AH) : Prop := AW d M_Ways_countLeast Q 11 [some (vR 7 (-1)), some (vI p1), some (vI p2), some (vI v3), some (vI v4), none] [] h
def A_Ways_countLeast_56 (d : Nat) (Q : Int → AH → Prop) (p1 : Int) (p2 : Int) (v3 : Int) (v4 : Int) (h : AH) : Prop := AW d M_Ways_countLeast Q 56 [some (vR 7 (-1)), some (vI p1), some (vI p2), some (vI v3), some (vI v4), none] [] h
def A_Ways_countLeast_122 (d : Nat) (Q : Int → AH → Prop) (p1 : Int) (p2 : Int) (h : AH) : Prop := AW d M_Ways_countLeast Q 122 [some (vR 7 (-1)), some (vI p1), some (vI p2), none, none, none] [] h
theorem s_Ways_countLeast_11 {d : Nat} {Q : Int → AH → Prop} {p1 : Int} {p2 : Int} {v3 : Int} {v4 : Int} {h : AH} (hy : ((v3 ≤ v4 → A_Ways_countLeast_56 d Q p1 p2 v3 0 h) ∧ (v4 < v3 → (Call d M_Ways_isWay [vR 7 (-1), vI v4, vI p2] h (fun r2 h1 => inb v4 40 ∧ ((if r2 = 0 then (1 : Int) else 0) = 0 ∨ (if r2 = 0 then (1 : Int) else 0) = 1) ∧ (inI (v4 + 1) ∧ A_Ways_countLeast_11 d Q p1 p2 v3 (v4 + 1) (wL (wI h1 41 v4 (if r2 = 0 then (1 : Int) else 0)) 39 v4 0))))))) : A_Ways_countLeast_11 d Q p1 p2 v3 v4 h := by
  show AW d M_Ways_countLeast Q 11 [some (vR 7 (-1)), some (vI p1), some (vI p2), some (vI v3), some (vI v4), none] [] h
  refine a_iload dX8_countLeast_11 rfl ?_
  refine a_iload_n dX8_countLeast_13 rfl ?_
  refine a_icmp_ge (tgt := 53) dX8_countLeast_14 (by decide) (fun c => ?_) (fun c => ?_)
  · have hy := hy.1 c
    refine a_iconst (x := 0) dX8_countLeast_53 rfl ⟨by decide, by decide⟩ ?_
    refine a_istore (ls2 := [some (vR 7 (-1)), some (vI p1), some (vI p2), some (vI v3), some (vI 0), none]) dX8_countLeast_54 (Nat.le_of_ble_eq_true rfl) rfl ?_
    exact hy
  · have hy := hy.2 (Int.not_le.mp c)
    refine a_aload_n dX8_countLeast_17 rfl ?_
    refine a_getR dX8_countLeast_18 fl_Ways_30 sk_7 rfl ?_
    refine a_iload dX8_countLeast_21 rfl ?_
    refine a_aload_n dX8_countLeast_23 rfl ?_
    refine a_iload dX8_countLeast_24 rfl ?_
    refine a_iload_n dX8_countLeast_26 rfl ?_
    refine a_callVi (as := [vI v4, vI p2]) (st := [vI v4, vR 41 (-1)]) dX8_countLeast_27 lk_Ways_99 sk_7 rfl rfl (Nat.le_of_ble_eq_true rfl) (Or.inr rfl) (Call.mono hy (fun r2 h1 _ hy => ?_))
    have J : AW d M_Ways_countLeast Q 38 [some (vR 7 (-1)), some (vI p1), some (vI p2), some (vI v3), some (vI v4), none] [vI (if r2 = 0 then (1 : Int) else 0), vI v4, vR 41 (-1)] h1 := by
      obtain ⟨c3, hy⟩ := hy
      obtain ⟨c4, hy⟩ := hy
      refine a_zast dX8_countLeast_38 sk_41 c3 c4 ?_
      refine a_aload_n dX8_countLeast_39 rfl ?_
      refine a_getR dX8_countLeast_40 fl_Ways_24 sk_7 rfl ?_
      refine a_iload dX8_countLeast_43 rfl ?_
      refine a_lconst (x := 0) dX8_countLeast_45 rfl ⟨by decide, by decide⟩ ?_
      refine a_last dX8_countLeast_46 sk_39 c3 ?_
      obtain ⟨c5, hy⟩ := hy
      refine a_iinc (y := v4 + 1) (ls2 := [some (vR 7 (-1)), some (vI p1), some (vI p2), some (vI v3), some (vI (v4 + 1)), none]) dX8_countLeast_47 rfl rfl c5 rfl ?_
      refine a_goto (tgt := 11) dX8_countLeast_50 (by decide) ?_
      exact hy
    refine a_if_ne (tgt := 37) dX8_countLeast_30 (by decide) (fun e6 => ?_) (fun e6 => ?_)
    · refine a_iconst (x := 0) dX8_countLeast_37 rfl ⟨by decide, by decide⟩ ?_
      exact a_cast (by first | rfl | simp only [if_neg e6]) (by first | rfl | simp only [if_neg e6]) J
    · refine a_iconst (x := 1) dX8_countLeast_33 rfl ⟨by decide, by decide⟩ ?_
      refine a_goto (tgt := 38) dX8_countLeast_34 (by decide) ?_
      exact a_cast (by first | rfl | simp only [if_pos (Decidable.not_not.mp e6)]) (by first | rfl | simp only [if_pos (Decidable.not_not.mp e6)]) J
theorem s_Ways_countLeast_56 {d : Nat} {Q : Int → AH → Prop} {p1 : Int} {p2 : Int} {v3 : Int} {v4 : Int} {h : AH} (hy : ((v3 ≤ v4 → A_Ways_countLeast_122 d Q p1 p2 h) ∧ (v4 < v3 → (Call d M_Ways_nearestUndone [vR 7 (-1), vI p2] h (fun r2 h1 => ((r2 = (-1) → A_Ways_countLeast_122 d Q p1 p2 h1) ∧ (r2 ≠ (-1) → ((r2 ≠ p1 → (inb r2 40 ∧ ((r2 ≠ p2 → (Call d M_Ways_countOnward [vR 7 (-1), vI r2, vI p2] (wI h1 41 r2 1) (fun r5 h4 => inI (v4 + 1) ∧ A_Ways_countLeast_56 d Q p1 p2 v3 (v4 + 1) (wL h4 39 r2 r5)))) ∧ (r2 = p2 → (inI (v4 + 1) ∧ A_Ways_countLeast_56 d Q p1 p2 v3 (v4 + 1) (wL (wI h1 41 r2 1) 39 r2 1)))))) ∧ (r2 = p1 → A_Ways_countLeast_122 d Q p1 p2 h1))))))))) : A_Ways_countLeast_56 d Q p1 p2 v3 v4 h := by
  show AW d M_Ways_countLeast Q 56 [some (vR 7 (-1)), some (vI p1), some (vI p2), some (vI v3), some (vI v4), none] [] h
  refine a_iload dX8_countLeast_56 rfl ?_
  refine a_iload_n dX8_countLeast_58 rfl ?_
  refine a_icmp_ge (tgt := 122) dX8_countLeast_59 (by decide) (fun c => ?_) (fun c => ?_)
  · have hy := hy.1 c
    refine a_mask [true, true, true, false, false, true] (ls2 := [some (vR 7 (-1)), some (vI p1), some (vI p2), none, none, none]) rfl rfl ?_
    exact hy
  · have hy := hy.2 (Int.not_le.mp c)
    refine a_aload_n dX8_countLeast_62 rfl ?_
    refine a_iload_n dX8_countLeast_63 rfl ?_
    refine a_callVi (as := [vI p2]) (st := []) dX8_countLeast_64 lk_Ways_109 sk_7 rfl rfl (Nat.le_of_ble_eq_true rfl) (Or.inl rfl) (Call.mono hy (fun r2 h1 _ hy => ?_))
    refine a_istore (ls2 := [some (vR 7 (-1)), some (vI p1), some (vI p2), some (vI v3), some (vI v4), some (vI r2)]) dX8_countLeast_67 (Nat.le_of_ble_eq_true rfl) rfl ?_
    refine a_iload dX8_countLeast_69 rfl ?_
    refine a_iconst (x := (-1)) dX8_countLeast_71 rfl ⟨by decide, by decide⟩ ?_
    refine a_icmp_eq (tgt := 122) dX8_countLeast_72 (by decide) (fun c => ?_) (fun c => ?_)
    · have hy := hy.1 c
      refine a_mask [true, true, true, false, false, false] (ls2 := [some (vR 7 (-1)), some (vI p1), some (vI p2), none, none, none]) rfl rfl ?_
      exact hy
    · have hy := hy.2 (c)
      refine a_iload dX8_countLeast_75 rfl ?_
      refine a_iload_n dX8_countLeast_77 rfl ?_
      refine a_icmp_ne (tgt := 84) dX8_countLeast_78 (by decide) (fun c => ?_) (fun c => ?_)
      · have hy := hy.1 c
        refine a_aload_n dX8_countLeast_84 rfl ?_
        refine a_getR dX8_countLeast_85 fl_Ways_30 sk_7 rfl ?_
        refine a_iload dX8_countLeast_88 rfl ?_
        refine a_iconst (x := 1) dX8_countLeast_90 rfl ⟨by decide, by decide⟩ ?_
        obtain ⟨c3, hy⟩ := hy
        refine a_zast dX8_countLeast_91 sk_41 c3 (Or.inr rfl) ?_
        refine a_aload_n dX8_countLeast_92 rfl ?_
        refine a_getR dX8_countLeast_93 fl_Ways_24 sk_7 rfl ?_
        refine a_iload dX8_countLeast_96 rfl ?_
        refine a_iload dX8_countLeast_98 rfl ?_
        refine a_iload_n dX8_countLeast_100 rfl ?_
        refine a_icmp_ne (tgt := 108) dX8_countLeast_101 (by decide) (fun c => ?_) (fun c => ?_)
        · have hy := hy.1 c
          refine a_aload_n dX8_countLeast_108 rfl ?_
          refine a_iload dX8_countLeast_109 rfl ?_
          refine a_iload_n dX8_countLeast_111 rfl ?_
          refine a_callVl (as := [vI r2, vI p2]) (st := [vI r2, vR 39 (-1)]) dX8_countLeast_112 lk_Ways_113 sk_7 rfl rfl (Nat.le_of_ble_eq_true rfl) rfl (Call.mono hy (fun r5 h4 _ hy => ?_))
          refine a_last dX8_countLeast_115 sk_39 c3 ?_
          obtain ⟨c6, hy⟩ := hy
          refine a_iinc (y := v4 + 1) (ls2 := [some (vR 7 (-1)), some (vI p1), some (vI p2), some (vI v3), some (vI (v4 + 1)), some (vI r2)]) dX8_countLeast_116 rfl rfl c6 rfl ?_
          refine a_goto (tgt := 56) dX8_countLeast_119 (by decide) ?_
          refine a_mask [true, true, true, true, true, false] (ls2 := [some (vR 7 (-1)), some (vI p1), some (vI p2), some (vI v3), some (vI (v4 + 1)), none]) rfl rfl ?_
          exact hy
        · have hy := hy.2 (Decidable.not_not.mp c)
          refine a_lconst (x := 1) dX8_countLeast_104 rfl ⟨by decide, by decide⟩ ?_
          refine a_goto (tgt := 115) dX8_countLeast_105 (by decide) ?_
          refine a_last dX8_countLeast_115 sk_39 c3 ?_
          obtain ⟨c7, hy⟩ := hy
          refine a_iinc (y := v4 + 1) (ls2 := [some (vR 7 (-1)), some (vI p1), some (vI p2), some (vI v3), some (vI (v4 + 1)), some (vI r2)]) dX8_countLeast_116 rfl rfl c7 rfl ?_
          refine a_goto (tgt := 56) dX8_countLeast_119 (by decide) ?_
          refine a_mask [true, true, true, true, true, false] (ls2 := [some (vR 7 (-1)), some (vI p1), some (vI p2), some (vI v3), some (vI (v4 + 1)), none]) rfl rfl ?_
          exact hy
      · have hy := hy.2 (Decidable.not_not.mp c)
        refine a_goto (tgt := 122) dX8_countLeast_81 (by decide) ?_
        refine a_mask [true, true, true, false, false, false] (ls2 := [some (vR 7 (-1)), some (vI p1), some (vI p2), none, none, none]) rfl rfl ?_
        exact hy
theorem s_Ways_countLeast_122 {d : Nat} {Q : Int → AH → Prop} {p1 : Int} {p2 : Int} {h : AH} (hy : ((p1 ≠ p2 → (Call d M_Ways_countOnward [vR 7 (-1), vI p1, vI p2] h (fun r2 h1 => Q r2 h1))) ∧ (p1 = p2 → Q 1 h))) : A_Ways_countLeast_122 d Q p1 p2 h := by
  show AW d M_Ways_countLeast Q 122 [some (vR 7 (-1)), some (vI p1), some (vI p2), none, none, none] [] h
  refine a_iload_n dX8_countLeast_122 rfl ?_
  refine a_iload_n dX8_countLeast_123 rfl ?_
  refine a_icmp_ne (tgt := 131) dX8_countLeast_124 (by decide) (fun c => ?_) (fun c => ?_)
  · have hy := hy.1 c
    refine a_aload_n dX8_countLeast_131 rfl ?_
    refine a_iload_n dX8_countLeast_132 rfl ?_
    refine a_iload_n dX8_countLeast_133 rfl ?_
    refine a_callVl (as := [vI p1, vI p2]) (st := []) dX8_countLeast_134 lk_Ways_113 sk_7 rfl rfl (Nat.le_of_ble_eq_true rfl) rfl (Call.mono hy (fun r2 h1 _ hy => ?_))
    exact a_lret dX8_countLeast_137 rfl hy
  · have hy := hy.2 (Decidable.not_not.mp c)
    refine a_lconst (x := 1) dX8_countLeast_127 rfl ⟨by decide, by decide⟩ ?_
    refine a_goto (tgt := 137) dX8_countLeast_128 (by decide) ?_
    exact a_lret dX8_countLeast_137 rfl hy
theorem c_Ways_countLeast {d : Nat} (d0 : Nat) (hd : d0 < d) {p1 : Int} {p2 : Int} {h : AH} {Q : Int → AH → Prop} (hy : A_Ways_countLeast_11 d0 Q p1 p2 (h.1 2 6) 0 h) : Call d M_Ways_countLeast [vR 7 (-1), vI p1, vI p2] h Q := by
  refine ⟨d0, hd, Big.of rfl (Nat.le_of_ble_eq_true rfl) ?_⟩
  show AW d0 M_Ways_countLeast Q 0 [some (vR 7 (-1)), some (vI p1), some (vI p2), none, none, none] [] h
  refine a_aload_n dX8_countLeast_0 rfl ?_
  refine a_getR dX8_countLeast_1 fl_Ways_44 sk_7 rfl ?_
  refine a_getI' (kz := 6) dX8_countLeast_4 fl_Ways_57 sk_2 rfl rfl (rfl) ?_
  refine a_istore_n (i := 3) (ls2 := [some (vR 7 (-1)), some (vI p1), some (vI p2), some (vI (h.1 2 6)), none, none]) dX8_countLeast_7 rfl (Nat.le_of_ble_eq_true rfl) rfl ?_
  refine a_iconst (x := 0) dX8_countLeast_8 rfl ⟨by decide, by decide⟩ ?_
  refine a_istore (ls2 := [some (vR 7 (-1)), some (vI p1), some (vI p2), some (vI (h.1 2 6)), some (vI 0), none]) dX8_countLeast_9 (Nat.le_of_ble_eq_true rfl) rfl ?_
  exact hy
def A_Ways_countOnward_5 (d : Nat) (Q : Int → AH → Prop) (p1 : Int) (p2 : Int) (v3 : Int) (v5 : Int) (h : AH) : Prop := AW d M_Ways_countOnward Q 5 [some (vR 7 (-1)), some (vI p1), some (vI p2), some (vL v3), none, some (vI v5)] [] h
theorem s_Ways_countOnward_5 {d : Nat} {Q : Int → AH → Prop} {p1 : Int} {p2 : Int} {v3 : Int} {v5 : Int} {h : AH} (hy : (((h.1 2 6) ≤ v5 → Q v3 h) ∧ (v5 < (h.1 2 6) → (Call d M_Steps_leads [vR 6 (-1), vI p1, vI v5] h (fun r2 h1 => ((r2 = 0 → (inI (v5 + 1) ∧ A_Ways_countOnward_5 d Q p1 p2 v3 (v5 + 1) h1)) ∧ (r2 ≠ 0 → (Call d M_Ways_isWay [vR 7 (-1), vI v5, vI p2] h1 (fun r5 h4 => ((r5 = 0 → (inI (v5 + 1) ∧ A_Ways_countOnward_5 d Q p1 p2 v3 (v5 + 1) h4)) ∧ (r5 ≠ 0 → (Call d M_Steps_costOf [vR 6 (-1), vI p1, vI v5] h4 (fun r8 h7 => Call d M_Ways_costOf [vR 7 (-1), vI v5, vI p2] h7 (fun r10 h9 => inI (r8 + r10) ∧ (Call d M_Ways_costOf [vR 7 (-1), vI p1, vI p2] h9 (fun r13 h12 => (((r8 + r10) ≠ r13 → (inI (v5 + 1) ∧ A_Ways_countOnward_5 d Q p1 p2 v3 (v5 + 1) h12)) ∧ ((r8 + r10) = r13 → (inb v5 40 ∧ (inI (v5 + 1) ∧ A_Ways_countOnward_5 d Q p1 p2 (w64 (v3 + (h12.2.1 39 v5))) (v5 + 1) h12)))))))))))))))))))) : A_Ways_countOnward_5 d Q p1 p2 v3 v5 h := by
  show AW d M_Ways_countOnward Q 5 [some (vR 7 (-1)), some (vI p1), some (vI p2), some (vL v3), none, some (vI v5)] [] h
  refine a_iload dX8_countOnward_5 rfl ?_
  refine a_aload_n dX8_countOnward_7 rfl ?_
  refine a_getR dX8_countOnward_8 fl_Ways_44 sk_7 rfl ?_
  refine a_getI' (kz := 6) dX8_countOnward_11 fl_Ways_57 sk_2 rfl rfl (rfl) ?_
  refine a_icmp_ge (tgt := 83) dX8_countOnward_14 (by decide) (fun c => ?_) (fun c => ?_)
  · have hy := hy.1 c
    refine a_lload_n dX8_countOnward_83 rfl ?_
    exact a_lret dX8_countOnward_84 rfl hy
  · have hy := hy.2 (Int.not_le.mp c)
    refine a_aload_n dX8_countOnward_17 rfl ?_
    refine a_getR dX8_countOnward_18 fl_Ways_48 sk_7 rfl ?_
    refine a_iload_n dX8_countOnward_21 rfl ?_
    refine a_iload dX8_countOnward_22 rfl ?_
    refine a_callVi (as := [vI p1, vI v5]) (st := []) dX8_countOnward_24 lk_Ways_106 sk_6 rfl rfl (Nat.le_of_ble_eq_true rfl) (Or.inr rfl) (Call.mono hy (fun r2 h1 _ hy => ?_))
    refine a_if_eq (tgt := 77) dX8_countOnward_27 (by decide) (fun c => ?_) (fun c => ?_)
    · have hy := hy.1 c
      obtain ⟨c3, hy⟩ := hy
      refine a_iinc (y := v5 + 1) (ls2 := [some (vR 7 (-1)), some (vI p1), some (vI p2), some (vL v3), none, some (vI (v5 + 1))]) dX8_countOnward_77 rfl rfl c3 rfl ?_
      refine a_goto (tgt := 5) dX8_countOnward_80 (by decide) ?_
      exact hy
    · have hy := hy.2 (c)
      refine a_aload_n dX8_countOnward_30 rfl ?_
      refine a_iload dX8_countOnward_31 rfl ?_
      refine a_iload_n dX8_countOnward_33 rfl ?_
      refine a_callVi (as := [vI v5, vI p2]) (st := []) dX8_countOnward_34 lk_Ways_99 sk_7 rfl rfl (Nat.le_of_ble_eq_true rfl) (Or.inr rfl) (Call.mono hy (fun r5 h4 _ hy => ?_))
      refine a_if_eq (tgt := 77) dX8_countOnward_37 (by decide) (fun c => ?_) (fun c => ?_)
      · have hy := hy.1 c
        obtain ⟨c6, hy⟩ := hy
        refine a_iinc (y := v5 + 1) (ls2 := [some (vR 7 (-1)), some (vI p1), some (vI p2), some (vL v3), none, some (vI (v5 + 1))]) dX8_countOnward_77 rfl rfl c6 rfl ?_
        refine a_goto (tgt := 5) dX8_countOnward_80 (by decide) ?_
        exact hy
      · have hy := hy.2 (c)
        refine a_aload_n dX8_countOnward_40 rfl ?_
        refine a_getR dX8_countOnward_41 fl_Ways_48 sk_7 rfl ?_
        refine a_iload_n dX8_countOnward_44 rfl ?_
        refine a_iload dX8_countOnward_45 rfl ?_
        refine a_callVi (as := [vI p1, vI v5]) (st := []) dX8_countOnward_47 lk_Ways_86 sk_6 rfl rfl (Nat.le_of_ble_eq_true rfl) (Or.inl rfl) (Call.mono hy (fun r8 h7 _ hy => ?_))
        refine a_aload_n dX8_countOnward_50 rfl ?_
        refine a_iload dX8_countOnward_51 rfl ?_
        refine a_iload_n dX8_countOnward_53 rfl ?_
        refine a_callVi (as := [vI v5, vI p2]) (st := [vI r8]) dX8_countOnward_54 lk_Ways_102 sk_7 rfl rfl (Nat.le_of_ble_eq_true rfl) (Or.inl rfl) (Call.mono hy (fun r10 h9 _ hy => ?_))
        obtain ⟨c11, hy⟩ := hy
        refine a_iadd dX8_countOnward_57 c11 ?_
        refine a_aload_n dX8_countOnward_58 rfl ?_
        refine a_iload_n dX8_countOnward_59 rfl ?_
        refine a_iload_n dX8_countOnward_60 rfl ?_
        refine a_callVi (as := [vI p1, vI p2]) (st := [vI (r8 + r10)]) dX8_countOnward_61 lk_Ways_102 sk_7 rfl rfl (Nat.le_of_ble_eq_true rfl) (Or.inl rfl) (Call.mono hy (fun r13 h12 _ hy => ?_))
        refine a_icmp_ne (tgt := 77) dX8_countOnward_64 (by decide) (fun c => ?_) (fun c => ?_)
        · have hy := hy.1 c
          obtain ⟨c14, hy⟩ := hy
          refine a_iinc (y := v5 + 1) (ls2 := [some (vR 7 (-1)), some (vI p1), some (vI p2), some (vL v3), none, some (vI (v5 + 1))]) dX8_countOnward_77 rfl rfl c14 rfl ?_
          refine a_goto (tgt := 5) dX8_countOnward_80 (by decide) ?_
          exact hy
        · have hy := hy.2 (Decidable.not_not.mp c)
          refine a_lload_n dX8_countOnward_67 rfl ?_
          refine a_aload_n dX8_countOnward_68 rfl ?_
          refine a_getR dX8_countOnward_69 fl_Ways_24 sk_7 rfl ?_
          refine a_iload dX8_countOnward_72 rfl ?_
          obtain ⟨c15, hy⟩ := hy
          refine a_lald' dX8_countOnward_74 sk_39 c15 (rfl) ?_
          refine a_laddW dX8_countOnward_75 ?_
          refine a_lstore_n (i := 3) (ls2 := [some (vR 7 (-1)), some (vI p1), some (vI p2), some (vL (w64 (v3 + (h12.2.1 39 v5)))), none, some (vI v5)]) dX8_countOnward_76 rfl (Nat.le_of_ble_eq_true rfl) rfl ?_
          obtain ⟨c16, hy⟩ := hy
          refine a_iinc (y := v5 + 1) (ls2 := [some (vR 7 (-1)), some (vI p1), some (vI p2), some (vL (w64 (v3 + (h12.2.1 39 v5)))), none, some (vI (v5 + 1))]) dX8_countOnward_77 rfl rfl c16 rfl ?_
          refine a_goto (tgt := 5) dX8_countOnward_80 (by decide) ?_
          exact hy
theorem c_Ways_countOnward {d : Nat} (d0 : Nat) (hd : d0 < d) {p1 : Int} {p2 : Int} {h : AH} {Q : Int → AH → Prop} (hy : A_Ways_countOnward_5 d0 Q p1 p2 0 0 h) : Call d M_Ways_countOnward [vR 7 (-1), vI p1, vI p2] h Q := by
  refine ⟨d0, hd, Big.of rfl (Nat.le_of_ble_eq_true rfl) ?_⟩
  show AW d0 M_Ways_countOnward Q 0 [some (vR 7 (-1)), some (vI p1), some (vI p2), none, none, none] [] h
  refine a_lconst (x := 0) dX8_countOnward_0 rfl ⟨by decide, by decide⟩ ?_
  refine a_lstore_n (i := 3) (ls2 := [some (vR 7 (-1)), some (vI p1), some (vI p2), some (vL 0), none, none]) dX8_countOnward_1 rfl (Nat.le_of_ble_eq_true rfl) rfl ?_
  refine a_iconst (x := 0) dX8_countOnward_2 rfl ⟨by decide, by decide⟩ ?_
  refine a_istore (ls2 := [some (vR 7 (-1)), some (vI p1), some (vI p2), some (vL 0), none, some (vI 0)]) dX8_countOnward_3 (Nat.le_of_ble_eq_true rfl) rfl ?_
  exact hy
def A_Ways_countWalks_3 (d : Nat) (Q : Int → AH → Prop) (p1 : Int) (p2 : Int) (p3 : Int) (v4 : Int) (h : AH) : Prop := AW d M_Ways_countWalks Q 3 [some (vR 7 (-1)), some (vI p1), some (vI p2), some (vI p3), some (vI v4), none] [] h
def A_Ways_countWalks_42 (d : Nat) (Q : Int → AH → Prop) (p2 : Int) (p3 : Int) (v4 : Int) (h : AH) : Prop := AW d M_Ways_countWalks Q 42 [some (vR 7 (-1)), none, some (vI p2), some (vI p3), some (vI v4), none] [] h
def A_Ways_countWalks_66 (d : Nat) (Q : Int → AH → Prop) (p2 : Int) (p3 : Int) (v4 : Int) (v5 : Int) (h : AH) : Prop := AW d M_Ways_countWalks Q 66 [some (vR 7 (-1)), none, some (vI p2), some (vI p3), some (vI v4), some (vI v5)] [] h
theorem s_Ways_countWalks_3 {d : Nat} {Q : Int → AH → Prop} {p1 : Int} {p2 : Int} {p3 : Int} {v4 : Int} {h : AH} (hy : (((h.1 2 6) ≤ v4 → A_Ways_countWalks_42 d Q p2 p3 0 h) ∧ (v4 < (h.1 2 6) → (inb v4 40 ∧ (inI (v4 + 1) ∧ A_Ways_countWalks_3 d Q p1 p2 p3 (v4 + 1) (wL h 39 v4 (if v4 = p1 then (1 : Int) else 0))))))) : A_Ways_countWalks_3 d Q p1 p2 p3 v4 h := by
  show AW d M_Ways_countWalks Q 3 [some (vR 7 (-1)), some (vI p1), some (vI p2), some (vI p3), some (vI v4), none] [] h
  refine a_iload dX8_countWalks_3 rfl ?_
  refine a_aload_n dX8_countWalks_5 rfl ?_
  refine a_getR dX8_countWalks_6 fl_Ways_44 sk_7 rfl ?_
  refine a_getI' (kz := 6) dX8_countWalks_9 fl_Ways_57 sk_2 rfl rfl (rfl) ?_
  refine a_icmp_ge (tgt := 39) dX8_countWalks_12 (by decide) (fun c => ?_) (fun c => ?_)
  · have hy := hy.1 c
    refine a_iconst (x := 0) dX8_countWalks_39 rfl ⟨by decide, by decide⟩ ?_
    refine a_istore (ls2 := [some (vR 7 (-1)), some (vI p1), some (vI p2), some (vI p3), some (vI 0), none]) dX8_countWalks_40 (Nat.le_of_ble_eq_true rfl) rfl ?_
    refine a_mask [true, false, true, true, true, true] (ls2 := [some (vR 7 (-1)), none, some (vI p2), some (vI p3), some (vI 0), none]) rfl rfl ?_
    exact hy
  · have hy := hy.2 (Int.not_le.mp c)
    refine a_aload_n dX8_countWalks_15 rfl ?_
    refine a_getR dX8_countWalks_16 fl_Ways_24 sk_7 rfl ?_
    refine a_iload dX8_countWalks_19 rfl ?_
    refine a_iload dX8_countWalks_21 rfl ?_
    refine a_iload_n dX8_countWalks_23 rfl ?_
    have J : AW d M_Ways_countWalks Q 32 [some (vR 7 (-1)), some (vI p1), some (vI p2), some (vI p3), some (vI v4), none] [vL (if v4 = p1 then (1 : Int) else 0), vI v4, vR 39 (-1)] h := by
      obtain ⟨c1, hy⟩ := hy
      refine a_last dX8_countWalks_32 sk_39 c1 ?_
      obtain ⟨c2, hy⟩ := hy
      refine a_iinc (y := v4 + 1) (ls2 := [some (vR 7 (-1)), some (vI p1), some (vI p2), some (vI p3), some (vI (v4 + 1)), none]) dX8_countWalks_33 rfl rfl c2 rfl ?_
      refine a_goto (tgt := 3) dX8_countWalks_36 (by decide) ?_
      exact hy
    refine a_icmp_ne (tgt := 31) dX8_countWalks_24 (by decide) (fun e3 => ?_) (fun e3 => ?_)
    · refine a_lconst (x := 0) dX8_countWalks_31 rfl ⟨by decide, by decide⟩ ?_
      exact a_cast (by first | rfl | simp only [if_neg e3]) (by first | rfl | simp only [if_neg e3]) J
    · refine a_lconst (x := 1) dX8_countWalks_27 rfl ⟨by decide, by decide⟩ ?_
      refine a_goto (tgt := 32) dX8_countWalks_28 (by decide) ?_
      exact a_cast (by first | rfl | simp only [if_pos (Decidable.not_not.mp e3)]) (by first | rfl | simp only [if_pos (Decidable.not_not.mp e3)]) J
theorem s_Ways_countWalks_42 {d : Nat} {Q : Int → AH → Prop} {p2 : Int} {p3 : Int} {v4 : Int} {h : AH} (hy : ((p3 ≤ v4 → (inb p2 40 ∧ Q (h.2.1 39 p2) h)) ∧ (v4 < p3 → (1 ≤ d ∧ A_Ways_countWalks_66 d Q p2 p3 v4 0 (cpL h 39 40 40))))) : A_Ways_countWalks_42 d Q p2 p3 v4 h := by
  show AW d M_Ways_countWalks Q 42 [some (vR 7 (-1)), none, some (vI p2), some (vI p3), some (vI v4), none] [] h
  refine a_iload dX8_countWalks_42 rfl ?_
  refine a_iload_n dX8_countWalks_44 rfl ?_
  refine a_icmp_ge (tgt := 103) dX8_countWalks_45 (by decide) (fun c => ?_) (fun c => ?_)
  · have hy := hy.1 c
    refine a_aload_n dX8_countWalks_103 rfl ?_
    refine a_getR dX8_countWalks_104 fl_Ways_24 sk_7 rfl ?_
    refine a_iload_n dX8_countWalks_107 rfl ?_
    obtain ⟨c1, hy⟩ := hy
    refine a_lald' dX8_countWalks_108 sk_39 c1 (rfl) ?_
    exact a_lret dX8_countWalks_109 rfl hy
  · have hy := hy.2 (Int.not_le.mp c)
    refine a_aload_n dX8_countWalks_48 rfl ?_
    refine a_getR dX8_countWalks_49 fl_Ways_24 sk_7 rfl ?_
    refine a_iconst (x := 0) dX8_countWalks_52 rfl ⟨by decide, by decide⟩ ?_
    refine a_aload_n dX8_countWalks_53 rfl ?_
    refine a_getR dX8_countWalks_54 fl_Ways_27 sk_7 rfl ?_
    refine a_iconst (x := 0) dX8_countWalks_57 rfl ⟨by decide, by decide⟩ ?_
    refine a_bipush (x := 40) dX8_countWalks_58 (by decide) ⟨by decide, by decide⟩ ?_
    obtain ⟨c2, hy⟩ := hy
    refine a_copyL dX8_countWalks_60 cpl_Ways_132 sk_39 sk_40 rfl (Nat.le_of_ble_eq_true rfl) (Nat.le_of_ble_eq_true rfl) (Nat.le_of_ble_eq_true rfl) c2 (Nat.le_of_ble_eq_true rfl) ?_
    refine a_iconst (x := 0) dX8_countWalks_63 rfl ⟨by decide, by decide⟩ ?_
    refine a_istore (ls2 := [some (vR 7 (-1)), none, some (vI p2), some (vI p3), some (vI v4), some (vI 0)]) dX8_countWalks_64 (Nat.le_of_ble_eq_true rfl) rfl ?_
    exact hy
theorem s_Ways_countWalks_66 {d : Nat} {Q : Int → AH → Prop} {p2 : Int} {p3 : Int} {v4 : Int} {v5 : Int} {h : AH} (hy : (((h.1 2 6) ≤ v5 → (inI (v4 + 1) ∧ A_Ways_countWalks_42 d Q p2 p3 (v4 + 1) h)) ∧ (v5 < (h.1 2 6) → (Call d M_Ways_walksInto [vR 7 (-1), vI v5] h (fun r3 h2 => inb v5 40 ∧ (inI (v5 + 1) ∧ A_Ways_countWalks_66 d Q p2 p3 v4 (v5 + 1) (wL h2 39 v5 r3))))))) : A_Ways_countWalks_66 d Q p2 p3 v4 v5 h := by
  show AW d M_Ways_countWalks Q 66 [some (vR 7 (-1)), none, some (vI p2), some (vI p3), some (vI v4), some (vI v5)] [] h
  refine a_iload dX8_countWalks_66 rfl ?_
  refine a_aload_n dX8_countWalks_68 rfl ?_
  refine a_getR dX8_countWalks_69 fl_Ways_44 sk_7 rfl ?_
  refine a_getI' (kz := 6) dX8_countWalks_72 fl_Ways_57 sk_2 rfl rfl (rfl) ?_
  refine a_icmp_ge (tgt := 97) dX8_countWalks_75 (by decide) (fun c => ?_) (fun c => ?_)
  · have hy := hy.1 c
    obtain ⟨c1, hy⟩ := hy
    refine a_iinc (y := v4 + 1) (ls2 := [some (vR 7 (-1)), none, some (vI p2), some (vI p3), some (vI (v4 + 1)), some (vI v5)]) dX8_countWalks_97 rfl rfl c1 rfl ?_
    refine a_goto (tgt := 42) dX8_countWalks_100 (by decide) ?_
    refine a_mask [true, true, true, true, true, false] (ls2 := [some (vR 7 (-1)), none, some (vI p2), some (vI p3), some (vI (v4 + 1)), none]) rfl rfl ?_
    exact hy
  · have hy := hy.2 (Int.not_le.mp c)
    refine a_aload_n dX8_countWalks_78 rfl ?_
    refine a_getR dX8_countWalks_79 fl_Ways_24 sk_7 rfl ?_
    refine a_iload dX8_countWalks_82 rfl ?_
    refine a_aload_n dX8_countWalks_84 rfl ?_
    refine a_iload dX8_countWalks_85 rfl ?_
    refine a_callVl (as := [vI v5]) (st := [vI v5, vR 39 (-1)]) dX8_countWalks_87 lk_Ways_138 sk_7 rfl rfl (Nat.le_of_ble_eq_true rfl) rfl (Call.mono hy (fun r3 h2 _ hy => ?_))
    obtain ⟨c4, hy⟩ := hy
    refine a_last dX8_countWalks_90 sk_39 c4 ?_
    obtain ⟨c5, hy⟩ := hy
    refine a_iinc (y := v5 + 1) (ls2 := [some (vR 7 (-1)), none, some (vI p2), some (vI p3), some (vI v4), some (vI (v5 + 1))]) dX8_countWalks_91 rfl rfl c5 rfl ?_
    refine a_goto (tgt := 66) dX8_countWalks_94 (by decide) ?_
    exact hy
theorem c_Ways_countWalks {d : Nat} (d0 : Nat) (hd : d0 < d) {p1 : Int} {p2 : Int} {p3 : Int} {h : AH} {Q : Int → AH → Prop} (hy : A_Ways_countWalks_3 d0 Q p1 p2 p3 0 h) : Call d M_Ways_countWalks [vR 7 (-1), vI p1, vI p2, vI p3] h Q := by
  refine ⟨d0, hd, Big.of rfl (Nat.le_of_ble_eq_true rfl) ?_⟩
  show AW d0 M_Ways_countWalks Q 0 [some (vR 7 (-1)), some (vI p1), some (vI p2), some (vI p3), none, none] [] h
  refine a_iconst (x := 0) dX8_countWalks_0 rfl ⟨by decide, by decide⟩ ?_
  refine a_istore (ls2 := [some (vR 7 (-1)), some (vI p1), some (vI p2), some (vI p3), some (vI 0), none]) dX8_countWalks_1 (Nat.le_of_ble_eq_true rfl) rfl ?_
  exact hy
def A_Ways_findFarTwo_17 (d : Nat) (Q : Int → AH → Prop) (v1 : Int) (h : AH) : Prop := AW d M_Ways_findFarTwo Q 17 [some (vR 7 (-1)), some (vI v1), none] [] h
def A_Ways_findFarTwo_30 (d : Nat) (Q : Int → AH → Prop) (v1 : Int) (v2 : Int) (h : AH) : Prop := AW d M_Ways_findFarTwo Q 30 [some (vR 7 (-1)), some (vI v1), some (vI v2)] [] h
theorem s_Ways_findFarTwo_17 {d : Nat} {Q : Int → AH → Prop} {v1 : Int} {h : AH} (hy : (((h.1 2 6) ≤ v1 → Q 0 h) ∧ (v1 < (h.1 2 6) → A_Ways_findFarTwo_30 d Q v1 0 h))) : A_Ways_findFarTwo_17 d Q v1 h := by
  show AW d M_Ways_findFarTwo Q 17 [some (vR 7 (-1)), some (vI v1), none] [] h
  refine a_iload_n dX8_findFarTwo_17 rfl ?_
  refine a_aload_n dX8_findFarTwo_18 rfl ?_
  refine a_getR dX8_findFarTwo_19 fl_Ways_44 sk_7 rfl ?_
  refine a_getI' (kz := 6) dX8_findFarTwo_22 fl_Ways_57 sk_2 rfl rfl (rfl) ?_
  refine a_icmp_ge (tgt := 100) dX8_findFarTwo_25 (by decide) (fun c => ?_) (fun c => ?_)
  · have hy := hy.1 c
    exact a_vret dX8_findFarTwo_100 rfl hy
  · have hy := hy.2 (Int.not_le.mp c)
    refine a_iconst (x := 0) dX8_findFarTwo_28 rfl ⟨by decide, by decide⟩ ?_
    refine a_istore_n (i := 2) (ls2 := [some (vR 7 (-1)), some (vI v1), some (vI 0)]) dX8_findFarTwo_29 rfl (Nat.le_of_ble_eq_true rfl) rfl ?_
    exact hy
theorem s_Ways_findFarTwo_30 {d : Nat} {Q : Int → AH → Prop} {v1 : Int} {v2 : Int} {h : AH} (hy : (((h.1 2 6) ≤ v2 → (inI (v1 + 1) ∧ A_Ways_findFarTwo_17 d Q (v1 + 1) h)) ∧ (v2 < (h.1 2 6) → ((v1 = v2 → (inI (v2 + 1) ∧ A_Ways_findFarTwo_30 d Q v1 (v2 + 1) h)) ∧ (v1 ≠ v2 → (Call d M_Ways_isWay [vR 7 (-1), vI v1, vI v2] h (fun r4 h3 => ((r4 = 0 → (inI (v2 + 1) ∧ A_Ways_findFarTwo_30 d Q v1 (v2 + 1) h3)) ∧ (r4 ≠ 0 → (Call d M_Ways_costOf [vR 7 (-1), vI v1, vI v2] h3 (fun r7 h6 => ((r7 ≤ (h6.1 7 11) → (inI (v2 + 1) ∧ A_Ways_findFarTwo_30 d Q v1 (v2 + 1) h6)) ∧ ((h6.1 7 11) < r7 → (Call d M_Ways_costOf [vR 7 (-1), vI v1, vI v2] (wI (wI h6 7 9 v1) 7 10 v2) (fun r10 h9 => inI (v2 + 1) ∧ A_Ways_findFarTwo_30 d Q v1 (v2 + 1) (wI h9 7 11 r10)))))))))))))))) : A_Ways_findFarTwo_30 d Q v1 v2 h := by
  show AW d M_Ways_findFarTwo Q 30 [some (vR 7 (-1)), some (vI v1), some (vI v2)] [] h
  refine a_iload_n dX8_findFarTwo_30 rfl ?_
  refine a_aload_n dX8_findFarTwo_31 rfl ?_
  refine a_getR dX8_findFarTwo_32 fl_Ways_44 sk_7 rfl ?_
  refine a_getI' (kz := 6) dX8_findFarTwo_35 fl_Ways_57 sk_2 rfl rfl (rfl) ?_
  refine a_icmp_ge (tgt := 94) dX8_findFarTwo_38 (by decide) (fun c => ?_) (fun c => ?_)
  · have hy := hy.1 c
    obtain ⟨c1, hy⟩ := hy
    refine a_iinc (y := v1 + 1) (ls2 := [some (vR 7 (-1)), some (vI (v1 + 1)), some (vI v2)]) dX8_findFarTwo_94 rfl rfl c1 rfl ?_
    refine a_goto (tgt := 17) dX8_findFarTwo_97 (by decide) ?_
    refine a_mask [true, true, false] (ls2 := [some (vR 7 (-1)), some (vI (v1 + 1)), none]) rfl rfl ?_
    exact hy
  · have hy := hy.2 (Int.not_le.mp c)
    refine a_iload_n dX8_findFarTwo_41 rfl ?_
    refine a_iload_n dX8_findFarTwo_42 rfl ?_
    refine a_icmp_eq (tgt := 88) dX8_findFarTwo_43 (by decide) (fun c => ?_) (fun c => ?_)
    · have hy := hy.1 c
      obtain ⟨c2, hy⟩ := hy
      refine a_iinc (y := v2 + 1) (ls2 := [some (vR 7 (-1)), some (vI v1), some (vI (v2 + 1))]) dX8_findFarTwo_88 rfl rfl c2 rfl ?_
      refine a_goto (tgt := 30) dX8_findFarTwo_91 (by decide) ?_
      exact hy
    · have hy := hy.2 (c)
      refine a_aload_n dX8_findFarTwo_46 rfl ?_
      refine a_iload_n dX8_findFarTwo_47 rfl ?_
      refine a_iload_n dX8_findFarTwo_48 rfl ?_
      refine a_callVi (as := [vI v1, vI v2]) (st := []) dX8_findFarTwo_49 lk_Ways_99 sk_7 rfl rfl (Nat.le_of_ble_eq_true rfl) (Or.inr rfl) (Call.mono hy (fun r4 h3 _ hy => ?_))
      refine a_if_eq (tgt := 88) dX8_findFarTwo_52 (by decide) (fun c => ?_) (fun c => ?_)
      · have hy := hy.1 c
        obtain ⟨c5, hy⟩ := hy
        refine a_iinc (y := v2 + 1) (ls2 := [some (vR 7 (-1)), some (vI v1), some (vI (v2 + 1))]) dX8_findFarTwo_88 rfl rfl c5 rfl ?_
        refine a_goto (tgt := 30) dX8_findFarTwo_91 (by decide) ?_
        exact hy
      · have hy := hy.2 (c)
        refine a_aload_n dX8_findFarTwo_55 rfl ?_
        refine a_iload_n dX8_findFarTwo_56 rfl ?_
        refine a_iload_n dX8_findFarTwo_57 rfl ?_
        refine a_callVi (as := [vI v1, vI v2]) (st := []) dX8_findFarTwo_58 lk_Ways_102 sk_7 rfl rfl (Nat.le_of_ble_eq_true rfl) (Or.inl rfl) (Call.mono hy (fun r7 h6 _ hy => ?_))
        refine a_aload_n dX8_findFarTwo_61 rfl ?_
        refine a_getI' (kz := 11) dX8_findFarTwo_62 fl_Ways_96 sk_7 rfl rfl (rfl) ?_
        refine a_icmp_le (tgt := 88) dX8_findFarTwo_65 (by decide) (fun c => ?_) (fun c => ?_)
        · have hy := hy.1 c
          obtain ⟨c8, hy⟩ := hy
          refine a_iinc (y := v2 + 1) (ls2 := [some (vR 7 (-1)), some (vI v1), some (vI (v2 + 1))]) dX8_findFarTwo_88 rfl rfl c8 rfl ?_
          refine a_goto (tgt := 30) dX8_findFarTwo_91 (by decide) ?_
          exact hy
        · have hy := hy.2 (Int.not_le.mp c)
          refine a_aload_n dX8_findFarTwo_68 rfl ?_
          refine a_iload_n dX8_findFarTwo_69 rfl ?_
          refine a_putI (kz := 9) dX8_findFarTwo_70 fp_Ways_90 sk_7 rfl rfl ?_
          refine a_aload_n dX8_findFarTwo_73 rfl ?_
          refine a_iload_n dX8_findFarTwo_74 rfl ?_
          refine a_putI (kz := 10) dX8_findFarTwo_75 fp_Ways_93 sk_7 rfl rfl ?_
          refine a_aload_n dX8_findFarTwo_78 rfl ?_
          refine a_aload_n dX8_findFarTwo_79 rfl ?_
          refine a_iload_n dX8_findFarTwo_80 rfl ?_
          refine a_iload_n dX8_findFarTwo_81 rfl ?_
          refine a_callVi (as := [vI v1, vI v2]) (st := [vR 7 (-1)]) dX8_findFarTwo_82 lk_Ways_102 sk_7 rfl rfl (Nat.le_of_ble_eq_true rfl) (Or.inl rfl) (Call.mono hy (fun r10 h9 _ hy => ?_))
          refine a_putI (kz := 11) dX8_findFarTwo_85 fp_Ways_96 sk_7 rfl rfl ?_
          obtain ⟨c11, hy⟩ := hy
          refine a_iinc (y := v2 + 1) (ls2 := [some (vR 7 (-1)), some (vI v1), some (vI (v2 + 1))]) dX8_findFarTwo_88 rfl rfl c11 rfl ?_
          refine a_goto (tgt := 30) dX8_findFarTwo_91 (by decide) ?_
          exact hy
theorem c_Ways_findFarTwo {d : Nat} (d0 : Nat) (hd : d0 < d)  {h : AH} {Q : Int → AH → Prop} (hy : A_Ways_findFarTwo_17 d0 Q 0 (wI (wI (wI h 7 9 (-1)) 7 10 (-1)) 7 11 0)) : Call d M_Ways_findFarTwo [vR 7 (-1)] h Q := by
  refine ⟨d0, hd, Big.of rfl (Nat.le_of_ble_eq_true rfl) ?_⟩
  show AW d0 M_Ways_findFarTwo Q 0 [some (vR 7 (-1)), none, none] [] h
  refine a_aload_n dX8_findFarTwo_0 rfl ?_
  refine a_iconst (x := (-1)) dX8_findFarTwo_1 rfl ⟨by decide, by decide⟩ ?_
  refine a_putI (kz := 9) dX8_findFarTwo_2 fp_Ways_90 sk_7 rfl rfl ?_
  refine a_aload_n dX8_findFarTwo_5 rfl ?_
  refine a_iconst (x := (-1)) dX8_findFarTwo_6 rfl ⟨by decide, by decide⟩ ?_
  refine a_putI (kz := 10) dX8_findFarTwo_7 fp_Ways_93 sk_7 rfl rfl ?_
  refine a_aload_n dX8_findFarTwo_10 rfl ?_
  refine a_iconst (x := 0) dX8_findFarTwo_11 rfl ⟨by decide, by decide⟩ ?_
  refine a_putI (kz := 11) dX8_findFarTwo_12 fp_Ways_96 sk_7 rfl rfl ?_
  refine a_iconst (x := 0) dX8_findFarTwo_15 rfl ⟨by decide, by decide⟩ ?_
  refine a_istore_n (i := 1) (ls2 := [some (vR 7 (-1)), some (vI 0), none]) dX8_findFarTwo_16 rfl (Nat.le_of_ble_eq_true rfl) rfl ?_
  exact hy
def A_Ways_findHeaps_7 (d : Nat) (Q : Int → AH → Prop) (v1 : Int) (h : AH) : Prop := AW d M_Ways_findHeaps Q 7 [some (vR 7 (-1)), some (vI v1), none] [] h
def A_Ways_findHeaps_20 (d : Nat) (Q : Int → AH → Prop) (v1 : Int) (v2 : Int) (h : AH) : Prop := AW d M_Ways_findHeaps Q 20 [some (vR 7 (-1)), some (vI v1), some (vI v2)] [] h
def A_Ways_findHeaps_49 (d : Nat) (Q : Int → AH → Prop) (v1 : Int) (v2 : Int) (h : AH) : Prop := AW d M_Ways_findHeaps Q 49 [some (vR 7 (-1)), some (vI v1), some (vI v2)] [] h
theorem s_Ways_findHeaps_7 {d : Nat} {Q : Int → AH → Prop} {v1 : Int} {h : AH} (hy : (((h.1 2 6) ≤ v1 → Q 0 h) ∧ (v1 < (h.1 2 6) → A_Ways_findHeaps_20 d Q v1 0 h))) : A_Ways_findHeaps_7 d Q v1 h := by
  show AW d M_Ways_findHeaps Q 7 [some (vR 7 (-1)), some (vI v1), none] [] h
  refine a_iload_n dX8_findHeaps_7 rfl ?_
  refine a_aload_n dX8_findHeaps_8 rfl ?_
  refine a_getR dX8_findHeaps_9 fl_Ways_44 sk_7 rfl ?_
  refine a_getI' (kz := 6) dX8_findHeaps_12 fl_Ways_57 sk_2 rfl rfl (rfl) ?_
  refine a_icmp_ge (tgt := 88) dX8_findHeaps_15 (by decide) (fun c => ?_) (fun c => ?_)
  · have hy := hy.1 c
    exact a_vret dX8_findHeaps_88 rfl hy
  · have hy := hy.2 (Int.not_le.mp c)
    refine a_iconst (x := 0) dX8_findHeaps_18 rfl ⟨by decide, by decide⟩ ?_
    refine a_istore_n (i := 2) (ls2 := [some (vR 7 (-1)), some (vI v1), some (vI 0)]) dX8_findHeaps_19 rfl (Nat.le_of_ble_eq_true rfl) rfl ?_
    exact hy
theorem s_Ways_findHeaps_20 {d : Nat} {Q : Int → AH → Prop} {v1 : Int} {v2 : Int} {h : AH} (hy : ((v1 ≤ v2 → A_Ways_findHeaps_49 d Q v1 v2 h) ∧ (v2 < v1 → (Call d M_Ways_reaches [vR 7 (-1), vI v1, vI v2] h (fun r2 h1 => ((r2 = 0 → (inI (v2 + 1) ∧ A_Ways_findHeaps_20 d Q v1 (v2 + 1) h1)) ∧ (r2 ≠ 0 → (Call d M_Ways_reaches [vR 7 (-1), vI v2, vI v1] h1 (fun r5 h4 => ((r5 ≠ 0 → A_Ways_findHeaps_49 d Q v1 v2 h4) ∧ (r5 = 0 → (inI (v2 + 1) ∧ A_Ways_findHeaps_20 d Q v1 (v2 + 1) h4)))))))))))) : A_Ways_findHeaps_20 d Q v1 v2 h := by
  show AW d M_Ways_findHeaps Q 20 [some (vR 7 (-1)), some (vI v1), some (vI v2)] [] h
  refine a_iload_n dX8_findHeaps_20 rfl ?_
  refine a_iload_n dX8_findHeaps_21 rfl ?_
  refine a_icmp_ge (tgt := 49) dX8_findHeaps_22 (by decide) (fun c => ?_) (fun c => ?_)
  · have hy := hy.1 c
    exact hy
  · have hy := hy.2 (Int.not_le.mp c)
    refine a_aload_n dX8_findHeaps_25 rfl ?_
    refine a_iload_n dX8_findHeaps_26 rfl ?_
    refine a_iload_n dX8_findHeaps_27 rfl ?_
    refine a_callVi (as := [vI v1, vI v2]) (st := []) dX8_findHeaps_28 lk_Ways_69 sk_7 rfl rfl (Nat.le_of_ble_eq_true rfl) (Or.inr rfl) (Call.mono hy (fun r2 h1 _ hy => ?_))
    refine a_if_eq (tgt := 43) dX8_findHeaps_31 (by decide) (fun c => ?_) (fun c => ?_)
    · have hy := hy.1 c
      obtain ⟨c3, hy⟩ := hy
      refine a_iinc (y := v2 + 1) (ls2 := [some (vR 7 (-1)), some (vI v1), some (vI (v2 + 1))]) dX8_findHeaps_43 rfl rfl c3 rfl ?_
      refine a_goto (tgt := 20) dX8_findHeaps_46 (by decide) ?_
      exact hy
    · have hy := hy.2 (c)
      refine a_aload_n dX8_findHeaps_34 rfl ?_
      refine a_iload_n dX8_findHeaps_35 rfl ?_
      refine a_iload_n dX8_findHeaps_36 rfl ?_
      refine a_callVi (as := [vI v2, vI v1]) (st := []) dX8_findHeaps_37 lk_Ways_69 sk_7 rfl rfl (Nat.le_of_ble_eq_true rfl) (Or.inr rfl) (Call.mono hy (fun r5 h4 _ hy => ?_))
      refine a_if_ne (tgt := 49) dX8_findHeaps_40 (by decide) (fun c => ?_) (fun c => ?_)
      · have hy := hy.1 c
        exact hy
      · have hy := hy.2 (Decidable.not_not.mp c)
        obtain ⟨c6, hy⟩ := hy
        refine a_iinc (y := v2 + 1) (ls2 := [some (vR 7 (-1)), some (vI v1), some (vI (v2 + 1))]) dX8_findHeaps_43 rfl rfl c6 rfl ?_
        refine a_goto (tgt := 20) dX8_findHeaps_46 (by decide) ?_
        exact hy
theorem s_Ways_findHeaps_49 {d : Nat} {Q : Int → AH → Prop} {v1 : Int} {v2 : Int} {h : AH} (hy : inb v1 40 ∧ ((v2 ≠ v1 → (inI (v1 + 1) ∧ A_Ways_findHeaps_7 d Q (v1 + 1) (wI h 38 v1 v2))) ∧ (v2 = v1 → (Call d M_Words_isUsed [vR 2 (-1), vI v1] (wI h 38 v1 v2) (fun r4 h3 => ((r4 = 0 → (inI (v1 + 1) ∧ A_Ways_findHeaps_7 d Q (v1 + 1) h3)) ∧ (r4 ≠ 0 → (inI ((h3.1 7 8) + 1) ∧ (inI (v1 + 1) ∧ A_Ways_findHeaps_7 d Q (v1 + 1) (wI h3 7 8 ((h3.1 7 8) + 1))))))))))) : A_Ways_findHeaps_49 d Q v1 v2 h := by
  show AW d M_Ways_findHeaps Q 49 [some (vR 7 (-1)), some (vI v1), some (vI v2)] [] h
  refine a_aload_n dX8_findHeaps_49 rfl ?_
  refine a_getR dX8_findHeaps_50 fl_Ways_20 sk_7 rfl ?_
  refine a_iload_n dX8_findHeaps_53 rfl ?_
  refine a_iload_n dX8_findHeaps_54 rfl ?_
  obtain ⟨c1, hy⟩ := hy
  refine a_iast dX8_findHeaps_55 sk_38 c1 ?_
  refine a_iload_n dX8_findHeaps_56 rfl ?_
  refine a_iload_n dX8_findHeaps_57 rfl ?_
  refine a_icmp_ne (tgt := 82) dX8_findHeaps_58 (by decide) (fun c => ?_) (fun c => ?_)
  · have hy := hy.1 c
    obtain ⟨c2, hy⟩ := hy
    refine a_iinc (y := v1 + 1) (ls2 := [some (vR 7 (-1)), some (vI (v1 + 1)), some (vI v2)]) dX8_findHeaps_82 rfl rfl c2 rfl ?_
    refine a_goto (tgt := 7) dX8_findHeaps_85 (by decide) ?_
    refine a_mask [true, true, false] (ls2 := [some (vR 7 (-1)), some (vI (v1 + 1)), none]) rfl rfl ?_
    exact hy
  · have hy := hy.2 (Decidable.not_not.mp c)
    refine a_aload_n dX8_findHeaps_61 rfl ?_
    refine a_getR dX8_findHeaps_62 fl_Ways_44 sk_7 rfl ?_
    refine a_iload_n dX8_findHeaps_65 rfl ?_
    refine a_callVi (as := [vI v1]) (st := []) dX8_findHeaps_66 lk_Ways_62 sk_2 rfl rfl (Nat.le_of_ble_eq_true rfl) (Or.inr rfl) (Call.mono hy (fun r4 h3 _ hy => ?_))
    refine a_if_eq (tgt := 82) dX8_findHeaps_69 (by decide) (fun c => ?_) (fun c => ?_)
    · have hy := hy.1 c
      obtain ⟨c5, hy⟩ := hy
      refine a_iinc (y := v1 + 1) (ls2 := [some (vR 7 (-1)), some (vI (v1 + 1)), some (vI v2)]) dX8_findHeaps_82 rfl rfl c5 rfl ?_
      refine a_goto (tgt := 7) dX8_findHeaps_85 (by decide) ?_
      refine a_mask [true, true, false] (ls2 := [some (vR 7 (-1)), some (vI (v1 + 1)), none]) rfl rfl ?_
      exact hy
    · have hy := hy.2 (c)
      refine a_aload_n dX8_findHeaps_72 rfl ?_
      refine a_dupR dX8_findHeaps_73 ?_
      refine a_getI' (kz := 8) dX8_findHeaps_74 fl_Ways_76 sk_7 rfl rfl (rfl) ?_
      refine a_iconst (x := 1) dX8_findHeaps_77 rfl ⟨by decide, by decide⟩ ?_
      obtain ⟨c6, hy⟩ := hy
      refine a_iadd dX8_findHeaps_78 c6 ?_
      refine a_putI (kz := 8) dX8_findHeaps_79 fp_Ways_76 sk_7 rfl rfl ?_
      obtain ⟨c7, hy⟩ := hy
      refine a_iinc (y := v1 + 1) (ls2 := [some (vR 7 (-1)), some (vI (v1 + 1)), some (vI v2)]) dX8_findHeaps_82 rfl rfl c7 rfl ?_
      refine a_goto (tgt := 7) dX8_findHeaps_85 (by decide) ?_
      refine a_mask [true, true, false] (ls2 := [some (vR 7 (-1)), some (vI (v1 + 1)), none]) rfl rfl ?_
      exact hy
theorem c_Ways_findHeaps {d : Nat} (d0 : Nat) (hd : d0 < d)  {h : AH} {Q : Int → AH → Prop} (hy : A_Ways_findHeaps_7 d0 Q 0 (wI h 7 8 0)) : Call d M_Ways_findHeaps [vR 7 (-1)] h Q := by
  refine ⟨d0, hd, Big.of rfl (Nat.le_of_ble_eq_true rfl) ?_⟩
  show AW d0 M_Ways_findHeaps Q 0 [some (vR 7 (-1)), none, none] [] h
  refine a_aload_n dX8_findHeaps_0 rfl ?_
  refine a_iconst (x := 0) dX8_findHeaps_1 rfl ⟨by decide, by decide⟩ ?_
  refine a_putI (kz := 8) dX8_findHeaps_2 fp_Ways_76 sk_7 rfl rfl ?_
  refine a_iconst (x := 0) dX8_findHeaps_5 rfl ⟨by decide, by decide⟩ ?_
  refine a_istore_n (i := 1) (ls2 := [some (vR 7 (-1)), some (vI 0), none]) dX8_findHeaps_6 rfl (Nat.le_of_ble_eq_true rfl) rfl ?_
  exact hy
theorem c_Ways_isWay {d : Nat} (d0 : Nat) (hd : d0 < d) {p1 : Int} {p2 : Int} {h : AH} {Q : Int → AH → Prop} (hy : inb p1 40 ∧ (inb p2 40 ∧ ((536870912 ≤ (h.2.2 36 p1 p2) → Q 0 h) ∧ ((h.2.2 36 p1 p2) < 536870912 → Q 1 h)))) : Call d M_Ways_isWay [vR 7 (-1), vI p1, vI p2] h Q := by
  refine ⟨d0, hd, Big.of rfl (Nat.le_of_ble_eq_true rfl) ?_⟩
  show AW d0 M_Ways_isWay Q 0 [some (vR 7 (-1)), some (vI p1), some (vI p2)] [] h
  refine a_aload_n dX8_isWay_0 rfl ?_
  refine a_getR dX8_isWay_1 fl_Ways_11 sk_7 rfl ?_
  refine a_iload_n dX8_isWay_4 rfl ?_
  obtain ⟨c1, hy⟩ := hy
  refine a_aald dX8_isWay_5 sk_36 c1 ?_
  refine a_iload_n dX8_isWay_6 rfl ?_
  obtain ⟨c2, hy⟩ := hy
  refine a_ialdR' dX8_isWay_7 sk_36 (inb_ne c1) c2 (rfl) ?_
  refine a_ldc (x := 536870912) dX8_isWay_8 kc_Ways_82 ⟨by decide, by decide⟩ ?_
  refine a_icmp_ge (tgt := 17) dX8_isWay_10 (by decide) (fun c => ?_) (fun c => ?_)
  · have hy := hy.1 c
    refine a_iconst (x := 0) dX8_isWay_17 rfl ⟨by decide, by decide⟩ ?_
    exact a_zret dX8_isWay_18 rfl (Or.inl rfl) hy
  · have hy := hy.2 (Int.not_le.mp c)
    refine a_iconst (x := 1) dX8_isWay_13 rfl ⟨by decide, by decide⟩ ?_
    refine a_goto (tgt := 18) dX8_isWay_14 (by decide) ?_
    exact a_zret dX8_isWay_18 rfl (Or.inr rfl) hy
theorem c_Ways_lengthOf {d : Nat} (d0 : Nat) (hd : d0 < d) {p1 : Int} {p2 : Int} {h : AH} {Q : Int → AH → Prop} (hy : inb p1 40 ∧ (inb p2 40 ∧ Q (Int.tmod (h.2.2 36 p1 p2) 64) h)) : Call d M_Ways_lengthOf [vR 7 (-1), vI p1, vI p2] h Q := by
  refine ⟨d0, hd, Big.of rfl (Nat.le_of_ble_eq_true rfl) ?_⟩
  show AW d0 M_Ways_lengthOf Q 0 [some (vR 7 (-1)), some (vI p1), some (vI p2)] [] h
  refine a_aload_n dX8_lengthOf_0 rfl ?_
  refine a_getR dX8_lengthOf_1 fl_Ways_11 sk_7 rfl ?_
  refine a_iload_n dX8_lengthOf_4 rfl ?_
  obtain ⟨c1, hy⟩ := hy
  refine a_aald dX8_lengthOf_5 sk_36 c1 ?_
  refine a_iload_n dX8_lengthOf_6 rfl ?_
  obtain ⟨c2, hy⟩ := hy
  refine a_ialdR' dX8_lengthOf_7 sk_36 (inb_ne c1) c2 (rfl) ?_
  refine a_bipush (x := 64) dX8_lengthOf_8 (by decide) ⟨by decide, by decide⟩ ?_
  refine a_irem dX8_lengthOf_10 (by decide) ?_
  exact a_iret dX8_lengthOf_11 rfl hy
def A_Ways_nearestUndone_4 (d : Nat) (Q : Int → AH → Prop) (p1 : Int) (v2 : Int) (v3 : Int) (h : AH) : Prop := AW d M_Ways_nearestUndone Q 4 [some (vR 7 (-1)), some (vI p1), some (vI v2), some (vI v3)] [] h
theorem s_Ways_nearestUndone_4 {d : Nat} {Q : Int → AH → Prop} {p1 : Int} {v2 : Int} {v3 : Int} {h : AH} (hy : (((h.1 2 6) ≤ v3 → Q v2 h) ∧ (v3 < (h.1 2 6) → (inb v3 40 ∧ (((h.1 41 v3) ≠ 0 → (inI (v3 + 1) ∧ A_Ways_nearestUndone_4 d Q p1 v2 (v3 + 1) h)) ∧ ((h.1 41 v3) = 0 → ((v2 = (-1) → (inI (v3 + 1) ∧ A_Ways_nearestUndone_4 d Q p1 v3 (v3 + 1) h)) ∧ (v2 ≠ (-1) → (inb p1 40 ∧ (inb v2 40 ∧ (((h.2.2 36 v2 p1) ≤ (h.2.2 36 v3 p1) → (inI (v3 + 1) ∧ A_Ways_nearestUndone_4 d Q p1 v2 (v3 + 1) h)) ∧ ((h.2.2 36 v3 p1) < (h.2.2 36 v2 p1) → (inI (v3 + 1) ∧ A_Ways_nearestUndone_4 d Q p1 v3 (v3 + 1) h))))))))))))) : A_Ways_nearestUndone_4 d Q p1 v2 v3 h := by
  show AW d M_Ways_nearestUndone Q 4 [some (vR 7 (-1)), some (vI p1), some (vI v2), some (vI v3)] [] h
  refine a_iload_n dX8_nearestUndone_4 rfl ?_
  refine a_aload_n dX8_nearestUndone_5 rfl ?_
  refine a_getR dX8_nearestUndone_6 fl_Ways_44 sk_7 rfl ?_
  refine a_getI' (kz := 6) dX8_nearestUndone_9 fl_Ways_57 sk_2 rfl rfl (rfl) ?_
  refine a_icmp_ge (tgt := 56) dX8_nearestUndone_12 (by decide) (fun c => ?_) (fun c => ?_)
  · have hy := hy.1 c
    refine a_iload_n dX8_nearestUndone_56 rfl ?_
    exact a_iret dX8_nearestUndone_57 rfl hy
  · have hy := hy.2 (Int.not_le.mp c)
    refine a_aload_n dX8_nearestUndone_15 rfl ?_
    refine a_getR dX8_nearestUndone_16 fl_Ways_30 sk_7 rfl ?_
    refine a_iload_n dX8_nearestUndone_19 rfl ?_
    obtain ⟨c1, hy⟩ := hy
    refine a_zald' dX8_nearestUndone_20 sk_41 c1 (rfl) ?_
    refine a_if_ne (tgt := 50) dX8_nearestUndone_21 (by decide) (fun c => ?_) (fun c => ?_)
    · have hy := hy.1 c
      obtain ⟨c2, hy⟩ := hy
      refine a_iinc (y := v3 + 1) (ls2 := [some (vR 7 (-1)), some (vI p1), some (vI v2), some (vI (v3 + 1))]) dX8_nearestUndone_50 rfl rfl c2 rfl ?_
      refine a_goto (tgt := 4) dX8_nearestUndone_53 (by decide) ?_
      exact hy
    · have hy := hy.2 (Decidable.not_not.mp c)
      refine a_iload_n dX8_nearestUndone_24 rfl ?_
      refine a_iconst (x := (-1)) dX8_nearestUndone_25 rfl ⟨by decide, by decide⟩ ?_
      refine a_icmp_eq (tgt := 48) dX8_nearestUndone_26 (by decide) (fun c => ?_) (fun c => ?_)
      · have hy := hy.1 c
        refine a_iload_n dX8_nearestUndone_48 rfl ?_
        refine a_istore_n (i := 2) (ls2 := [some (vR 7 (-1)), some (vI p1), some (vI v3), some (vI v3)]) dX8_nearestUndone_49 rfl (Nat.le_of_ble_eq_true rfl) rfl ?_
        obtain ⟨c3, hy⟩ := hy
        refine a_iinc (y := v3 + 1) (ls2 := [some (vR 7 (-1)), some (vI p1), some (vI v3), some (vI (v3 + 1))]) dX8_nearestUndone_50 rfl rfl c3 rfl ?_
        refine a_goto (tgt := 4) dX8_nearestUndone_53 (by decide) ?_
        exact hy
      · have hy := hy.2 (c)
        refine a_aload_n dX8_nearestUndone_29 rfl ?_
        refine a_getR dX8_nearestUndone_30 fl_Ways_11 sk_7 rfl ?_
        refine a_iload_n dX8_nearestUndone_33 rfl ?_
        refine a_aald dX8_nearestUndone_34 sk_36 c1 ?_
        refine a_iload_n dX8_nearestUndone_35 rfl ?_
        obtain ⟨c4, hy⟩ := hy
        refine a_ialdR' dX8_nearestUndone_36 sk_36 (inb_ne c1) c4 (rfl) ?_
        refine a_aload_n dX8_nearestUndone_37 rfl ?_
        refine a_getR dX8_nearestUndone_38 fl_Ways_11 sk_7 rfl ?_
        refine a_iload_n dX8_nearestUndone_41 rfl ?_
        obtain ⟨c5, hy⟩ := hy
        refine a_aald dX8_nearestUndone_42 sk_36 c5 ?_
        refine a_iload_n dX8_nearestUndone_43 rfl ?_
        refine a_ialdR' dX8_nearestUndone_44 sk_36 (inb_ne c5) c4 (rfl) ?_
        refine a_icmp_ge (tgt := 50) dX8_nearestUndone_45 (by decide) (fun c => ?_) (fun c => ?_)
        · have hy := hy.1 c
          obtain ⟨c6, hy⟩ := hy
          refine a_iinc (y := v3 + 1) (ls2 := [some (vR 7 (-1)), some (vI p1), some (vI v2), some (vI (v3 + 1))]) dX8_nearestUndone_50 rfl rfl c6 rfl ?_
          refine a_goto (tgt := 4) dX8_nearestUndone_53 (by decide) ?_
          exact hy
        · have hy := hy.2 (Int.not_le.mp c)
          refine a_iload_n dX8_nearestUndone_48 rfl ?_
          refine a_istore_n (i := 2) (ls2 := [some (vR 7 (-1)), some (vI p1), some (vI v3), some (vI v3)]) dX8_nearestUndone_49 rfl (Nat.le_of_ble_eq_true rfl) rfl ?_
          obtain ⟨c7, hy⟩ := hy
          refine a_iinc (y := v3 + 1) (ls2 := [some (vR 7 (-1)), some (vI p1), some (vI v3), some (vI (v3 + 1))]) dX8_nearestUndone_50 rfl rfl c7 rfl ?_
          refine a_goto (tgt := 4) dX8_nearestUndone_53 (by decide) ?_
          exact hy
theorem c_Ways_nearestUndone {d : Nat} (d0 : Nat) (hd : d0 < d) {p1 : Int} {h : AH} {Q : Int → AH → Prop} (hy : A_Ways_nearestUndone_4 d0 Q p1 (-1) 0 h) : Call d M_Ways_nearestUndone [vR 7 (-1), vI p1] h Q := by
  refine ⟨d0, hd, Big.of rfl (Nat.le_of_ble_eq_true rfl) ?_⟩
  show AW d0 M_Ways_nearestUndone Q 0 [some (vR 7 (-1)), some (vI p1), none, none] [] h
  refine a_iconst (x := (-1)) dX8_nearestUndone_0 rfl ⟨by decide, by decide⟩ ?_
  refine a_istore_n (i := 2) (ls2 := [some (vR 7 (-1)), some (vI p1), some (vI (-1)), none]) dX8_nearestUndone_1 rfl (Nat.le_of_ble_eq_true rfl) rfl ?_
  refine a_iconst (x := 0) dX8_nearestUndone_2 rfl ⟨by decide, by decide⟩ ?_
  refine a_istore_n (i := 3) (ls2 := [some (vR 7 (-1)), some (vI p1), some (vI (-1)), some (vI 0)]) dX8_nearestUndone_3 rfl (Nat.le_of_ble_eq_true rfl) rfl ?_
  exact hy
def A_Ways_neededBetween_5 (d : Nat) (Q : Int → AH → Prop) (p1 : Int) (p2 : Int) (v3 : Int) (v5 : Int) (h : AH) : Prop := AW d M_Ways_neededBetween Q 5 [some (vR 7 (-1)), some (vI p1), some (vI p2), some (vL v3), none, some (vI v5)] [] h
theorem s_Ways_neededBetween_5 {d : Nat} {Q : Int → AH → Prop} {p1 : Int} {p2 : Int} {v3 : Int} {v5 : Int} {h : AH} (hy : (((h.1 2 6) ≤ v5 → Q v3 h) ∧ (v5 < (h.1 2 6) → ((v5 = p1 → (inI (v5 + 1) ∧ A_Ways_neededBetween_5 d Q p1 p2 v3 (v5 + 1) h)) ∧ (v5 ≠ p1 → ((v5 = p2 → (inI (v5 + 1) ∧ A_Ways_neededBetween_5 d Q p1 p2 v3 (v5 + 1) h)) ∧ (v5 ≠ p2 → (Call d M_Ways_reaches [vR 7 (-1), vI p1, vI v5] h (fun r4 h3 => ((r4 = 0 → (inI (v5 + 1) ∧ A_Ways_neededBetween_5 d Q p1 p2 v3 (v5 + 1) h3)) ∧ (r4 ≠ 0 → (Call d M_Ways_reaches [vR 7 (-1), vI v5, vI p2] h3 (fun r7 h6 => ((r7 = 0 → (inI (v5 + 1) ∧ A_Ways_neededBetween_5 d Q p1 p2 v3 (v5 + 1) h6)) ∧ (r7 ≠ 0 → (Call d M_Ways_reachesWithout [vR 7 (-1), vI p1, vI p2, vI v5] h6 (fun r10 h9 => ((r10 ≠ 0 → (inI (v5 + 1) ∧ A_Ways_neededBetween_5 d Q p1 p2 v3 (v5 + 1) h9)) ∧ (r10 = 0 → (inI (v5 + 1) ∧ A_Ways_neededBetween_5 d Q p1 p2 (lor v3 (lshl 1 v5)) (v5 + 1) h9)))))))))))))))))))) : A_Ways_neededBetween_5 d Q p1 p2 v3 v5 h := by
  show AW d M_Ways_neededBetween Q 5 [some (vR 7 (-1)), some (vI p1), some (vI p2), some (vL v3), none, some (vI v5)] [] h
  refine a_iload dX8_neededBetween_5 rfl ?_
  refine a_aload_n dX8_neededBetween_7 rfl ?_
  refine a_getR dX8_neededBetween_8 fl_Ways_44 sk_7 rfl ?_
  refine a_getI' (kz := 6) dX8_neededBetween_11 fl_Ways_57 sk_2 rfl rfl (rfl) ?_
  refine a_icmp_ge (tgt := 73) dX8_neededBetween_14 (by decide) (fun c => ?_) (fun c => ?_)
  · have hy := hy.1 c
    refine a_lload_n dX8_neededBetween_73 rfl ?_
    exact a_lret dX8_neededBetween_74 rfl hy
  · have hy := hy.2 (Int.not_le.mp c)
    refine a_iload dX8_neededBetween_17 rfl ?_
    refine a_iload_n dX8_neededBetween_19 rfl ?_
    refine a_icmp_eq (tgt := 67) dX8_neededBetween_20 (by decide) (fun c => ?_) (fun c => ?_)
    · have hy := hy.1 c
      obtain ⟨c1, hy⟩ := hy
      refine a_iinc (y := v5 + 1) (ls2 := [some (vR 7 (-1)), some (vI p1), some (vI p2), some (vL v3), none, some (vI (v5 + 1))]) dX8_neededBetween_67 rfl rfl c1 rfl ?_
      refine a_goto (tgt := 5) dX8_neededBetween_70 (by decide) ?_
      exact hy
    · have hy := hy.2 (c)
      refine a_iload dX8_neededBetween_23 rfl ?_
      refine a_iload_n dX8_neededBetween_25 rfl ?_
      refine a_icmp_eq (tgt := 67) dX8_neededBetween_26 (by decide) (fun c => ?_) (fun c => ?_)
      · have hy := hy.1 c
        obtain ⟨c2, hy⟩ := hy
        refine a_iinc (y := v5 + 1) (ls2 := [some (vR 7 (-1)), some (vI p1), some (vI p2), some (vL v3), none, some (vI (v5 + 1))]) dX8_neededBetween_67 rfl rfl c2 rfl ?_
        refine a_goto (tgt := 5) dX8_neededBetween_70 (by decide) ?_
        exact hy
      · have hy := hy.2 (c)
        refine a_aload_n dX8_neededBetween_29 rfl ?_
        refine a_iload_n dX8_neededBetween_30 rfl ?_
        refine a_iload dX8_neededBetween_31 rfl ?_
        refine a_callVi (as := [vI p1, vI v5]) (st := []) dX8_neededBetween_33 lk_Ways_69 sk_7 rfl rfl (Nat.le_of_ble_eq_true rfl) (Or.inr rfl) (Call.mono hy (fun r4 h3 _ hy => ?_))
        refine a_if_eq (tgt := 67) dX8_neededBetween_36 (by decide) (fun c => ?_) (fun c => ?_)
        · have hy := hy.1 c
          obtain ⟨c5, hy⟩ := hy
          refine a_iinc (y := v5 + 1) (ls2 := [some (vR 7 (-1)), some (vI p1), some (vI p2), some (vL v3), none, some (vI (v5 + 1))]) dX8_neededBetween_67 rfl rfl c5 rfl ?_
          refine a_goto (tgt := 5) dX8_neededBetween_70 (by decide) ?_
          exact hy
        · have hy := hy.2 (c)
          refine a_aload_n dX8_neededBetween_39 rfl ?_
          refine a_iload dX8_neededBetween_40 rfl ?_
          refine a_iload_n dX8_neededBetween_42 rfl ?_
          refine a_callVi (as := [vI v5, vI p2]) (st := []) dX8_neededBetween_43 lk_Ways_69 sk_7 rfl rfl (Nat.le_of_ble_eq_true rfl) (Or.inr rfl) (Call.mono hy (fun r7 h6 _ hy => ?_))
          refine a_if_eq (tgt := 67) dX8_neededBetween_46 (by decide) (fun c => ?_) (fun c => ?_)
          · have hy := hy.1 c
            obtain ⟨c8, hy⟩ := hy
            refine a_iinc (y := v5 + 1) (ls2 := [some (vR 7 (-1)), some (vI p1), some (vI p2), some (vL v3), none, some (vI (v5 + 1))]) dX8_neededBetween_67 rfl rfl c8 rfl ?_
            refine a_goto (tgt := 5) dX8_neededBetween_70 (by decide) ?_
            exact hy
          · have hy := hy.2 (c)
            refine a_aload_n dX8_neededBetween_49 rfl ?_
            refine a_iload_n dX8_neededBetween_50 rfl ?_
            refine a_iload_n dX8_neededBetween_51 rfl ?_
            refine a_iload dX8_neededBetween_52 rfl ?_
            refine a_callVi (as := [vI p1, vI p2, vI v5]) (st := []) dX8_neededBetween_54 lk_Ways_117 sk_7 rfl rfl (Nat.le_of_ble_eq_true rfl) (Or.inr rfl) (Call.mono hy (fun r10 h9 _ hy => ?_))
            refine a_if_ne (tgt := 67) dX8_neededBetween_57 (by decide) (fun c => ?_) (fun c => ?_)
            · have hy := hy.1 c
              obtain ⟨c11, hy⟩ := hy
              refine a_iinc (y := v5 + 1) (ls2 := [some (vR 7 (-1)), some (vI p1), some (vI p2), some (vL v3), none, some (vI (v5 + 1))]) dX8_neededBetween_67 rfl rfl c11 rfl ?_
              refine a_goto (tgt := 5) dX8_neededBetween_70 (by decide) ?_
              exact hy
            · have hy := hy.2 (Decidable.not_not.mp c)
              refine a_lload_n dX8_neededBetween_60 rfl ?_
              refine a_lconst (x := 1) dX8_neededBetween_61 rfl ⟨by decide, by decide⟩ ?_
              refine a_iload dX8_neededBetween_62 rfl ?_
              refine a_lshl dX8_neededBetween_64 ?_
              refine a_lor dX8_neededBetween_65 ?_
              refine a_lstore_n (i := 3) (ls2 := [some (vR 7 (-1)), some (vI p1), some (vI p2), some (vL (lor v3 (lshl 1 v5))), none, some (vI v5)]) dX8_neededBetween_66 rfl (Nat.le_of_ble_eq_true rfl) rfl ?_
              obtain ⟨c12, hy⟩ := hy
              refine a_iinc (y := v5 + 1) (ls2 := [some (vR 7 (-1)), some (vI p1), some (vI p2), some (vL (lor v3 (lshl 1 v5))), none, some (vI (v5 + 1))]) dX8_neededBetween_67 rfl rfl c12 rfl ?_
              refine a_goto (tgt := 5) dX8_neededBetween_70 (by decide) ?_
              exact hy
theorem c_Ways_neededBetween {d : Nat} (d0 : Nat) (hd : d0 < d) {p1 : Int} {p2 : Int} {h : AH} {Q : Int → AH → Prop} (hy : A_Ways_neededBetween_5 d0 Q p1 p2 0 0 h) : Call d M_Ways_neededBetween [vR 7 (-1), vI p1, vI p2] h Q := by
  refine ⟨d0, hd, Big.of rfl (Nat.le_of_ble_eq_true rfl) ?_⟩
  show AW d0 M_Ways_neededBetween Q 0 [some (vR 7 (-1)), some (vI p1), some (vI p2), none, none, none] [] h
  refine a_lconst (x := 0) dX8_neededBetween_0 rfl ⟨by decide, by decide⟩ ?_
  refine a_lstore_n (i := 3) (ls2 := [some (vR 7 (-1)), some (vI p1), some (vI p2), some (vL 0), none, none]) dX8_neededBetween_1 rfl (Nat.le_of_ble_eq_true rfl) rfl ?_
  refine a_iconst (x := 0) dX8_neededBetween_2 rfl ⟨by decide, by decide⟩ ?_
  refine a_istore (ls2 := [some (vR 7 (-1)), some (vI p1), some (vI p2), some (vL 0), none, some (vI 0)]) dX8_neededBetween_3 (Nat.le_of_ble_eq_true rfl) rfl ?_
  exact hy
theorem c_Ways_reaches {d : Nat} (d0 : Nat) (hd : d0 < d) {p1 : Int} {p2 : Int} {h : AH} {Q : Int → AH → Prop} (hy : inb p1 40 ∧ (((land (lushr (h.2.1 37 p1) p2) 1) = 0 → Q 0 h) ∧ ((land (lushr (h.2.1 37 p1) p2) 1) ≠ 0 → Q 1 h))) : Call d M_Ways_reaches [vR 7 (-1), vI p1, vI p2] h Q := by
  refine ⟨d0, hd, Big.of rfl (Nat.le_of_ble_eq_true rfl) ?_⟩
  show AW d0 M_Ways_reaches Q 0 [some (vR 7 (-1)), some (vI p1), some (vI p2)] [] h
  refine a_aload_n dX8_reaches_0 rfl ?_
  refine a_getR dX8_reaches_1 fl_Ways_16 sk_7 rfl ?_
  refine a_iload_n dX8_reaches_4 rfl ?_
  obtain ⟨c1, hy⟩ := hy
  refine a_lald' dX8_reaches_5 sk_37 c1 (rfl) ?_
  refine a_iload_n dX8_reaches_6 rfl ?_
  refine a_lushr dX8_reaches_7 ?_
  refine a_lconst (x := 1) dX8_reaches_8 rfl ⟨by decide, by decide⟩ ?_
  refine a_land dX8_reaches_9 ?_
  refine a_lconst (x := 0) dX8_reaches_10 rfl ⟨by decide, by decide⟩ ?_
  refine a_lc_eq (tgt := 19) dX8_reaches_11 dX8_reaches_12 (by decide) (fun c => ?_) (fun c => ?_)
  · have hy := hy.1 c
    refine a_iconst (x := 0) dX8_reaches_19 rfl ⟨by decide, by decide⟩ ?_
    exact a_zret dX8_reaches_20 rfl (Or.inl rfl) hy
  · have hy := hy.2 (c)
    refine a_iconst (x := 1) dX8_reaches_15 rfl ⟨by decide, by decide⟩ ?_
    refine a_goto (tgt := 20) dX8_reaches_16 (by decide) ?_
    exact a_zret dX8_reaches_20 rfl (Or.inr rfl) hy
def A_Ways_reachesWithout_12 (d : Nat) (Q : Int → AH → Prop) (p2 : Int) (p3 : Int) (v4 : Int) (v6 : Int) (v8 : Int) (h : AH) : Prop := AW d M_Ways_reachesWithout Q 12 [some (vR 7 (-1)), none, some (vI p2), some (vI p3), some (vL v4), none, some (vL v6), none, some (vI v8), none, none, none] [] h
def A_Ways_reachesWithout_114 (d : Nat) (Q : Int → AH → Prop) (p2 : Int) (v4 : Int) (h : AH) : Prop := AW d M_Ways_reachesWithout Q 114 [none, none, some (vI p2), none, some (vL v4), none, none, none, none, none, none, none] [] h
def A_Ways_reachesWithout_37 (d : Nat) (Q : Int → AH → Prop) (p2 : Int) (p3 : Int) (v4 : Int) (v6 : Int) (v8 : Int) (v9 : Int) (v11 : Int) (h : AH) : Prop := AW d M_Ways_reachesWithout Q 37 [some (vR 7 (-1)), none, some (vI p2), some (vI p3), some (vL v4), none, some (vL v6), none, some (vI v8), some (vL v9), none, some (vI v11)] [] h
theorem s_Ways_reachesWithout_12 {d : Nat} {Q : Int → AH → Prop} {p2 : Int} {p3 : Int} {v4 : Int} {v6 : Int} {v8 : Int} {h : AH} (hy : (((h.1 2 6) ≤ v8 → A_Ways_reachesWithout_114 d Q p2 v4 h) ∧ (v8 < (h.1 2 6) → ((v6 = 0 → A_Ways_reachesWithout_114 d Q p2 v4 h) ∧ (v6 ≠ 0 → A_Ways_reachesWithout_37 d Q p2 p3 v4 v6 v8 0 0 h))))) : A_Ways_reachesWithout_12 d Q p2 p3 v4 v6 v8 h := by
  show AW d M_Ways_reachesWithout Q 12 [some (vR 7 (-1)), none, some (vI p2), some (vI p3), some (vL v4), none, some (vL v6), none, some (vI v8), none, none, none] [] h
  refine a_iload dX8_reachesWithout_12 rfl ?_
  refine a_aload_n dX8_reachesWithout_14 rfl ?_
  refine a_getR dX8_reachesWithout_15 fl_Ways_44 sk_7 rfl ?_
  refine a_getI' (kz := 6) dX8_reachesWithout_18 fl_Ways_57 sk_2 rfl rfl (rfl) ?_
  refine a_icmp_ge (tgt := 114) dX8_reachesWithout_21 (by decide) (fun c => ?_) (fun c => ?_)
  · have hy := hy.1 c
    refine a_mask [false, true, true, false, true, true, false, true, false, true, true, true] (ls2 := [none, none, some (vI p2), none, some (vL v4), none, none, none, none, none, none, none]) rfl rfl ?_
    exact hy
  · have hy := hy.2 (Int.not_le.mp c)
    refine a_lload dX8_reachesWithout_24 rfl ?_
    refine a_lconst (x := 0) dX8_reachesWithout_26 rfl ⟨by decide, by decide⟩ ?_
    refine a_lc_eq (tgt := 114) dX8_reachesWithout_27 dX8_reachesWithout_28 (by decide) (fun c => ?_) (fun c => ?_)
    · have hy := hy.1 c
      refine a_mask [false, true, true, false, true, true, false, true, false, true, true, true] (ls2 := [none, none, some (vI p2), none, some (vL v4), none, none, none, none, none, none, none]) rfl rfl ?_
      exact hy
    · have hy := hy.2 (c)
      refine a_lconst (x := 0) dX8_reachesWithout_31 rfl ⟨by decide, by decide⟩ ?_
      refine a_lstore (ls2 := [some (vR 7 (-1)), none, some (vI p2), some (vI p3), some (vL v4), none, some (vL v6), none, some (vI v8), some (vL 0), none, none]) dX8_reachesWithout_32 (Nat.le_of_ble_eq_true rfl) rfl ?_
      refine a_iconst (x := 0) dX8_reachesWithout_34 rfl ⟨by decide, by decide⟩ ?_
      refine a_istore (ls2 := [some (vR 7 (-1)), none, some (vI p2), some (vI p3), some (vL v4), none, some (vL v6), none, some (vI v8), some (vL 0), none, some (vI 0)]) dX8_reachesWithout_35 (Nat.le_of_ble_eq_true rfl) rfl ?_
      exact hy
theorem s_Ways_reachesWithout_114 {d : Nat} {Q : Int → AH → Prop} {p2 : Int} {v4 : Int} {h : AH} (hy : (((land (lushr v4 p2) 1) = 0 → Q 0 h) ∧ ((land (lushr v4 p2) 1) ≠ 0 → Q 1 h))) : A_Ways_reachesWithout_114 d Q p2 v4 h := by
  show AW d M_Ways_reachesWithout Q 114 [none, none, some (vI p2), none, some (vL v4), none, none, none, none, none, none, none] [] h
  refine a_lload dX8_reachesWithout_114 rfl ?_
  refine a_iload_n dX8_reachesWithout_116 rfl ?_
  refine a_lushr dX8_reachesWithout_117 ?_
  refine a_lconst (x := 1) dX8_reachesWithout_118 rfl ⟨by decide, by decide⟩ ?_
  refine a_land dX8_reachesWithout_119 ?_
  refine a_lconst (x := 0) dX8_reachesWithout_120 rfl ⟨by decide, by decide⟩ ?_
  refine a_lc_eq (tgt := 129) dX8_reachesWithout_121 dX8_reachesWithout_122 (by decide) (fun c => ?_) (fun c => ?_)
  · have hy := hy.1 c
    refine a_iconst (x := 0) dX8_reachesWithout_129 rfl ⟨by decide, by decide⟩ ?_
    exact a_zret dX8_reachesWithout_130 rfl (Or.inl rfl) hy
  · have hy := hy.2 (c)
    refine a_iconst (x := 1) dX8_reachesWithout_125 rfl ⟨by decide, by decide⟩ ?_
    refine a_goto (tgt := 130) dX8_reachesWithout_126 (by decide) ?_
    exact a_zret dX8_reachesWithout_130 rfl (Or.inr rfl) hy
theorem s_Ways_reachesWithout_37 {d : Nat} {Q : Int → AH → Prop} {p2 : Int} {p3 : Int} {v4 : Int} {v6 : Int} {v8 : Int} {v9 : Int} {v11 : Int} {h : AH} (hy : (((h.1 2 6) ≤ v11 → (inI (v8 + 1) ∧ A_Ways_reachesWithout_12 d Q p2 p3 (lor v4 (land (land v9 (lxor v4 (-1))) (lxor (lshl 1 p3) (-1)))) (land (land v9 (lxor v4 (-1))) (lxor (lshl 1 p3) (-1))) (v8 + 1) h)) ∧ (v11 < (h.1 2 6) → (((land (lushr v6 v11) 1) = 0 → (inI (v11 + 1) ∧ A_Ways_reachesWithout_37 d Q p2 p3 v4 v6 v8 v9 (v11 + 1) h)) ∧ ((land (lushr v6 v11) 1) ≠ 0 → (inb v11 40 ∧ (inI (v11 + 1) ∧ A_Ways_reachesWithout_37 d Q p2 p3 v4 v6 v8 (lor v9 (h.2.1 35 v11)) (v11 + 1) h))))))) : A_Ways_reachesWithout_37 d Q p2 p3 v4 v6 v8 v9 v11 h := by
  show AW d M_Ways_reachesWithout Q 37 [some (vR 7 (-1)), none, some (vI p2), some (vI p3), some (vL v4), none, some (vL v6), none, some (vI v8), some (vL v9), none, some (vI v11)] [] h
  refine a_iload dX8_reachesWithout_37 rfl ?_
  refine a_aload_n dX8_reachesWithout_39 rfl ?_
  refine a_getR dX8_reachesWithout_40 fl_Ways_44 sk_7 rfl ?_
  refine a_getI' (kz := 6) dX8_reachesWithout_43 fl_Ways_57 sk_2 rfl rfl (rfl) ?_
  refine a_icmp_ge (tgt := 82) dX8_reachesWithout_46 (by decide) (fun c => ?_) (fun c => ?_)
  · have hy := hy.1 c
    refine a_lload dX8_reachesWithout_82 rfl ?_
    refine a_lload dX8_reachesWithout_84 rfl ?_
    refine a_ldc2 (x := (-1)) dX8_reachesWithout_86 kc_Ways_121 ⟨by decide, by decide⟩ ?_
    refine a_lxor dX8_reachesWithout_89 ?_
    refine a_land dX8_reachesWithout_90 ?_
    refine a_lconst (x := 1) dX8_reachesWithout_91 rfl ⟨by decide, by decide⟩ ?_
    refine a_iload_n dX8_reachesWithout_92 rfl ?_
    refine a_lshl dX8_reachesWithout_93 ?_
    refine a_ldc2 (x := (-1)) dX8_reachesWithout_94 kc_Ways_121 ⟨by decide, by decide⟩ ?_
    refine a_lxor dX8_reachesWithout_97 ?_
    refine a_land dX8_reachesWithout_98 ?_
    refine a_lstore (ls2 := [some (vR 7 (-1)), none, some (vI p2), some (vI p3), some (vL v4), none, some (vL (land (land v9 (lxor v4 (-1))) (lxor (lshl 1 p3) (-1)))), none, some (vI v8), some (vL v9), none, some (vI v11)]) dX8_reachesWithout_99 (Nat.le_of_ble_eq_true rfl) rfl ?_
    refine a_lload dX8_reachesWithout_101 rfl ?_
    refine a_lload dX8_reachesWithout_103 rfl ?_
    refine a_lor dX8_reachesWithout_105 ?_
    refine a_lstore (ls2 := [some (vR 7 (-1)), none, some (vI p2), some (vI p3), some (vL (lor v4 (land (land v9 (lxor v4 (-1))) (lxor (lshl 1 p3) (-1))))), none, some (vL (land (land v9 (lxor v4 (-1))) (lxor (lshl 1 p3) (-1)))), none, some (vI v8), some (vL v9), none, some (vI v11)]) dX8_reachesWithout_106 (Nat.le_of_ble_eq_true rfl) rfl ?_
    obtain ⟨c1, hy⟩ := hy
    refine a_iinc (y := v8 + 1) (ls2 := [some (vR 7 (-1)), none, some (vI p2), some (vI p3), some (vL (lor v4 (land (land v9 (lxor v4 (-1))) (lxor (lshl 1 p3) (-1))))), none, some (vL (land (land v9 (lxor v4 (-1))) (lxor (lshl 1 p3) (-1)))), none, some (vI (v8 + 1)), some (vL v9), none, some (vI v11)]) dX8_reachesWithout_108 rfl rfl c1 rfl ?_
    refine a_goto (tgt := 12) dX8_reachesWithout_111 (by decide) ?_
    refine a_mask [true, true, true, true, true, true, true, true, true, false, true, false] (ls2 := [some (vR 7 (-1)), none, some (vI p2), some (vI p3), some (vL (lor v4 (land (land v9 (lxor v4 (-1))) (lxor (lshl 1 p3) (-1))))), none, some (vL (land (land v9 (lxor v4 (-1))) (lxor (lshl 1 p3) (-1)))), none, some (vI (v8 + 1)), none, none, none]) rfl rfl ?_
    exact hy
  · have hy := hy.2 (Int.not_le.mp c)
    refine a_lload dX8_reachesWithout_49 rfl ?_
    refine a_iload dX8_reachesWithout_51 rfl ?_
    refine a_lushr dX8_reachesWithout_53 ?_
    refine a_lconst (x := 1) dX8_reachesWithout_54 rfl ⟨by decide, by decide⟩ ?_
    refine a_land dX8_reachesWithout_55 ?_
    refine a_lconst (x := 0) dX8_reachesWithout_56 rfl ⟨by decide, by decide⟩ ?_
    refine a_lc_eq (tgt := 76) dX8_reachesWithout_57 dX8_reachesWithout_58 (by decide) (fun c => ?_) (fun c => ?_)
    · have hy := hy.1 c
      obtain ⟨c2, hy⟩ := hy
      refine a_iinc (y := v11 + 1) (ls2 := [some (vR 7 (-1)), none, some (vI p2), some (vI p3), some (vL v4), none, some (vL v6), none, some (vI v8), some (vL v9), none, some (vI (v11 + 1))]) dX8_reachesWithout_76 rfl rfl c2 rfl ?_
      refine a_goto (tgt := 37) dX8_reachesWithout_79 (by decide) ?_
      exact hy
    · have hy := hy.2 (c)
      refine a_lload dX8_reachesWithout_61 rfl ?_
      refine a_aload_n dX8_reachesWithout_63 rfl ?_
      refine a_getR dX8_reachesWithout_64 fl_Ways_48 sk_7 rfl ?_
      refine a_getR dX8_reachesWithout_67 fl_Ways_66 sk_6 rfl ?_
      refine a_iload dX8_reachesWithout_70 rfl ?_
      obtain ⟨c3, hy⟩ := hy
      refine a_lald' dX8_reachesWithout_72 sk_35 c3 (rfl) ?_
      refine a_lor dX8_reachesWithout_73 ?_
      refine a_lstore (ls2 := [some (vR 7 (-1)), none, some (vI p2), some (vI p3), some (vL v4), none, some (vL v6), none, some (vI v8), some (vL (lor v9 (h.2.1 35 v11))), none, some (vI v11)]) dX8_reachesWithout_74 (Nat.le_of_ble_eq_true rfl) rfl ?_
      obtain ⟨c4, hy⟩ := hy
      refine a_iinc (y := v11 + 1) (ls2 := [some (vR 7 (-1)), none, some (vI p2), some (vI p3), some (vL v4), none, some (vL v6), none, some (vI v8), some (vL (lor v9 (h.2.1 35 v11))), none, some (vI (v11 + 1))]) dX8_reachesWithout_76 rfl rfl c4 rfl ?_
      refine a_goto (tgt := 37) dX8_reachesWithout_79 (by decide) ?_
      exact hy
theorem c_Ways_reachesWithout {d : Nat} (d0 : Nat) (hd : d0 < d) {p1 : Int} {p2 : Int} {p3 : Int} {h : AH} {Q : Int → AH → Prop} (hy : A_Ways_reachesWithout_12 d0 Q p2 p3 (lshl 1 p1) (lshl 1 p1) 0 h) : Call d M_Ways_reachesWithout [vR 7 (-1), vI p1, vI p2, vI p3] h Q := by
  refine ⟨d0, hd, Big.of rfl (Nat.le_of_ble_eq_true rfl) ?_⟩
  show AW d0 M_Ways_reachesWithout Q 0 [some (vR 7 (-1)), some (vI p1), some (vI p2), some (vI p3), none, none, none, none, none, none, none, none] [] h
  refine a_lconst (x := 1) dX8_reachesWithout_0 rfl ⟨by decide, by decide⟩ ?_
  refine a_iload_n dX8_reachesWithout_1 rfl ?_
  refine a_lshl dX8_reachesWithout_2 ?_
  refine a_lstore (ls2 := [some (vR 7 (-1)), some (vI p1), some (vI p2), some (vI p3), some (vL (lshl 1 p1)), none, none, none, none, none, none, none]) dX8_reachesWithout_3 (Nat.le_of_ble_eq_true rfl) rfl ?_
  refine a_lload dX8_reachesWithout_5 rfl ?_
  refine a_lstore (ls2 := [some (vR 7 (-1)), some (vI p1), some (vI p2), some (vI p3), some (vL (lshl 1 p1)), none, some (vL (lshl 1 p1)), none, none, none, none, none]) dX8_reachesWithout_7 (Nat.le_of_ble_eq_true rfl) rfl ?_
  refine a_iconst (x := 0) dX8_reachesWithout_9 rfl ⟨by decide, by decide⟩ ?_
  refine a_istore (ls2 := [some (vR 7 (-1)), some (vI p1), some (vI p2), some (vI p3), some (vL (lshl 1 p1)), none, some (vL (lshl 1 p1)), none, some (vI 0), none, none, none]) dX8_reachesWithout_10 (Nat.le_of_ble_eq_true rfl) rfl ?_
  refine a_mask [true, false, true, true, true, true, true, true, true, true, true, true] (ls2 := [some (vR 7 (-1)), none, some (vI p2), some (vI p3), some (vL (lshl 1 p1)), none, some (vL (lshl 1 p1)), none, some (vI 0), none, none, none]) rfl rfl ?_
  exact hy
def A_Ways_refresh_40 (d : Nat) (Q : Int → AH → Prop) (v1 : Int) (v2 : Int) (h : AH) : Prop := AW d M_Ways_refresh Q 40 [some (vR 7 (-1)), some (vI v1), some (vI v2), none, none, none, none, none] [] h
def A_Ways_refresh_55 (d : Nat) (Q : Int → AH → Prop) (v1 : Int) (v2 : Int) (r3 : Int) (v4 : Int) (h : AH) : Prop := AW d M_Ways_refresh Q 55 [some (vR 7 (-1)), some (vI v1), some (vI v2), some (vR 36 r3), some (vI v4), none, none, none] [] h
def A_Ways_refresh_79 (d : Nat) (Q : Int → AH → Prop) (v1 : Int) (v2 : Int) (r3 : Int) (v4 : Int) (r5 : Int) (v6 : Int) (v7 : Int) (h : AH) : Prop := AW d M_Ways_refresh Q 79 [some (vR 7 (-1)), some (vI v1), some (vI v2), some (vR 36 r3), some (vI v4), some (vR 36 r5), some (vI v6), some (vI v7)] [] h
theorem s_Ways_refresh_40 {d : Nat} {Q : Int → AH → Prop} {v1 : Int} {v2 : Int} {h : AH} (hy : ((v1 ≤ v2 → (Call d M_Ways_findFarTwo [vR 7 (-1)] h (fun _ h1 => Q 0 h1))) ∧ (v2 < v1 → (inb v2 40 ∧ A_Ways_refresh_55 d Q v1 v2 v2 0 h)))) : A_Ways_refresh_40 d Q v1 v2 h := by
  show AW d M_Ways_refresh Q 40 [some (vR 7 (-1)), some (vI v1), some (vI v2), none, none, none, none, none] [] h
  refine a_iload_n dX8_refresh_40 rfl ?_
  refine a_iload_n dX8_refresh_41 rfl ?_
  refine a_icmp_ge (tgt := 137) dX8_refresh_42 (by decide) (fun c => ?_) (fun c => ?_)
  · have hy := hy.1 c
    refine a_aload_n dX8_refresh_137 rfl ?_
    refine a_callVv (as := []) (st := []) dX8_refresh_138 lk_Ways_83 sk_7 rfl rfl (Nat.le_of_ble_eq_true rfl) rfl (Call.mono hy (fun _ h1 _ hy => ?_))
    exact a_vret dX8_refresh_141 rfl hy
  · have hy := hy.2 (Int.not_le.mp c)
    refine a_aload_n dX8_refresh_45 rfl ?_
    refine a_getR dX8_refresh_46 fl_Ways_11 sk_7 rfl ?_
    refine a_iload_n dX8_refresh_49 rfl ?_
    obtain ⟨c2, hy⟩ := hy
    refine a_aald dX8_refresh_50 sk_36 c2 ?_
    refine a_astore_n (i := 3) (ls2 := [some (vR 7 (-1)), some (vI v1), some (vI v2), some (vR 36 v2), none, none, none, none]) dX8_refresh_51 rfl (Nat.le_of_ble_eq_true rfl) rfl ?_
    refine a_iconst (x := 0) dX8_refresh_52 rfl ⟨by decide, by decide⟩ ?_
    refine a_istore (ls2 := [some (vR 7 (-1)), some (vI v1), some (vI v2), some (vR 36 v2), some (vI 0), none, none, none]) dX8_refresh_53 (Nat.le_of_ble_eq_true rfl) rfl ?_
    exact hy
theorem s_Ways_refresh_55 {d : Nat} {Q : Int → AH → Prop} {v1 : Int} {v2 : Int} {r3 : Int} {v4 : Int} {h : AH} (hy : ((v1 ≤ v4 → (inI (v2 + 1) ∧ A_Ways_refresh_40 d Q v1 (v2 + 1) h)) ∧ (v4 < v1 → (inb v4 40 ∧ (inb v2 40 ∧ A_Ways_refresh_79 d Q v1 v2 r3 v4 v4 (h.2.2 36 v4 v2) 0 h))))) : A_Ways_refresh_55 d Q v1 v2 r3 v4 h := by
  show AW d M_Ways_refresh Q 55 [some (vR 7 (-1)), some (vI v1), some (vI v2), some (vR 36 r3), some (vI v4), none, none, none] [] h
  refine a_iload dX8_refresh_55 rfl ?_
  refine a_iload_n dX8_refresh_57 rfl ?_
  refine a_icmp_ge (tgt := 131) dX8_refresh_58 (by decide) (fun c => ?_) (fun c => ?_)
  · have hy := hy.1 c
    obtain ⟨c1, hy⟩ := hy
    refine a_iinc (y := v2 + 1) (ls2 := [some (vR 7 (-1)), some (vI v1), some (vI (v2 + 1)), some (vR 36 r3), some (vI v4), none, none, none]) dX8_refresh_131 rfl rfl c1 rfl ?_
    refine a_goto (tgt := 40) dX8_refresh_134 (by decide) ?_
    refine a_mask [true, true, true, false, false, true, true, true] (ls2 := [some (vR 7 (-1)), some (vI v1), some (vI (v2 + 1)), none, none, none, none, none]) rfl rfl ?_
    exact hy
  · have hy := hy.2 (Int.not_le.mp c)
    refine a_aload_n dX8_refresh_61 rfl ?_
    refine a_getR dX8_refresh_62 fl_Ways_11 sk_7 rfl ?_
    refine a_iload dX8_refresh_65 rfl ?_
    obtain ⟨c2, hy⟩ := hy
    refine a_aald dX8_refresh_67 sk_36 c2 ?_
    refine a_astore (ls2 := [some (vR 7 (-1)), some (vI v1), some (vI v2), some (vR 36 r3), some (vI v4), some (vR 36 v4), none, none]) dX8_refresh_68 (Nat.le_of_ble_eq_true rfl) rfl ?_
    refine a_aload dX8_refresh_70 rfl ?_
    refine a_iload_n dX8_refresh_72 rfl ?_
    obtain ⟨c3, hy⟩ := hy
    refine a_ialdR' dX8_refresh_73 sk_36 (inb_ne c2) c3 (rfl) ?_
    refine a_istore (ls2 := [some (vR 7 (-1)), some (vI v1), some (vI v2), some (vR 36 r3), some (vI v4), some (vR 36 v4), some (vI (h.2.2 36 v4 v2)), none]) dX8_refresh_74 (Nat.le_of_ble_eq_true rfl) rfl ?_
    refine a_iconst (x := 0) dX8_refresh_76 rfl ⟨by decide, by decide⟩ ?_
    refine a_istore (ls2 := [some (vR 7 (-1)), some (vI v1), some (vI v2), some (vR 36 r3), some (vI v4), some (vR 36 v4), some (vI (h.2.2 36 v4 v2)), some (vI 0)]) dX8_refresh_77 (Nat.le_of_ble_eq_true rfl) rfl ?_
    exact hy
theorem s_Ways_refresh_79 {d : Nat} {Q : Int → AH → Prop} {v1 : Int} {v2 : Int} {r3 : Int} {v4 : Int} {r5 : Int} {v6 : Int} {v7 : Int} {h : AH} (hy : ((536870912 ≤ v6 → (inI (v4 + 1) ∧ A_Ways_refresh_55 d Q v1 v2 r3 (v4 + 1) h)) ∧ (v6 < 536870912 → ((v1 ≤ v7 → (inI (v4 + 1) ∧ A_Ways_refresh_55 d Q v1 v2 r3 (v4 + 1) h)) ∧ (v7 < v1 → (inb v7 40 ∧ inb r3 40 ∧ (inI (v6 + (h.2.2 36 r3 v7)) ∧ (inb r5 40 ∧ (((h.2.2 36 r5 v7) ≤ (v6 + (h.2.2 36 r3 v7)) → (inI (v7 + 1) ∧ A_Ways_refresh_79 d Q v1 v2 r3 v4 r5 v6 (v7 + 1) h)) ∧ ((v6 + (h.2.2 36 r3 v7)) < (h.2.2 36 r5 v7) → (inI (v7 + 1) ∧ A_Ways_refresh_79 d Q v1 v2 r3 v4 r5 v6 (v7 + 1) (wR h 36 r5 v7 (v6 + (h.2.2 36 r3 v7)))))))))))))) : A_Ways_refresh_79 d Q v1 v2 r3 v4 r5 v6 v7 h := by
  show AW d M_Ways_refresh Q 79 [some (vR 7 (-1)), some (vI v1), some (vI v2), some (vR 36 r3), some (vI v4), some (vR 36 r5), some (vI v6), some (vI v7)] [] h
  refine a_iload dX8_refresh_79 rfl ?_
  refine a_ldc (x := 536870912) dX8_refresh_81 kc_Ways_82 ⟨by decide, by decide⟩ ?_
  refine a_icmp_ge (tgt := 125) dX8_refresh_83 (by decide) (fun c => ?_) (fun c => ?_)
  · have hy := hy.1 c
    obtain ⟨c1, hy⟩ := hy
    refine a_iinc (y := v4 + 1) (ls2 := [some (vR 7 (-1)), some (vI v1), some (vI v2), some (vR 36 r3), some (vI (v4 + 1)), some (vR 36 r5), some (vI v6), some (vI v7)]) dX8_refresh_125 rfl rfl c1 rfl ?_
    refine a_goto (tgt := 55) dX8_refresh_128 (by decide) ?_
    refine a_mask [true, true, true, true, true, false, false, false] (ls2 := [some (vR 7 (-1)), some (vI v1), some (vI v2), some (vR 36 r3), some (vI (v4 + 1)), none, none, none]) rfl rfl ?_
    exact hy
  · have hy := hy.2 (Int.not_le.mp c)
    refine a_iload dX8_refresh_86 rfl ?_
    refine a_iload_n dX8_refresh_88 rfl ?_
    refine a_icmp_ge (tgt := 125) dX8_refresh_89 (by decide) (fun c => ?_) (fun c => ?_)
    · have hy := hy.1 c
      obtain ⟨c2, hy⟩ := hy
      refine a_iinc (y := v4 + 1) (ls2 := [some (vR 7 (-1)), some (vI v1), some (vI v2), some (vR 36 r3), some (vI (v4 + 1)), some (vR 36 r5), some (vI v6), some (vI v7)]) dX8_refresh_125 rfl rfl c2 rfl ?_
      refine a_goto (tgt := 55) dX8_refresh_128 (by decide) ?_
      refine a_mask [true, true, true, true, true, false, false, false] (ls2 := [some (vR 7 (-1)), some (vI v1), some (vI v2), some (vR 36 r3), some (vI (v4 + 1)), none, none, none]) rfl rfl ?_
      exact hy
    · have hy := hy.2 (Int.not_le.mp c)
      refine a_iload dX8_refresh_92 rfl ?_
      refine a_aload_n dX8_refresh_94 rfl ?_
      refine a_iload dX8_refresh_95 rfl ?_
      obtain ⟨c3, hy⟩ := hy
      obtain ⟨c4, hy⟩ := hy
      refine a_ialdR' dX8_refresh_97 sk_36 (inb_ne c4) c3 (rfl) ?_
      obtain ⟨c5, hy⟩ := hy
      refine a_iadd dX8_refresh_98 c5 ?_
      refine a_aload dX8_refresh_99 rfl ?_
      refine a_iload dX8_refresh_101 rfl ?_
      obtain ⟨c6, hy⟩ := hy
      refine a_ialdR' dX8_refresh_103 sk_36 (inb_ne c6) c3 (rfl) ?_
      refine a_icmp_ge (tgt := 119) dX8_refresh_104 (by decide) (fun c => ?_) (fun c => ?_)
      · have hy := hy.1 c
        obtain ⟨c7, hy⟩ := hy
        refine a_iinc (y := v7 + 1) (ls2 := [some (vR 7 (-1)), some (vI v1), some (vI v2), some (vR 36 r3), some (vI v4), some (vR 36 r5), some (vI v6), some (vI (v7 + 1))]) dX8_refresh_119 rfl rfl c7 rfl ?_
        refine a_goto (tgt := 79) dX8_refresh_122 (by decide) ?_
        exact hy
      · have hy := hy.2 (Int.not_le.mp c)
        refine a_aload dX8_refresh_107 rfl ?_
        refine a_iload dX8_refresh_109 rfl ?_
        refine a_iload dX8_refresh_111 rfl ?_
        refine a_aload_n dX8_refresh_113 rfl ?_
        refine a_iload dX8_refresh_114 rfl ?_
        refine a_ialdR' dX8_refresh_116 sk_36 (inb_ne c4) c3 (rfl) ?_
        refine a_iadd dX8_refresh_117 c5 ?_
        refine a_iastR dX8_refresh_118 sk_36 (inb_ne c6) c3 ?_
        obtain ⟨c8, hy⟩ := hy
        refine a_iinc (y := v7 + 1) (ls2 := [some (vR 7 (-1)), some (vI v1), some (vI v2), some (vR 36 r3), some (vI v4), some (vR 36 r5), some (vI v6), some (vI (v7 + 1))]) dX8_refresh_119 rfl rfl c8 rfl ?_
        refine a_goto (tgt := 79) dX8_refresh_122 (by decide) ?_
        exact hy
theorem c_Ways_refresh {d : Nat} (d0 : Nat) (hd : d0 < d)  {h : AH} {Q : Int → AH → Prop} (hy : (((h.1 7 15) ≠ (h.1 6 10) → (Call d0 M_Ways_startWeights [vR 7 (-1)] (wI h 7 15 (h.1 6 10)) (fun _ h1 => A_Ways_refresh_40 d0 Q (h1.1 2 6) 0 h1))) ∧ ((h.1 7 15) = (h.1 6 10) → Q 0 h))) : Call d M_Ways_refresh [vR 7 (-1)] h Q := by
  refine ⟨d0, hd, Big.of rfl (Nat.le_of_ble_eq_true rfl) ?_⟩
  show AW d0 M_Ways_refresh Q 0 [some (vR 7 (-1)), none, none, none, none, none, none, none] [] h
  refine a_aload_n dX8_refresh_0 rfl ?_
  refine a_getI' (kz := 15) dX8_refresh_1 fl_Ways_38 sk_7 rfl rfl (rfl) ?_
  refine a_aload_n dX8_refresh_4 rfl ?_
  refine a_getR dX8_refresh_5 fl_Ways_48 sk_7 rfl ?_
  refine a_getI' (kz := 10) dX8_refresh_8 fl_Ways_52 sk_6 rfl rfl (rfl) ?_
  refine a_icmp_ne (tgt := 15) dX8_refresh_11 (by decide) (fun c => ?_) (fun c => ?_)
  · have hy := hy.1 c
    refine a_aload_n dX8_refresh_15 rfl ?_
    refine a_aload_n dX8_refresh_16 rfl ?_
    refine a_getR dX8_refresh_17 fl_Ways_48 sk_7 rfl ?_
    refine a_getI' (kz := 10) dX8_refresh_20 fl_Ways_52 sk_6 rfl rfl (rfl) ?_
    refine a_putI (kz := 15) dX8_refresh_23 fp_Ways_38 sk_7 rfl rfl ?_
    refine a_aload_n dX8_refresh_26 rfl ?_
    refine a_callVv (as := []) (st := []) dX8_refresh_27 lk_Ways_79 sk_7 rfl rfl (Nat.le_of_ble_eq_true rfl) rfl (Call.mono hy (fun _ h1 _ hy => ?_))
    refine a_aload_n dX8_refresh_30 rfl ?_
    refine a_getR dX8_refresh_31 fl_Ways_44 sk_7 rfl ?_
    refine a_getI' (kz := 6) dX8_refresh_34 fl_Ways_57 sk_2 rfl rfl (rfl) ?_
    refine a_istore_n (i := 1) (ls2 := [some (vR 7 (-1)), some (vI (h1.1 2 6)), none, none, none, none, none, none]) dX8_refresh_37 rfl (Nat.le_of_ble_eq_true rfl) rfl ?_
    refine a_iconst (x := 0) dX8_refresh_38 rfl ⟨by decide, by decide⟩ ?_
    refine a_istore_n (i := 2) (ls2 := [some (vR 7 (-1)), some (vI (h1.1 2 6)), some (vI 0), none, none, none, none, none]) dX8_refresh_39 rfl (Nat.le_of_ble_eq_true rfl) rfl ?_
    exact hy
  · have hy := hy.2 (Decidable.not_not.mp c)
    exact a_vret dX8_refresh_14 rfl hy
def A_Ways_refreshBusiest_38 (d : Nat) (Q : Int → AH → Prop) (v1 : Int) (h : AH) : Prop := AW d M_Ways_refreshBusiest Q 38 [some (vR 7 (-1)), some (vI v1), none] [] h
def A_Ways_refreshBusiest_69 (d : Nat) (Q : Int → AH → Prop) (v1 : Int) (s0 : Int) (h : AH) : Prop := AW d M_Ways_refreshBusiest Q 69 [some (vR 7 (-1)), some (vI v1), none] [vI s0] h
def A_Ways_refreshBusiest_90 (d : Nat) (Q : Int → AH → Prop) (v1 : Int) (v2 : Int) (h : AH) : Prop := AW d M_Ways_refreshBusiest Q 90 [some (vR 7 (-1)), some (vI v1), some (vI v2)] [] h
theorem s_Ways_refreshBusiest_38 {d : Nat} {Q : Int → AH → Prop} {v1 : Int} {h : AH} (hy : (((h.1 2 6) ≤ v1 → Q 0 h) ∧ (v1 < (h.1 2 6) → (Call d M_Words_isUsed [vR 2 (-1), vI v1] h (fun r2 h1 => ((r2 = 0 → A_Ways_refreshBusiest_69 d Q v1 (-1) h1) ∧ (r2 ≠ 0 → (Call d M_Ways_twosBy [vR 7 (-1), vI v1] h1 (fun r4 h3 => A_Ways_refreshBusiest_69 d Q v1 r4 h3))))))))) : A_Ways_refreshBusiest_38 d Q v1 h := by
  show AW d M_Ways_refreshBusiest Q 38 [some (vR 7 (-1)), some (vI v1), none] [] h
  refine a_iload_n dX8_refreshBusiest_38 rfl ?_
  refine a_aload_n dX8_refreshBusiest_39 rfl ?_
  refine a_getR dX8_refreshBusiest_40 fl_Ways_44 sk_7 rfl ?_
  refine a_getI' (kz := 6) dX8_refreshBusiest_43 fl_Ways_57 sk_2 rfl rfl (rfl) ?_
  refine a_icmp_ge (tgt := 106) dX8_refreshBusiest_46 (by decide) (fun c => ?_) (fun c => ?_)
  · have hy := hy.1 c
    exact a_vret dX8_refreshBusiest_106 rfl hy
  · have hy := hy.2 (Int.not_le.mp c)
    refine a_aload_n dX8_refreshBusiest_49 rfl ?_
    refine a_getR dX8_refreshBusiest_50 fl_Ways_44 sk_7 rfl ?_
    refine a_iload_n dX8_refreshBusiest_53 rfl ?_
    refine a_callVi (as := [vI v1]) (st := []) dX8_refreshBusiest_54 lk_Ways_62 sk_2 rfl rfl (Nat.le_of_ble_eq_true rfl) (Or.inr rfl) (Call.mono hy (fun r2 h1 _ hy => ?_))
    refine a_if_eq (tgt := 68) dX8_refreshBusiest_57 (by decide) (fun c => ?_) (fun c => ?_)
    · have hy := hy.1 c
      refine a_iconst (x := (-1)) dX8_refreshBusiest_68 rfl ⟨by decide, by decide⟩ ?_
      exact hy
    · have hy := hy.2 (c)
      refine a_aload_n dX8_refreshBusiest_60 rfl ?_
      refine a_iload_n dX8_refreshBusiest_61 rfl ?_
      refine a_callVi (as := [vI v1]) (st := []) dX8_refreshBusiest_62 lk_Ways_129 sk_7 rfl rfl (Nat.le_of_ble_eq_true rfl) (Or.inl rfl) (Call.mono hy (fun r4 h3 _ hy => ?_))
      refine a_goto (tgt := 69) dX8_refreshBusiest_65 (by decide) ?_
      exact hy
theorem s_Ways_refreshBusiest_69 {d : Nat} {Q : Int → AH → Prop} {v1 : Int} {s0 : Int} {h : AH} (hy : (((h.1 7 13) < s0 → A_Ways_refreshBusiest_90 d Q v1 s0 h) ∧ (s0 ≤ (h.1 7 13) → (((h.1 7 12) ≠ (-1) → (inI (v1 + 1) ∧ A_Ways_refreshBusiest_38 d Q (v1 + 1) h)) ∧ ((h.1 7 12) = (-1) → ((s0 ≠ 0 → (inI (v1 + 1) ∧ A_Ways_refreshBusiest_38 d Q (v1 + 1) h)) ∧ (s0 = 0 → A_Ways_refreshBusiest_90 d Q v1 s0 h))))))) : A_Ways_refreshBusiest_69 d Q v1 s0 h := by
  show AW d M_Ways_refreshBusiest Q 69 [some (vR 7 (-1)), some (vI v1), none] [vI s0] h
  refine a_istore_n (i := 2) (ls2 := [some (vR 7 (-1)), some (vI v1), some (vI s0)]) dX8_refreshBusiest_69 rfl (Nat.le_of_ble_eq_true rfl) rfl ?_
  refine a_iload_n dX8_refreshBusiest_70 rfl ?_
  refine a_aload_n dX8_refreshBusiest_71 rfl ?_
  refine a_getI' (kz := 13) dX8_refreshBusiest_72 fl_Ways_126 sk_7 rfl rfl (rfl) ?_
  refine a_icmp_gt (tgt := 90) dX8_refreshBusiest_75 (by decide) (fun c => ?_) (fun c => ?_)
  · have hy := hy.1 c
    exact hy
  · have hy := hy.2 (Int.not_lt.mp c)
    refine a_aload_n dX8_refreshBusiest_78 rfl ?_
    refine a_getI' (kz := 12) dX8_refreshBusiest_79 fl_Ways_123 sk_7 rfl rfl (rfl) ?_
    refine a_iconst (x := (-1)) dX8_refreshBusiest_82 rfl ⟨by decide, by decide⟩ ?_
    refine a_icmp_ne (tgt := 100) dX8_refreshBusiest_83 (by decide) (fun c => ?_) (fun c => ?_)
    · have hy := hy.1 c
      obtain ⟨c1, hy⟩ := hy
      refine a_iinc (y := v1 + 1) (ls2 := [some (vR 7 (-1)), some (vI (v1 + 1)), some (vI s0)]) dX8_refreshBusiest_100 rfl rfl c1 rfl ?_
      refine a_goto (tgt := 38) dX8_refreshBusiest_103 (by decide) ?_
      refine a_mask [true, true, false] (ls2 := [some (vR 7 (-1)), some (vI (v1 + 1)), none]) rfl rfl ?_
      exact hy
    · have hy := hy.2 (Decidable.not_not.mp c)
      refine a_iload_n dX8_refreshBusiest_86 rfl ?_
      refine a_if_ne (tgt := 100) dX8_refreshBusiest_87 (by decide) (fun c => ?_) (fun c => ?_)
      · have hy := hy.1 c
        obtain ⟨c2, hy⟩ := hy
        refine a_iinc (y := v1 + 1) (ls2 := [some (vR 7 (-1)), some (vI (v1 + 1)), some (vI s0)]) dX8_refreshBusiest_100 rfl rfl c2 rfl ?_
        refine a_goto (tgt := 38) dX8_refreshBusiest_103 (by decide) ?_
        refine a_mask [true, true, false] (ls2 := [some (vR 7 (-1)), some (vI (v1 + 1)), none]) rfl rfl ?_
        exact hy
      · have hy := hy.2 (Decidable.not_not.mp c)
        exact hy
theorem s_Ways_refreshBusiest_90 {d : Nat} {Q : Int → AH → Prop} {v1 : Int} {v2 : Int} {h : AH} (hy : inI (v1 + 1) ∧ A_Ways_refreshBusiest_38 d Q (v1 + 1) (wI (wI h 7 12 v1) 7 13 v2)) : A_Ways_refreshBusiest_90 d Q v1 v2 h := by
  show AW d M_Ways_refreshBusiest Q 90 [some (vR 7 (-1)), some (vI v1), some (vI v2)] [] h
  refine a_aload_n dX8_refreshBusiest_90 rfl ?_
  refine a_iload_n dX8_refreshBusiest_91 rfl ?_
  refine a_putI (kz := 12) dX8_refreshBusiest_92 fp_Ways_123 sk_7 rfl rfl ?_
  refine a_aload_n dX8_refreshBusiest_95 rfl ?_
  refine a_iload_n dX8_refreshBusiest_96 rfl ?_
  refine a_putI (kz := 13) dX8_refreshBusiest_97 fp_Ways_126 sk_7 rfl rfl ?_
  obtain ⟨c1, hy⟩ := hy
  refine a_iinc (y := v1 + 1) (ls2 := [some (vR 7 (-1)), some (vI (v1 + 1)), some (vI v2)]) dX8_refreshBusiest_100 rfl rfl c1 rfl ?_
  refine a_goto (tgt := 38) dX8_refreshBusiest_103 (by decide) ?_
  refine a_mask [true, true, false] (ls2 := [some (vR 7 (-1)), some (vI (v1 + 1)), none]) rfl rfl ?_
  exact hy
theorem c_Ways_refreshBusiest {d : Nat} (d0 : Nat) (hd : d0 < d)  {h : AH} {Q : Int → AH → Prop} (hy : (((h.1 7 16) ≠ (h.1 6 10) → A_Ways_refreshBusiest_38 d0 Q 0 (wI (wI (wI h 7 16 (h.1 6 10)) 7 12 (-1)) 7 13 0)) ∧ ((h.1 7 16) = (h.1 6 10) → Q 0 h))) : Call d M_Ways_refreshBusiest [vR 7 (-1)] h Q := by
  refine ⟨d0, hd, Big.of rfl (Nat.le_of_ble_eq_true rfl) ?_⟩
  show AW d0 M_Ways_refreshBusiest Q 0 [some (vR 7 (-1)), none, none] [] h
  refine a_aload_n dX8_refreshBusiest_0 rfl ?_
  refine a_getI' (kz := 16) dX8_refreshBusiest_1 fl_Ways_41 sk_7 rfl rfl (rfl) ?_
  refine a_aload_n dX8_refreshBusiest_4 rfl ?_
  refine a_getR dX8_refreshBusiest_5 fl_Ways_48 sk_7 rfl ?_
  refine a_getI' (kz := 10) dX8_refreshBusiest_8 fl_Ways_52 sk_6 rfl rfl (rfl) ?_
  refine a_icmp_ne (tgt := 15) dX8_refreshBusiest_11 (by decide) (fun c => ?_) (fun c => ?_)
  · have hy := hy.1 c
    refine a_aload_n dX8_refreshBusiest_15 rfl ?_
    refine a_aload_n dX8_refreshBusiest_16 rfl ?_
    refine a_getR dX8_refreshBusiest_17 fl_Ways_48 sk_7 rfl ?_
    refine a_getI' (kz := 10) dX8_refreshBusiest_20 fl_Ways_52 sk_6 rfl rfl (rfl) ?_
    refine a_putI (kz := 16) dX8_refreshBusiest_23 fp_Ways_41 sk_7 rfl rfl ?_
    refine a_aload_n dX8_refreshBusiest_26 rfl ?_
    refine a_iconst (x := (-1)) dX8_refreshBusiest_27 rfl ⟨by decide, by decide⟩ ?_
    refine a_putI (kz := 12) dX8_refreshBusiest_28 fp_Ways_123 sk_7 rfl rfl ?_
    refine a_aload_n dX8_refreshBusiest_31 rfl ?_
    refine a_iconst (x := 0) dX8_refreshBusiest_32 rfl ⟨by decide, by decide⟩ ?_
    refine a_putI (kz := 13) dX8_refreshBusiest_33 fp_Ways_126 sk_7 rfl rfl ?_
    refine a_iconst (x := 0) dX8_refreshBusiest_36 rfl ⟨by decide, by decide⟩ ?_
    refine a_istore_n (i := 1) (ls2 := [some (vR 7 (-1)), some (vI 0), none]) dX8_refreshBusiest_37 rfl (Nat.le_of_ble_eq_true rfl) rfl ?_
    exact hy
  · have hy := hy.2 (Decidable.not_not.mp c)
    exact a_vret dX8_refreshBusiest_14 rfl hy
def A_Ways_refreshReach_36 (d : Nat) (Q : Int → AH → Prop) (v1 : Int) (v2 : Int) (h : AH) : Prop := AW d M_Ways_refreshReach Q 36 [some (vR 7 (-1)), some (vI v1), some (vI v2), none] [] h
def A_Ways_refreshReach_83 (d : Nat) (Q : Int → AH → Prop) (v1 : Int) (v2 : Int) (h : AH) : Prop := AW d M_Ways_refreshReach Q 83 [some (vR 7 (-1)), some (vI v1), some (vI v2), none] [] h
def A_Ways_refreshReach_90 (d : Nat) (Q : Int → AH → Prop) (v1 : Int) (v2 : Int) (v3 : Int) (h : AH) : Prop := AW d M_Ways_refreshReach Q 90 [some (vR 7 (-1)), some (vI v1), some (vI v2), some (vI v3)] [] h
theorem s_Ways_refreshReach_36 {d : Nat} {Q : Int → AH → Prop} {v1 : Int} {v2 : Int} {h : AH} (hy : ((v1 ≤ v2 → A_Ways_refreshReach_83 d Q v1 0 h) ∧ (v2 < v1 → (Call d M_Words_isUsed [vR 2 (-1), vI v2] h (fun r2 h1 => ((r2 = 0 → (inb v2 40 ∧ (inI (v2 + 1) ∧ A_Ways_refreshReach_36 d Q v1 (v2 + 1) (wL h1 37 v2 0)))) ∧ (r2 ≠ 0 → (inb v2 40 ∧ (inI (v2 + 1) ∧ A_Ways_refreshReach_36 d Q v1 (v2 + 1) (wL h1 37 v2 (lor (h1.2.1 35 v2) (lshl 1 v2)))))))))))) : A_Ways_refreshReach_36 d Q v1 v2 h := by
  show AW d M_Ways_refreshReach Q 36 [some (vR 7 (-1)), some (vI v1), some (vI v2), none] [] h
  refine a_iload_n dX8_refreshReach_36 rfl ?_
  refine a_iload_n dX8_refreshReach_37 rfl ?_
  refine a_icmp_ge (tgt := 81) dX8_refreshReach_38 (by decide) (fun c => ?_) (fun c => ?_)
  · have hy := hy.1 c
    refine a_iconst (x := 0) dX8_refreshReach_81 rfl ⟨by decide, by decide⟩ ?_
    refine a_istore_n (i := 2) (ls2 := [some (vR 7 (-1)), some (vI v1), some (vI 0), none]) dX8_refreshReach_82 rfl (Nat.le_of_ble_eq_true rfl) rfl ?_
    exact hy
  · have hy := hy.2 (Int.not_le.mp c)
    refine a_aload_n dX8_refreshReach_41 rfl ?_
    refine a_getR dX8_refreshReach_42 fl_Ways_16 sk_7 rfl ?_
    refine a_iload_n dX8_refreshReach_45 rfl ?_
    refine a_aload_n dX8_refreshReach_46 rfl ?_
    refine a_getR dX8_refreshReach_47 fl_Ways_44 sk_7 rfl ?_
    refine a_iload_n dX8_refreshReach_50 rfl ?_
    refine a_callVi (as := [vI v2]) (st := [vI v2, vR 37 (-1)]) dX8_refreshReach_51 lk_Ways_62 sk_2 rfl rfl (Nat.le_of_ble_eq_true rfl) (Or.inr rfl) (Call.mono hy (fun r2 h1 _ hy => ?_))
    refine a_if_eq (tgt := 73) dX8_refreshReach_54 (by decide) (fun c => ?_) (fun c => ?_)
    · have hy := hy.1 c
      refine a_lconst (x := 0) dX8_refreshReach_73 rfl ⟨by decide, by decide⟩ ?_
      obtain ⟨c3, hy⟩ := hy
      refine a_last dX8_refreshReach_74 sk_37 c3 ?_
      obtain ⟨c4, hy⟩ := hy
      refine a_iinc (y := v2 + 1) (ls2 := [some (vR 7 (-1)), some (vI v1), some (vI (v2 + 1)), none]) dX8_refreshReach_75 rfl rfl c4 rfl ?_
      refine a_goto (tgt := 36) dX8_refreshReach_78 (by decide) ?_
      exact hy
    · have hy := hy.2 (c)
      refine a_aload_n dX8_refreshReach_57 rfl ?_
      refine a_getR dX8_refreshReach_58 fl_Ways_48 sk_7 rfl ?_
      refine a_getR dX8_refreshReach_61 fl_Ways_66 sk_6 rfl ?_
      refine a_iload_n dX8_refreshReach_64 rfl ?_
      obtain ⟨c5, hy⟩ := hy
      refine a_lald' dX8_refreshReach_65 sk_35 c5 (rfl) ?_
      refine a_lconst (x := 1) dX8_refreshReach_66 rfl ⟨by decide, by decide⟩ ?_
      refine a_iload_n dX8_refreshReach_67 rfl ?_
      refine a_lshl dX8_refreshReach_68 ?_
      refine a_lor dX8_refreshReach_69 ?_
      refine a_goto (tgt := 74) dX8_refreshReach_70 (by decide) ?_
      refine a_last dX8_refreshReach_74 sk_37 c5 ?_
      obtain ⟨c6, hy⟩ := hy
      refine a_iinc (y := v2 + 1) (ls2 := [some (vR 7 (-1)), some (vI v1), some (vI (v2 + 1)), none]) dX8_refreshReach_75 rfl rfl c6 rfl ?_
      refine a_goto (tgt := 36) dX8_refreshReach_78 (by decide) ?_
      exact hy
theorem s_Ways_refreshReach_83 {d : Nat} {Q : Int → AH → Prop} {v1 : Int} {v2 : Int} {h : AH} (hy : ((v1 ≤ v2 → (Call d M_Ways_findHeaps [vR 7 (-1)] h (fun _ h1 => Q 0 h1))) ∧ (v2 < v1 → A_Ways_refreshReach_90 d Q v1 v2 0 h))) : A_Ways_refreshReach_83 d Q v1 v2 h := by
  show AW d M_Ways_refreshReach Q 83 [some (vR 7 (-1)), some (vI v1), some (vI v2), none] [] h
  refine a_iload_n dX8_refreshReach_83 rfl ?_
  refine a_iload_n dX8_refreshReach_84 rfl ?_
  refine a_icmp_ge (tgt := 131) dX8_refreshReach_85 (by decide) (fun c => ?_) (fun c => ?_)
  · have hy := hy.1 c
    refine a_aload_n dX8_refreshReach_131 rfl ?_
    refine a_callVv (as := []) (st := []) dX8_refreshReach_132 lk_Ways_73 sk_7 rfl rfl (Nat.le_of_ble_eq_true rfl) rfl (Call.mono hy (fun _ h1 _ hy => ?_))
    exact a_vret dX8_refreshReach_135 rfl hy
  · have hy := hy.2 (Int.not_le.mp c)
    refine a_iconst (x := 0) dX8_refreshReach_88 rfl ⟨by decide, by decide⟩ ?_
    refine a_istore_n (i := 3) (ls2 := [some (vR 7 (-1)), some (vI v1), some (vI v2), some (vI 0)]) dX8_refreshReach_89 rfl (Nat.le_of_ble_eq_true rfl) rfl ?_
    exact hy
theorem s_Ways_refreshReach_90 {d : Nat} {Q : Int → AH → Prop} {v1 : Int} {v2 : Int} {v3 : Int} {h : AH} (hy : ((v1 ≤ v3 → (inI (v2 + 1) ∧ A_Ways_refreshReach_83 d Q v1 (v2 + 1) h)) ∧ (v3 < v1 → (Call d M_Ways_reaches [vR 7 (-1), vI v3, vI v2] h (fun r3 h2 => ((r3 = 0 → (inI (v3 + 1) ∧ A_Ways_refreshReach_90 d Q v1 v2 (v3 + 1) h2)) ∧ (r3 ≠ 0 → (inb v3 40 ∧ (inb v2 40 ∧ (inI (v3 + 1) ∧ A_Ways_refreshReach_90 d Q v1 v2 (v3 + 1) (wL h2 37 v3 (lor (h2.2.1 37 v3) (h2.2.1 37 v2))))))))))))) : A_Ways_refreshReach_90 d Q v1 v2 v3 h := by
  show AW d M_Ways_refreshReach Q 90 [some (vR 7 (-1)), some (vI v1), some (vI v2), some (vI v3)] [] h
  refine a_iload_n dX8_refreshReach_90 rfl ?_
  refine a_iload_n dX8_refreshReach_91 rfl ?_
  refine a_icmp_ge (tgt := 125) dX8_refreshReach_92 (by decide) (fun c => ?_) (fun c => ?_)
  · have hy := hy.1 c
    obtain ⟨c1, hy⟩ := hy
    refine a_iinc (y := v2 + 1) (ls2 := [some (vR 7 (-1)), some (vI v1), some (vI (v2 + 1)), some (vI v3)]) dX8_refreshReach_125 rfl rfl c1 rfl ?_
    refine a_goto (tgt := 83) dX8_refreshReach_128 (by decide) ?_
    refine a_mask [true, true, true, false] (ls2 := [some (vR 7 (-1)), some (vI v1), some (vI (v2 + 1)), none]) rfl rfl ?_
    exact hy
  · have hy := hy.2 (Int.not_le.mp c)
    refine a_aload_n dX8_refreshReach_95 rfl ?_
    refine a_iload_n dX8_refreshReach_96 rfl ?_
    refine a_iload_n dX8_refreshReach_97 rfl ?_
    refine a_callVi (as := [vI v3, vI v2]) (st := []) dX8_refreshReach_98 lk_Ways_69 sk_7 rfl rfl (Nat.le_of_ble_eq_true rfl) (Or.inr rfl) (Call.mono hy (fun r3 h2 _ hy => ?_))
    refine a_if_eq (tgt := 119) dX8_refreshReach_101 (by decide) (fun c => ?_) (fun c => ?_)
    · have hy := hy.1 c
      obtain ⟨c4, hy⟩ := hy
      refine a_iinc (y := v3 + 1) (ls2 := [some (vR 7 (-1)), some (vI v1), some (vI v2), some (vI (v3 + 1))]) dX8_refreshReach_119 rfl rfl c4 rfl ?_
      refine a_goto (tgt := 90) dX8_refreshReach_122 (by decide) ?_
      exact hy
    · have hy := hy.2 (c)
      refine a_aload_n dX8_refreshReach_104 rfl ?_
      refine a_getR dX8_refreshReach_105 fl_Ways_16 sk_7 rfl ?_
      refine a_iload_n dX8_refreshReach_108 rfl ?_
      refine a_dup2 dX8_refreshReach_109 ?_
      obtain ⟨c5, hy⟩ := hy
      refine a_lald' dX8_refreshReach_110 sk_37 c5 (rfl) ?_
      refine a_aload_n dX8_refreshReach_111 rfl ?_
      refine a_getR dX8_refreshReach_112 fl_Ways_16 sk_7 rfl ?_
      refine a_iload_n dX8_refreshReach_115 rfl ?_
      obtain ⟨c6, hy⟩ := hy
      refine a_lald' dX8_refreshReach_116 sk_37 c6 (rfl) ?_
      refine a_lor dX8_refreshReach_117 ?_
      refine a_last dX8_refreshReach_118 sk_37 c5 ?_
      obtain ⟨c7, hy⟩ := hy
      refine a_iinc (y := v3 + 1) (ls2 := [some (vR 7 (-1)), some (vI v1), some (vI v2), some (vI (v3 + 1))]) dX8_refreshReach_119 rfl rfl c7 rfl ?_
      refine a_goto (tgt := 90) dX8_refreshReach_122 (by decide) ?_
      exact hy
theorem c_Ways_refreshReach {d : Nat} (d0 : Nat) (hd : d0 < d)  {h : AH} {Q : Int → AH → Prop} (hy : (((h.1 7 14) ≠ (h.1 6 10) → A_Ways_refreshReach_36 d0 Q (h.1 2 6) 0 (wI h 7 14 (h.1 6 10))) ∧ ((h.1 7 14) = (h.1 6 10) → Q 0 h))) : Call d M_Ways_refreshReach [vR 7 (-1)] h Q := by
  refine ⟨d0, hd, Big.of rfl (Nat.le_of_ble_eq_true rfl) ?_⟩
  show AW d0 M_Ways_refreshReach Q 0 [some (vR 7 (-1)), none, none, none] [] h
  refine a_aload_n dX8_refreshReach_0 rfl ?_
  refine a_getI' (kz := 14) dX8_refreshReach_1 fl_Ways_34 sk_7 rfl rfl (rfl) ?_
  refine a_aload_n dX8_refreshReach_4 rfl ?_
  refine a_getR dX8_refreshReach_5 fl_Ways_48 sk_7 rfl ?_
  refine a_getI' (kz := 10) dX8_refreshReach_8 fl_Ways_52 sk_6 rfl rfl (rfl) ?_
  refine a_icmp_ne (tgt := 15) dX8_refreshReach_11 (by decide) (fun c => ?_) (fun c => ?_)
  · have hy := hy.1 c
    refine a_aload_n dX8_refreshReach_15 rfl ?_
    refine a_aload_n dX8_refreshReach_16 rfl ?_
    refine a_getR dX8_refreshReach_17 fl_Ways_48 sk_7 rfl ?_
    refine a_getI' (kz := 10) dX8_refreshReach_20 fl_Ways_52 sk_6 rfl rfl (rfl) ?_
    refine a_putI (kz := 14) dX8_refreshReach_23 fp_Ways_34 sk_7 rfl rfl ?_
    refine a_aload_n dX8_refreshReach_26 rfl ?_
    refine a_getR dX8_refreshReach_27 fl_Ways_44 sk_7 rfl ?_
    refine a_getI' (kz := 6) dX8_refreshReach_30 fl_Ways_57 sk_2 rfl rfl (rI_ne (by decide)) ?_
    refine a_istore_n (i := 1) (ls2 := [some (vR 7 (-1)), some (vI (h.1 2 6)), none, none]) dX8_refreshReach_33 rfl (Nat.le_of_ble_eq_true rfl) rfl ?_
    refine a_iconst (x := 0) dX8_refreshReach_34 rfl ⟨by decide, by decide⟩ ?_
    refine a_istore_n (i := 2) (ls2 := [some (vR 7 (-1)), some (vI (h.1 2 6)), some (vI 0), none]) dX8_refreshReach_35 rfl (Nat.le_of_ble_eq_true rfl) rfl ?_
    exact hy
  · have hy := hy.2 (Decidable.not_not.mp c)
    exact a_vret dX8_refreshReach_14 rfl hy
def A_Ways_startWeights_2 (d : Nat) (Q : Int → AH → Prop) (v1 : Int) (h : AH) : Prop := AW d M_Ways_startWeights Q 2 [some (vR 7 (-1)), some (vI v1), none, none] [] h
def A_Ways_startWeights_15 (d : Nat) (Q : Int → AH → Prop) (v1 : Int) (v2 : Int) (h : AH) : Prop := AW d M_Ways_startWeights Q 15 [some (vR 7 (-1)), some (vI v1), some (vI v2), none] [] h
theorem s_Ways_startWeights_2 {d : Nat} {Q : Int → AH → Prop} {v1 : Int} {h : AH} (hy : (((h.1 2 6) ≤ v1 → Q 0 h) ∧ (v1 < (h.1 2 6) → A_Ways_startWeights_15 d Q v1 0 h))) : A_Ways_startWeights_2 d Q v1 h := by
  show AW d M_Ways_startWeights Q 2 [some (vR 7 (-1)), some (vI v1), none, none] [] h
  refine a_iload_n dX8_startWeights_2 rfl ?_
  refine a_aload_n dX8_startWeights_3 rfl ?_
  refine a_getR dX8_startWeights_4 fl_Ways_44 sk_7 rfl ?_
  refine a_getI' (kz := 6) dX8_startWeights_7 fl_Ways_57 sk_2 rfl rfl (rfl) ?_
  refine a_icmp_ge (tgt := 91) dX8_startWeights_10 (by decide) (fun c => ?_) (fun c => ?_)
  · have hy := hy.1 c
    exact a_vret dX8_startWeights_91 rfl hy
  · have hy := hy.2 (Int.not_le.mp c)
    refine a_iconst (x := 0) dX8_startWeights_13 rfl ⟨by decide, by decide⟩ ?_
    refine a_istore_n (i := 2) (ls2 := [some (vR 7 (-1)), some (vI v1), some (vI 0), none]) dX8_startWeights_14 rfl (Nat.le_of_ble_eq_true rfl) rfl ?_
    exact hy
theorem s_Ways_startWeights_15 {d : Nat} {Q : Int → AH → Prop} {v1 : Int} {v2 : Int} {h : AH} (hy : (((h.1 2 6) ≤ v2 → (Call d M_Words_isUsed [vR 2 (-1), vI v1] h (fun r2 h1 => ((r2 = 0 → (inI (v1 + 1) ∧ A_Ways_startWeights_2 d Q (v1 + 1) h1)) ∧ (r2 ≠ 0 → (inb v1 40 ∧ (inI (v1 + 1) ∧ A_Ways_startWeights_2 d Q (v1 + 1) (wR h1 36 v1 v1 0)))))))) ∧ (v2 < (h.1 2 6) → (Call d M_Steps_costOf [vR 6 (-1), vI v1, vI v2] h (fun r7 h6 => inb v1 40 ∧ ((r7 ≠ 0 → (inI (64 * r7) ∧ (inI ((64 * r7) + 1) ∧ (inb v2 40 ∧ (inI (v2 + 1) ∧ A_Ways_startWeights_15 d Q v1 (v2 + 1) (wR h6 36 v1 v2 ((64 * r7) + 1))))))) ∧ (r7 = 0 → (inb v2 40 ∧ (inI (v2 + 1) ∧ A_Ways_startWeights_15 d Q v1 (v2 + 1) (wR h6 36 v1 v2 536870912)))))))))) : A_Ways_startWeights_15 d Q v1 v2 h := by
  show AW d M_Ways_startWeights Q 15 [some (vR 7 (-1)), some (vI v1), some (vI v2), none] [] h
  refine a_iload_n dX8_startWeights_15 rfl ?_
  refine a_aload_n dX8_startWeights_16 rfl ?_
  refine a_getR dX8_startWeights_17 fl_Ways_44 sk_7 rfl ?_
  refine a_getI' (kz := 6) dX8_startWeights_20 fl_Ways_57 sk_2 rfl rfl (rfl) ?_
  refine a_icmp_ge (tgt := 65) dX8_startWeights_23 (by decide) (fun c => ?_) (fun c => ?_)
  · have hy := hy.1 c
    refine a_aload_n dX8_startWeights_65 rfl ?_
    refine a_getR dX8_startWeights_66 fl_Ways_44 sk_7 rfl ?_
    refine a_iload_n dX8_startWeights_69 rfl ?_
    refine a_callVi (as := [vI v1]) (st := []) dX8_startWeights_70 lk_Ways_62 sk_2 rfl rfl (Nat.le_of_ble_eq_true rfl) (Or.inr rfl) (Call.mono hy (fun r2 h1 _ hy => ?_))
    refine a_if_eq (tgt := 85) dX8_startWeights_73 (by decide) (fun c => ?_) (fun c => ?_)
    · have hy := hy.1 c
      obtain ⟨c3, hy⟩ := hy
      refine a_iinc (y := v1 + 1) (ls2 := [some (vR 7 (-1)), some (vI (v1 + 1)), some (vI v2), none]) dX8_startWeights_85 rfl rfl c3 rfl ?_
      refine a_goto (tgt := 2) dX8_startWeights_88 (by decide) ?_
      refine a_mask [true, true, false, true] (ls2 := [some (vR 7 (-1)), some (vI (v1 + 1)), none, none]) rfl rfl ?_
      exact hy
    · have hy := hy.2 (c)
      refine a_aload_n dX8_startWeights_76 rfl ?_
      refine a_getR dX8_startWeights_77 fl_Ways_11 sk_7 rfl ?_
      refine a_iload_n dX8_startWeights_80 rfl ?_
      obtain ⟨c4, hy⟩ := hy
      refine a_aald dX8_startWeights_81 sk_36 c4 ?_
      refine a_iload_n dX8_startWeights_82 rfl ?_
      refine a_iconst (x := 0) dX8_startWeights_83 rfl ⟨by decide, by decide⟩ ?_
      refine a_iastR dX8_startWeights_84 sk_36 (inb_ne c4) c4 ?_
      obtain ⟨c5, hy⟩ := hy
      refine a_iinc (y := v1 + 1) (ls2 := [some (vR 7 (-1)), some (vI (v1 + 1)), some (vI v2), none]) dX8_startWeights_85 rfl rfl c5 rfl ?_
      refine a_goto (tgt := 2) dX8_startWeights_88 (by decide) ?_
      refine a_mask [true, true, false, true] (ls2 := [some (vR 7 (-1)), some (vI (v1 + 1)), none, none]) rfl rfl ?_
      exact hy
  · have hy := hy.2 (Int.not_le.mp c)
    refine a_aload_n dX8_startWeights_26 rfl ?_
    refine a_getR dX8_startWeights_27 fl_Ways_48 sk_7 rfl ?_
    refine a_iload_n dX8_startWeights_30 rfl ?_
    refine a_iload_n dX8_startWeights_31 rfl ?_
    refine a_callVi (as := [vI v1, vI v2]) (st := []) dX8_startWeights_32 lk_Ways_86 sk_6 rfl rfl (Nat.le_of_ble_eq_true rfl) (Or.inl rfl) (Call.mono hy (fun r7 h6 _ hy => ?_))
    refine a_istore_n (i := 3) (ls2 := [some (vR 7 (-1)), some (vI v1), some (vI v2), some (vI r7)]) dX8_startWeights_35 rfl (Nat.le_of_ble_eq_true rfl) rfl ?_
    refine a_aload_n dX8_startWeights_36 rfl ?_
    refine a_getR dX8_startWeights_37 fl_Ways_11 sk_7 rfl ?_
    refine a_iload_n dX8_startWeights_40 rfl ?_
    obtain ⟨c8, hy⟩ := hy
    refine a_aald dX8_startWeights_41 sk_36 c8 ?_
    refine a_iload_n dX8_startWeights_42 rfl ?_
    refine a_iload_n dX8_startWeights_43 rfl ?_
    refine a_if_ne (tgt := 52) dX8_startWeights_44 (by decide) (fun c => ?_) (fun c => ?_)
    · have hy := hy.1 c
      refine a_bipush (x := 64) dX8_startWeights_52 (by decide) ⟨by decide, by decide⟩ ?_
      refine a_iload_n dX8_startWeights_54 rfl ?_
      obtain ⟨c9, hy⟩ := hy
      refine a_imul dX8_startWeights_55 c9 ?_
      refine a_iconst (x := 1) dX8_startWeights_56 rfl ⟨by decide, by decide⟩ ?_
      obtain ⟨c10, hy⟩ := hy
      refine a_iadd dX8_startWeights_57 c10 ?_
      obtain ⟨c11, hy⟩ := hy
      refine a_iastR dX8_startWeights_58 sk_36 (inb_ne c8) c11 ?_
      obtain ⟨c12, hy⟩ := hy
      refine a_iinc (y := v2 + 1) (ls2 := [some (vR 7 (-1)), some (vI v1), some (vI (v2 + 1)), some (vI r7)]) dX8_startWeights_59 rfl rfl c12 rfl ?_
      refine a_goto (tgt := 15) dX8_startWeights_62 (by decide) ?_
      refine a_mask [true, true, true, false] (ls2 := [some (vR 7 (-1)), some (vI v1), some (vI (v2 + 1)), none]) rfl rfl ?_
      exact hy
    · have hy := hy.2 (Decidable.not_not.mp c)
      refine a_ldc (x := 536870912) dX8_startWeights_47 kc_Ways_82 ⟨by decide, by decide⟩ ?_
      refine a_goto (tgt := 58) dX8_startWeights_49 (by decide) ?_
      obtain ⟨c13, hy⟩ := hy
      refine a_iastR dX8_startWeights_58 sk_36 (inb_ne c8) c13 ?_
      obtain ⟨c14, hy⟩ := hy
      refine a_iinc (y := v2 + 1) (ls2 := [some (vR 7 (-1)), some (vI v1), some (vI (v2 + 1)), some (vI r7)]) dX8_startWeights_59 rfl rfl c14 rfl ?_
      refine a_goto (tgt := 15) dX8_startWeights_62 (by decide) ?_
      refine a_mask [true, true, true, false] (ls2 := [some (vR 7 (-1)), some (vI v1), some (vI (v2 + 1)), none]) rfl rfl ?_
      exact hy
theorem c_Ways_startWeights {d : Nat} (d0 : Nat) (hd : d0 < d)  {h : AH} {Q : Int → AH → Prop} (hy : A_Ways_startWeights_2 d0 Q 0 h) : Call d M_Ways_startWeights [vR 7 (-1)] h Q := by
  refine ⟨d0, hd, Big.of rfl (Nat.le_of_ble_eq_true rfl) ?_⟩
  show AW d0 M_Ways_startWeights Q 0 [some (vR 7 (-1)), none, none, none] [] h
  refine a_iconst (x := 0) dX8_startWeights_0 rfl ⟨by decide, by decide⟩ ?_
  refine a_istore_n (i := 1) (ls2 := [some (vR 7 (-1)), some (vI 0), none, none]) dX8_startWeights_1 rfl (Nat.le_of_ble_eq_true rfl) rfl ?_
  exact hy
def A_Ways_stepToward_2 (d : Nat) (Q : Int → AH → Prop) (p1 : Int) (p2 : Int) (v3 : Int) (h : AH) : Prop := AW d M_Ways_stepToward Q 2 [some (vR 7 (-1)), some (vI p1), some (vI p2), some (vI v3)] [] h
theorem s_Ways_stepToward_2 {d : Nat} {Q : Int → AH → Prop} {p1 : Int} {p2 : Int} {v3 : Int} {h : AH} (hy : (((h.1 2 6) ≤ v3 → Q p1 h) ∧ (v3 < (h.1 2 6) → (Call d M_Steps_leads [vR 6 (-1), vI p1, vI v3] h (fun r2 h1 => ((r2 = 0 → (inI (v3 + 1) ∧ A_Ways_stepToward_2 d Q p1 p2 (v3 + 1) h1)) ∧ (r2 ≠ 0 → (Call d M_Steps_costOf [vR 6 (-1), vI p1, vI v3] h1 (fun r5 h4 => inI (64 * r5) ∧ (inI ((64 * r5) + 1) ∧ (inb v3 40 ∧ (inb p2 40 ∧ (inI (((64 * r5) + 1) + (h4.2.2 36 v3 p2)) ∧ (inb p1 40 ∧ (((((64 * r5) + 1) + (h4.2.2 36 v3 p2)) ≠ (h4.2.2 36 p1 p2) → (inI (v3 + 1) ∧ A_Ways_stepToward_2 d Q p1 p2 (v3 + 1) h4)) ∧ ((((64 * r5) + 1) + (h4.2.2 36 v3 p2)) = (h4.2.2 36 p1 p2) → Q v3 h4)))))))))))))))) : A_Ways_stepToward_2 d Q p1 p2 v3 h := by
  show AW d M_Ways_stepToward Q 2 [some (vR 7 (-1)), some (vI p1), some (vI p2), some (vI v3)] [] h
  refine a_iload_n dX8_stepToward_2 rfl ?_
  refine a_aload_n dX8_stepToward_3 rfl ?_
  refine a_getR dX8_stepToward_4 fl_Ways_44 sk_7 rfl ?_
  refine a_getI' (kz := 6) dX8_stepToward_7 fl_Ways_57 sk_2 rfl rfl (rfl) ?_
  refine a_icmp_ge (tgt := 67) dX8_stepToward_10 (by decide) (fun c => ?_) (fun c => ?_)
  · have hy := hy.1 c
    refine a_iload_n dX8_stepToward_67 rfl ?_
    exact a_iret dX8_stepToward_68 rfl hy
  · have hy := hy.2 (Int.not_le.mp c)
    refine a_aload_n dX8_stepToward_13 rfl ?_
    refine a_getR dX8_stepToward_14 fl_Ways_48 sk_7 rfl ?_
    refine a_iload_n dX8_stepToward_17 rfl ?_
    refine a_iload_n dX8_stepToward_18 rfl ?_
    refine a_callVi (as := [vI p1, vI v3]) (st := []) dX8_stepToward_19 lk_Ways_106 sk_6 rfl rfl (Nat.le_of_ble_eq_true rfl) (Or.inr rfl) (Call.mono hy (fun r2 h1 _ hy => ?_))
    refine a_if_eq (tgt := 61) dX8_stepToward_22 (by decide) (fun c => ?_) (fun c => ?_)
    · have hy := hy.1 c
      obtain ⟨c3, hy⟩ := hy
      refine a_iinc (y := v3 + 1) (ls2 := [some (vR 7 (-1)), some (vI p1), some (vI p2), some (vI (v3 + 1))]) dX8_stepToward_61 rfl rfl c3 rfl ?_
      refine a_goto (tgt := 2) dX8_stepToward_64 (by decide) ?_
      exact hy
    · have hy := hy.2 (c)
      refine a_bipush (x := 64) dX8_stepToward_25 (by decide) ⟨by decide, by decide⟩ ?_
      refine a_aload_n dX8_stepToward_27 rfl ?_
      refine a_getR dX8_stepToward_28 fl_Ways_48 sk_7 rfl ?_
      refine a_iload_n dX8_stepToward_31 rfl ?_
      refine a_iload_n dX8_stepToward_32 rfl ?_
      refine a_callVi (as := [vI p1, vI v3]) (st := [vI 64]) dX8_stepToward_33 lk_Ways_86 sk_6 rfl rfl (Nat.le_of_ble_eq_true rfl) (Or.inl rfl) (Call.mono hy (fun r5 h4 _ hy => ?_))
      obtain ⟨c6, hy⟩ := hy
      refine a_imul dX8_stepToward_36 c6 ?_
      refine a_iconst (x := 1) dX8_stepToward_37 rfl ⟨by decide, by decide⟩ ?_
      obtain ⟨c7, hy⟩ := hy
      refine a_iadd dX8_stepToward_38 c7 ?_
      refine a_aload_n dX8_stepToward_39 rfl ?_
      refine a_getR dX8_stepToward_40 fl_Ways_11 sk_7 rfl ?_
      refine a_iload_n dX8_stepToward_43 rfl ?_
      obtain ⟨c8, hy⟩ := hy
      refine a_aald dX8_stepToward_44 sk_36 c8 ?_
      refine a_iload_n dX8_stepToward_45 rfl ?_
      obtain ⟨c9, hy⟩ := hy
      refine a_ialdR' dX8_stepToward_46 sk_36 (inb_ne c8) c9 (rfl) ?_
      obtain ⟨c10, hy⟩ := hy
      refine a_iadd dX8_stepToward_47 c10 ?_
      refine a_aload_n dX8_stepToward_48 rfl ?_
      refine a_getR dX8_stepToward_49 fl_Ways_11 sk_7 rfl ?_
      refine a_iload_n dX8_stepToward_52 rfl ?_
      obtain ⟨c11, hy⟩ := hy
      refine a_aald dX8_stepToward_53 sk_36 c11 ?_
      refine a_iload_n dX8_stepToward_54 rfl ?_
      refine a_ialdR' dX8_stepToward_55 sk_36 (inb_ne c11) c9 (rfl) ?_
      refine a_icmp_ne (tgt := 61) dX8_stepToward_56 (by decide) (fun c => ?_) (fun c => ?_)
      · have hy := hy.1 c
        obtain ⟨c12, hy⟩ := hy
        refine a_iinc (y := v3 + 1) (ls2 := [some (vR 7 (-1)), some (vI p1), some (vI p2), some (vI (v3 + 1))]) dX8_stepToward_61 rfl rfl c12 rfl ?_
        refine a_goto (tgt := 2) dX8_stepToward_64 (by decide) ?_
        exact hy
      · have hy := hy.2 (Decidable.not_not.mp c)
        refine a_iload_n dX8_stepToward_59 rfl ?_
        exact a_iret dX8_stepToward_60 rfl hy
theorem c_Ways_stepToward {d : Nat} (d0 : Nat) (hd : d0 < d) {p1 : Int} {p2 : Int} {h : AH} {Q : Int → AH → Prop} (hy : A_Ways_stepToward_2 d0 Q p1 p2 0 h) : Call d M_Ways_stepToward [vR 7 (-1), vI p1, vI p2] h Q := by
  refine ⟨d0, hd, Big.of rfl (Nat.le_of_ble_eq_true rfl) ?_⟩
  show AW d0 M_Ways_stepToward Q 0 [some (vR 7 (-1)), some (vI p1), some (vI p2), none] [] h
  refine a_iconst (x := 0) dX8_stepToward_0 rfl ⟨by decide, by decide⟩ ?_
  refine a_istore_n (i := 3) (ls2 := [some (vR 7 (-1)), some (vI p1), some (vI p2), some (vI 0)]) dX8_stepToward_1 rfl (Nat.le_of_ble_eq_true rfl) rfl ?_
  exact hy
def A_Ways_twosBy_4 (d : Nat) (Q : Int → AH → Prop) (p1 : Int) (v2 : Int) (v3 : Int) (h : AH) : Prop := AW d M_Ways_twosBy Q 4 [some (vR 7 (-1)), some (vI p1), some (vI v2), some (vI v3), none, none] [] h
def A_Ways_twosBy_43 (d : Nat) (Q : Int → AH → Prop) (p1 : Int) (v2 : Int) (v3 : Int) (v4 : Int) (v5 : Int) (h : AH) : Prop := AW d M_Ways_twosBy Q 43 [some (vR 7 (-1)), some (vI p1), some (vI v2), some (vI v3), some (vI v4), some (vI v5)] [] h
theorem s_Ways_twosBy_4 {d : Nat} {Q : Int → AH → Prop} {p1 : Int} {v2 : Int} {v3 : Int} {h : AH} (hy : (((h.1 2 6) ≤ v3 → Q v2 h) ∧ (v3 < (h.1 2 6) → ((v3 = p1 → (inI (v3 + 1) ∧ A_Ways_twosBy_4 d Q p1 v2 (v3 + 1) h)) ∧ (v3 ≠ p1 → (Call d M_Ways_isWay [vR 7 (-1), vI v3, vI p1] h (fun r3 h2 => ((r3 ≠ 0 → (Call d M_Ways_costOf [vR 7 (-1), vI v3, vI p1] h2 (fun r5 h4 => A_Ways_twosBy_43 d Q p1 v2 v3 r5 0 h4))) ∧ (r3 = 0 → (inI (v3 + 1) ∧ A_Ways_twosBy_4 d Q p1 v2 (v3 + 1) h2)))))))))) : A_Ways_twosBy_4 d Q p1 v2 v3 h := by
  show AW d M_Ways_twosBy Q 4 [some (vR 7 (-1)), some (vI p1), some (vI v2), some (vI v3), none, none] [] h
  refine a_iload_n dX8_twosBy_4 rfl ?_
  refine a_aload_n dX8_twosBy_5 rfl ?_
  refine a_getR dX8_twosBy_6 fl_Ways_44 sk_7 rfl ?_
  refine a_getI' (kz := 6) dX8_twosBy_9 fl_Ways_57 sk_2 rfl rfl (rfl) ?_
  refine a_icmp_ge (tgt := 112) dX8_twosBy_12 (by decide) (fun c => ?_) (fun c => ?_)
  · have hy := hy.1 c
    refine a_iload_n dX8_twosBy_112 rfl ?_
    exact a_iret dX8_twosBy_113 rfl hy
  · have hy := hy.2 (Int.not_le.mp c)
    refine a_iload_n dX8_twosBy_15 rfl ?_
    refine a_iload_n dX8_twosBy_16 rfl ?_
    refine a_icmp_eq (tgt := 106) dX8_twosBy_17 (by decide) (fun c => ?_) (fun c => ?_)
    · have hy := hy.1 c
      obtain ⟨c1, hy⟩ := hy
      refine a_iinc (y := v3 + 1) (ls2 := [some (vR 7 (-1)), some (vI p1), some (vI v2), some (vI (v3 + 1)), none, none]) dX8_twosBy_106 rfl rfl c1 rfl ?_
      refine a_goto (tgt := 4) dX8_twosBy_109 (by decide) ?_
      exact hy
    · have hy := hy.2 (c)
      refine a_aload_n dX8_twosBy_20 rfl ?_
      refine a_iload_n dX8_twosBy_21 rfl ?_
      refine a_iload_n dX8_twosBy_22 rfl ?_
      refine a_callVi (as := [vI v3, vI p1]) (st := []) dX8_twosBy_23 lk_Ways_99 sk_7 rfl rfl (Nat.le_of_ble_eq_true rfl) (Or.inr rfl) (Call.mono hy (fun r3 h2 _ hy => ?_))
      refine a_if_ne (tgt := 32) dX8_twosBy_26 (by decide) (fun c => ?_) (fun c => ?_)
      · have hy := hy.1 c
        refine a_aload_n dX8_twosBy_32 rfl ?_
        refine a_iload_n dX8_twosBy_33 rfl ?_
        refine a_iload_n dX8_twosBy_34 rfl ?_
        refine a_callVi (as := [vI v3, vI p1]) (st := []) dX8_twosBy_35 lk_Ways_102 sk_7 rfl rfl (Nat.le_of_ble_eq_true rfl) (Or.inl rfl) (Call.mono hy (fun r5 h4 _ hy => ?_))
        refine a_istore (ls2 := [some (vR 7 (-1)), some (vI p1), some (vI v2), some (vI v3), some (vI r5), none]) dX8_twosBy_38 (Nat.le_of_ble_eq_true rfl) rfl ?_
        refine a_iconst (x := 0) dX8_twosBy_40 rfl ⟨by decide, by decide⟩ ?_
        refine a_istore (ls2 := [some (vR 7 (-1)), some (vI p1), some (vI v2), some (vI v3), some (vI r5), some (vI 0)]) dX8_twosBy_41 (Nat.le_of_ble_eq_true rfl) rfl ?_
        exact hy
      · have hy := hy.2 (Decidable.not_not.mp c)
        refine a_goto (tgt := 106) dX8_twosBy_29 (by decide) ?_
        obtain ⟨c6, hy⟩ := hy
        refine a_iinc (y := v3 + 1) (ls2 := [some (vR 7 (-1)), some (vI p1), some (vI v2), some (vI (v3 + 1)), none, none]) dX8_twosBy_106 rfl rfl c6 rfl ?_
        refine a_goto (tgt := 4) dX8_twosBy_109 (by decide) ?_
        exact hy
theorem s_Ways_twosBy_43 {d : Nat} {Q : Int → AH → Prop} {p1 : Int} {v2 : Int} {v3 : Int} {v4 : Int} {v5 : Int} {h : AH} (hy : (((h.1 2 6) ≤ v5 → (inI (v3 + 1) ∧ A_Ways_twosBy_4 d Q p1 v2 (v3 + 1) h)) ∧ (v5 < (h.1 2 6) → ((v5 = p1 → (inI (v5 + 1) ∧ A_Ways_twosBy_43 d Q p1 v2 v3 v4 (v5 + 1) h)) ∧ (v5 ≠ p1 → ((v5 = v3 → (inI (v5 + 1) ∧ A_Ways_twosBy_43 d Q p1 v2 v3 v4 (v5 + 1) h)) ∧ (v5 ≠ v3 → (Call d M_Ways_isWay [vR 7 (-1), vI p1, vI v5] h (fun r5 h4 => ((r5 = 0 → (inI (v5 + 1) ∧ A_Ways_twosBy_43 d Q p1 v2 v3 v4 (v5 + 1) h4)) ∧ (r5 ≠ 0 → (Call d M_Ways_costOf [vR 7 (-1), vI p1, vI v5] h4 (fun r8 h7 => inI (v4 + r8) ∧ (Call d M_Ways_costOf [vR 7 (-1), vI v3, vI v5] h7 (fun r11 h10 => (((v4 + r8) ≠ r11 → (inI (v5 + 1) ∧ A_Ways_twosBy_43 d Q p1 v2 v3 v4 (v5 + 1) h10)) ∧ ((v4 + r8) = r11 → (inI (v2 + 1) ∧ (inI (v5 + 1) ∧ A_Ways_twosBy_43 d Q p1 (v2 + 1) v3 v4 (v5 + 1) h10))))))))))))))))))) : A_Ways_twosBy_43 d Q p1 v2 v3 v4 v5 h := by
  show AW d M_Ways_twosBy Q 43 [some (vR 7 (-1)), some (vI p1), some (vI v2), some (vI v3), some (vI v4), some (vI v5)] [] h
  refine a_iload dX8_twosBy_43 rfl ?_
  refine a_aload_n dX8_twosBy_45 rfl ?_
  refine a_getR dX8_twosBy_46 fl_Ways_44 sk_7 rfl ?_
  refine a_getI' (kz := 6) dX8_twosBy_49 fl_Ways_57 sk_2 rfl rfl (rfl) ?_
  refine a_icmp_ge (tgt := 106) dX8_twosBy_52 (by decide) (fun c => ?_) (fun c => ?_)
  · have hy := hy.1 c
    obtain ⟨c1, hy⟩ := hy
    refine a_iinc (y := v3 + 1) (ls2 := [some (vR 7 (-1)), some (vI p1), some (vI v2), some (vI (v3 + 1)), some (vI v4), some (vI v5)]) dX8_twosBy_106 rfl rfl c1 rfl ?_
    refine a_goto (tgt := 4) dX8_twosBy_109 (by decide) ?_
    refine a_mask [true, true, true, true, false, false] (ls2 := [some (vR 7 (-1)), some (vI p1), some (vI v2), some (vI (v3 + 1)), none, none]) rfl rfl ?_
    exact hy
  · have hy := hy.2 (Int.not_le.mp c)
    refine a_iload dX8_twosBy_55 rfl ?_
    refine a_iload_n dX8_twosBy_57 rfl ?_
    refine a_icmp_eq (tgt := 100) dX8_twosBy_58 (by decide) (fun c => ?_) (fun c => ?_)
    · have hy := hy.1 c
      obtain ⟨c2, hy⟩ := hy
      refine a_iinc (y := v5 + 1) (ls2 := [some (vR 7 (-1)), some (vI p1), some (vI v2), some (vI v3), some (vI v4), some (vI (v5 + 1))]) dX8_twosBy_100 rfl rfl c2 rfl ?_
      refine a_goto (tgt := 43) dX8_twosBy_103 (by decide) ?_
      exact hy
    · have hy := hy.2 (c)
      refine a_iload dX8_twosBy_61 rfl ?_
      refine a_iload_n dX8_twosBy_63 rfl ?_
      refine a_icmp_eq (tgt := 100) dX8_twosBy_64 (by decide) (fun c => ?_) (fun c => ?_)
      · have hy := hy.1 c
        obtain ⟨c3, hy⟩ := hy
        refine a_iinc (y := v5 + 1) (ls2 := [some (vR 7 (-1)), some (vI p1), some (vI v2), some (vI v3), some (vI v4), some (vI (v5 + 1))]) dX8_twosBy_100 rfl rfl c3 rfl ?_
        refine a_goto (tgt := 43) dX8_twosBy_103 (by decide) ?_
        exact hy
      · have hy := hy.2 (c)
        refine a_aload_n dX8_twosBy_67 rfl ?_
        refine a_iload_n dX8_twosBy_68 rfl ?_
        refine a_iload dX8_twosBy_69 rfl ?_
        refine a_callVi (as := [vI p1, vI v5]) (st := []) dX8_twosBy_71 lk_Ways_99 sk_7 rfl rfl (Nat.le_of_ble_eq_true rfl) (Or.inr rfl) (Call.mono hy (fun r5 h4 _ hy => ?_))
        refine a_if_eq (tgt := 100) dX8_twosBy_74 (by decide) (fun c => ?_) (fun c => ?_)
        · have hy := hy.1 c
          obtain ⟨c6, hy⟩ := hy
          refine a_iinc (y := v5 + 1) (ls2 := [some (vR 7 (-1)), some (vI p1), some (vI v2), some (vI v3), some (vI v4), some (vI (v5 + 1))]) dX8_twosBy_100 rfl rfl c6 rfl ?_
          refine a_goto (tgt := 43) dX8_twosBy_103 (by decide) ?_
          exact hy
        · have hy := hy.2 (c)
          refine a_iload dX8_twosBy_77 rfl ?_
          refine a_aload_n dX8_twosBy_79 rfl ?_
          refine a_iload_n dX8_twosBy_80 rfl ?_
          refine a_iload dX8_twosBy_81 rfl ?_
          refine a_callVi (as := [vI p1, vI v5]) (st := [vI v4]) dX8_twosBy_83 lk_Ways_102 sk_7 rfl rfl (Nat.le_of_ble_eq_true rfl) (Or.inl rfl) (Call.mono hy (fun r8 h7 _ hy => ?_))
          obtain ⟨c9, hy⟩ := hy
          refine a_iadd dX8_twosBy_86 c9 ?_
          refine a_aload_n dX8_twosBy_87 rfl ?_
          refine a_iload_n dX8_twosBy_88 rfl ?_
          refine a_iload dX8_twosBy_89 rfl ?_
          refine a_callVi (as := [vI v3, vI v5]) (st := [vI (v4 + r8)]) dX8_twosBy_91 lk_Ways_102 sk_7 rfl rfl (Nat.le_of_ble_eq_true rfl) (Or.inl rfl) (Call.mono hy (fun r11 h10 _ hy => ?_))
          refine a_icmp_ne (tgt := 100) dX8_twosBy_94 (by decide) (fun c => ?_) (fun c => ?_)
          · have hy := hy.1 c
            obtain ⟨c12, hy⟩ := hy
            refine a_iinc (y := v5 + 1) (ls2 := [some (vR 7 (-1)), some (vI p1), some (vI v2), some (vI v3), some (vI v4), some (vI (v5 + 1))]) dX8_twosBy_100 rfl rfl c12 rfl ?_
            refine a_goto (tgt := 43) dX8_twosBy_103 (by decide) ?_
            exact hy
          · have hy := hy.2 (Decidable.not_not.mp c)
            obtain ⟨c13, hy⟩ := hy
            refine a_iinc (y := v2 + 1) (ls2 := [some (vR 7 (-1)), some (vI p1), some (vI (v2 + 1)), some (vI v3), some (vI v4), some (vI v5)]) dX8_twosBy_97 rfl rfl c13 rfl ?_
            obtain ⟨c14, hy⟩ := hy
            refine a_iinc (y := v5 + 1) (ls2 := [some (vR 7 (-1)), some (vI p1), some (vI (v2 + 1)), some (vI v3), some (vI v4), some (vI (v5 + 1))]) dX8_twosBy_100 rfl rfl c14 rfl ?_
            refine a_goto (tgt := 43) dX8_twosBy_103 (by decide) ?_
            exact hy
theorem c_Ways_twosBy {d : Nat} (d0 : Nat) (hd : d0 < d) {p1 : Int} {h : AH} {Q : Int → AH → Prop} (hy : A_Ways_twosBy_4 d0 Q p1 0 0 h) : Call d M_Ways_twosBy [vR 7 (-1), vI p1] h Q := by
  refine ⟨d0, hd, Big.of rfl (Nat.le_of_ble_eq_true rfl) ?_⟩
  show AW d0 M_Ways_twosBy Q 0 [some (vR 7 (-1)), some (vI p1), none, none, none, none] [] h
  refine a_iconst (x := 0) dX8_twosBy_0 rfl ⟨by decide, by decide⟩ ?_
  refine a_istore_n (i := 2) (ls2 := [some (vR 7 (-1)), some (vI p1), some (vI 0), none, none, none]) dX8_twosBy_1 rfl (Nat.le_of_ble_eq_true rfl) rfl ?_
  refine a_iconst (x := 0) dX8_twosBy_2 rfl ⟨by decide, by decide⟩ ?_
  refine a_istore_n (i := 3) (ls2 := [some (vR 7 (-1)), some (vI p1), some (vI 0), some (vI 0), none, none]) dX8_twosBy_3 rfl (Nat.le_of_ble_eq_true rfl) rfl ?_
  exact hy
def A_Ways_walksInto_5 (d : Nat) (Q : Int → AH → Prop) (p1 : Int) (v2 : Int) (v4 : Int) (h : AH) : Prop := AW d M_Ways_walksInto Q 5 [some (vR 7 (-1)), some (vI p1), some (vL v2), none, some (vI v4)] [] h
theorem s_Ways_walksInto_5 {d : Nat} {Q : Int → AH → Prop} {p1 : Int} {v2 : Int} {v4 : Int} {h : AH} (hy : (((h.1 2 6) ≤ v4 → Q v2 h) ∧ (v4 < (h.1 2 6) → (inb v4 40 ∧ (((h.2.1 40 v4) = 0 → (inI (v4 + 1) ∧ A_Ways_walksInto_5 d Q p1 v2 (v4 + 1) h)) ∧ ((h.2.1 40 v4) ≠ 0 → (Call d M_Steps_leads [vR 6 (-1), vI v4, vI p1] h (fun r4 h3 => ((r4 = 0 → (inI (v4 + 1) ∧ A_Ways_walksInto_5 d Q p1 v2 (v4 + 1) h3)) ∧ (r4 ≠ 0 → (inI (v4 + 1) ∧ A_Ways_walksInto_5 d Q p1 (w64 (v2 + (h3.2.1 40 v4))) (v4 + 1) h3))))))))))) : A_Ways_walksInto_5 d Q p1 v2 v4 h := by
  show AW d M_Ways_walksInto Q 5 [some (vR 7 (-1)), some (vI p1), some (vL v2), none, some (vI v4)] [] h
  refine a_iload dX8_walksInto_5 rfl ?_
  refine a_aload_n dX8_walksInto_7 rfl ?_
  refine a_getR dX8_walksInto_8 fl_Ways_44 sk_7 rfl ?_
  refine a_getI' (kz := 6) dX8_walksInto_11 fl_Ways_57 sk_2 rfl rfl (rfl) ?_
  refine a_icmp_ge (tgt := 58) dX8_walksInto_14 (by decide) (fun c => ?_) (fun c => ?_)
  · have hy := hy.1 c
    refine a_lload_n dX8_walksInto_58 rfl ?_
    exact a_lret dX8_walksInto_59 rfl hy
  · have hy := hy.2 (Int.not_le.mp c)
    refine a_aload_n dX8_walksInto_17 rfl ?_
    refine a_getR dX8_walksInto_18 fl_Ways_27 sk_7 rfl ?_
    refine a_iload dX8_walksInto_21 rfl ?_
    obtain ⟨c1, hy⟩ := hy
    refine a_lald' dX8_walksInto_23 sk_40 c1 (rfl) ?_
    refine a_lconst (x := 0) dX8_walksInto_24 rfl ⟨by decide, by decide⟩ ?_
    refine a_lc_eq (tgt := 52) dX8_walksInto_25 dX8_walksInto_26 (by decide) (fun c => ?_) (fun c => ?_)
    · have hy := hy.1 c
      obtain ⟨c2, hy⟩ := hy
      refine a_iinc (y := v4 + 1) (ls2 := [some (vR 7 (-1)), some (vI p1), some (vL v2), none, some (vI (v4 + 1))]) dX8_walksInto_52 rfl rfl c2 rfl ?_
      refine a_goto (tgt := 5) dX8_walksInto_55 (by decide) ?_
      exact hy
    · have hy := hy.2 (c)
      refine a_aload_n dX8_walksInto_29 rfl ?_
      refine a_getR dX8_walksInto_30 fl_Ways_48 sk_7 rfl ?_
      refine a_iload dX8_walksInto_33 rfl ?_
      refine a_iload_n dX8_walksInto_35 rfl ?_
      refine a_callVi (as := [vI v4, vI p1]) (st := []) dX8_walksInto_36 lk_Ways_106 sk_6 rfl rfl (Nat.le_of_ble_eq_true rfl) (Or.inr rfl) (Call.mono hy (fun r4 h3 _ hy => ?_))
      refine a_if_eq (tgt := 52) dX8_walksInto_39 (by decide) (fun c => ?_) (fun c => ?_)
      · have hy := hy.1 c
        obtain ⟨c5, hy⟩ := hy
        refine a_iinc (y := v4 + 1) (ls2 := [some (vR 7 (-1)), some (vI p1), some (vL v2), none, some (vI (v4 + 1))]) dX8_walksInto_52 rfl rfl c5 rfl ?_
        refine a_goto (tgt := 5) dX8_walksInto_55 (by decide) ?_
        exact hy
      · have hy := hy.2 (c)
        refine a_lload_n dX8_walksInto_42 rfl ?_
        refine a_aload_n dX8_walksInto_43 rfl ?_
        refine a_getR dX8_walksInto_44 fl_Ways_27 sk_7 rfl ?_
        refine a_iload dX8_walksInto_47 rfl ?_
        refine a_lald' dX8_walksInto_49 sk_40 c1 (rfl) ?_
        refine a_laddW dX8_walksInto_50 ?_
        refine a_lstore_n (i := 2) (ls2 := [some (vR 7 (-1)), some (vI p1), some (vL (w64 (v2 + (h3.2.1 40 v4)))), none, some (vI v4)]) dX8_walksInto_51 rfl (Nat.le_of_ble_eq_true rfl) rfl ?_
        obtain ⟨c6, hy⟩ := hy
        refine a_iinc (y := v4 + 1) (ls2 := [some (vR 7 (-1)), some (vI p1), some (vL (w64 (v2 + (h3.2.1 40 v4)))), none, some (vI (v4 + 1))]) dX8_walksInto_52 rfl rfl c6 rfl ?_
        refine a_goto (tgt := 5) dX8_walksInto_55 (by decide) ?_
        exact hy
theorem c_Ways_walksInto {d : Nat} (d0 : Nat) (hd : d0 < d) {p1 : Int} {h : AH} {Q : Int → AH → Prop} (hy : A_Ways_walksInto_5 d0 Q p1 0 0 h) : Call d M_Ways_walksInto [vR 7 (-1), vI p1] h Q := by
  refine ⟨d0, hd, Big.of rfl (Nat.le_of_ble_eq_true rfl) ?_⟩
  show AW d0 M_Ways_walksInto Q 0 [some (vR 7 (-1)), some (vI p1), none, none, none] [] h
  refine a_lconst (x := 0) dX8_walksInto_0 rfl ⟨by decide, by decide⟩ ?_
  refine a_lstore_n (i := 2) (ls2 := [some (vR 7 (-1)), some (vI p1), some (vL 0), none, none]) dX8_walksInto_1 rfl (Nat.le_of_ble_eq_true rfl) rfl ?_
  refine a_iconst (x := 0) dX8_walksInto_2 rfl ⟨by decide, by decide⟩ ?_
  refine a_istore (ls2 := [some (vR 7 (-1)), some (vI p1), some (vL 0), none, some (vI 0)]) dX8_walksInto_3 (Nat.le_of_ble_eq_true rfl) rfl ?_
  exact hy
def A_Ways_wordAt_6 (d : Nat) (Q : Int → AH → Prop) (p2 : Int) (p3 : Int) (v4 : Int) (v5 : Int) (h : AH) : Prop := AW d M_Ways_wordAt Q 6 [some (vR 7 (-1)), none, some (vI p2), some (vI p3), some (vI v4), some (vI v5)] [] h
theorem s_Ways_wordAt_6 {d : Nat} {Q : Int → AH → Prop} {p2 : Int} {p3 : Int} {v4 : Int} {v5 : Int} {h : AH} (hy : ((p3 ≤ v5 → Q v4 h) ∧ (v5 < p3 → (Call d M_Ways_stepToward [vR 7 (-1), vI v4, vI p2] h (fun r2 h1 => inI (v5 + 1) ∧ A_Ways_wordAt_6 d Q p2 p3 r2 (v5 + 1) h1))))) : A_Ways_wordAt_6 d Q p2 p3 v4 v5 h := by
  show AW d M_Ways_wordAt Q 6 [some (vR 7 (-1)), none, some (vI p2), some (vI p3), some (vI v4), some (vI v5)] [] h
  refine a_iload dX8_wordAt_6 rfl ?_
  refine a_iload_n dX8_wordAt_8 rfl ?_
  refine a_icmp_ge (tgt := 27) dX8_wordAt_9 (by decide) (fun c => ?_) (fun c => ?_)
  · have hy := hy.1 c
    refine a_iload dX8_wordAt_27 rfl ?_
    exact a_iret dX8_wordAt_29 rfl hy
  · have hy := hy.2 (Int.not_le.mp c)
    refine a_aload_n dX8_wordAt_12 rfl ?_
    refine a_iload dX8_wordAt_13 rfl ?_
    refine a_iload_n dX8_wordAt_15 rfl ?_
    refine a_callVi (as := [vI v4, vI p2]) (st := []) dX8_wordAt_16 lk_Ways_103 sk_7 rfl rfl (Nat.le_of_ble_eq_true rfl) (Or.inl rfl) (Call.mono hy (fun r2 h1 _ hy => ?_))
    refine a_istore (ls2 := [some (vR 7 (-1)), none, some (vI p2), some (vI p3), some (vI r2), some (vI v5)]) dX8_wordAt_19 (Nat.le_of_ble_eq_true rfl) rfl ?_
    obtain ⟨c3, hy⟩ := hy
    refine a_iinc (y := v5 + 1) (ls2 := [some (vR 7 (-1)), none, some (vI p2), some (vI p3), some (vI r2), some (vI (v5 + 1))]) dX8_wordAt_21 rfl rfl c3 rfl ?_
    refine a_goto (tgt := 6) dX8_wordAt_24 (by decide) ?_
    exact hy
theorem c_Ways_wordAt {d : Nat} (d0 : Nat) (hd : d0 < d) {p1 : Int} {p2 : Int} {p3 : Int} {h : AH} {Q : Int → AH → Prop} (hy : A_Ways_wordAt_6 d0 Q p2 p3 p1 0 h) : Call d M_Ways_wordAt [vR 7 (-1), vI p1, vI p2, vI p3] h Q := by
  refine ⟨d0, hd, Big.of rfl (Nat.le_of_ble_eq_true rfl) ?_⟩
  show AW d0 M_Ways_wordAt Q 0 [some (vR 7 (-1)), some (vI p1), some (vI p2), some (vI p3), none, none] [] h
  refine a_iload_n dX8_wordAt_0 rfl ?_
  refine a_istore (ls2 := [some (vR 7 (-1)), some (vI p1), some (vI p2), some (vI p3), some (vI p1), none]) dX8_wordAt_1 (Nat.le_of_ble_eq_true rfl) rfl ?_
  refine a_iconst (x := 0) dX8_wordAt_3 rfl ⟨by decide, by decide⟩ ?_
  refine a_istore (ls2 := [some (vR 7 (-1)), some (vI p1), some (vI p2), some (vI p3), some (vI p1), some (vI 0)]) dX8_wordAt_4 (Nat.le_of_ble_eq_true rfl) rfl ?_
  refine a_mask [true, false, true, true, true, true] (ls2 := [some (vR 7 (-1)), none, some (vI p2), some (vI p3), some (vI p1), some (vI 0)]) rfl rfl ?_
  exact hy

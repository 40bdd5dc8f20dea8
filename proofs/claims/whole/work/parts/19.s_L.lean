theorem c_L_areWords {d : Nat} (d0 : Nat) (hd : d0 < d) {p1 : Int} {p2 : Int} {h : AH} {Q : Int → AH → Prop} (hy : Call d0 M_Words_has [vR 2 (-1), vI p1] h (fun r2 h1 => ((r2 = 0 → Q 0 h1) ∧ (r2 ≠ 0 → (Call d0 M_Words_has [vR 2 (-1), vI p2] h1 (fun r4 h3 => ((r4 = 0 → Q 0 h3) ∧ (r4 ≠ 0 → Q 1 h3)))))))) : Call d M_L_areWords [vR 0 (-1), vI p1, vI p2] h Q := by
  refine ⟨d0, hd, Big.of rfl (Nat.le_of_ble_eq_true rfl) ?_⟩
  show AW d0 M_L_areWords Q 0 [some (vR 0 (-1)), some (vI p1), some (vI p2)] [] h
  refine a_aload_n dX10_areWords_0 rfl ?_
  refine a_getR dX10_areWords_1 fl_L_19 sk_0 rfl ?_
  refine a_iload_n dX10_areWords_4 rfl ?_
  refine a_callVi (as := [vI p1]) (st := []) dX10_areWords_5 lk_L_134 sk_2 rfl rfl (Nat.le_of_ble_eq_true rfl) (Or.inr rfl) (Call.mono hy (fun r2 h1 _ hy => ?_))
  refine a_if_eq (tgt := 26) dX10_areWords_8 (by decide) (fun c => ?_) (fun c => ?_)
  · have hy := hy.1 c
    refine a_iconst (x := 0) dX10_areWords_26 rfl ⟨by decide, by decide⟩ ?_
    exact a_zret dX10_areWords_27 rfl (Or.inl rfl) hy
  · have hy := hy.2 (c)
    refine a_aload_n dX10_areWords_11 rfl ?_
    refine a_getR dX10_areWords_12 fl_L_19 sk_0 rfl ?_
    refine a_iload_n dX10_areWords_15 rfl ?_
    refine a_callVi (as := [vI p2]) (st := []) dX10_areWords_16 lk_L_134 sk_2 rfl rfl (Nat.le_of_ble_eq_true rfl) (Or.inr rfl) (Call.mono hy (fun r4 h3 _ hy => ?_))
    refine a_if_eq (tgt := 26) dX10_areWords_19 (by decide) (fun c => ?_) (fun c => ?_)
    · have hy := hy.1 c
      refine a_iconst (x := 0) dX10_areWords_26 rfl ⟨by decide, by decide⟩ ?_
      exact a_zret dX10_areWords_27 rfl (Or.inl rfl) hy
    · have hy := hy.2 (c)
      refine a_iconst (x := 1) dX10_areWords_22 rfl ⟨by decide, by decide⟩ ?_
      refine a_goto (tgt := 27) dX10_areWords_23 (by decide) ?_
      exact a_zret dX10_areWords_27 rfl (Or.inr rfl) hy
theorem c_L_bar {d : Nat} (d0 : Nat) (hd : d0 < d) {p1 : Int} {p2 : Int} {h : AH} {Q : Int → AH → Prop} (hy : Call d0 M_Words_has [vR 2 (-1), vI p1] h (fun r2 h1 => ((r2 = 0 → Q 0 h1) ∧ (r2 ≠ 0 → (Call d0 M_Words_setBarred [vR 2 (-1), vI p1, vI p2] h1 (fun r4 h3 => ((r4 = 0 → Q 0 h3) ∧ (r4 ≠ 0 → Q 1 h3)))))))) : Call d M_L_bar [vR 0 (-1), vI p1, vI p2] h Q := by
  refine ⟨d0, hd, Big.of rfl (Nat.le_of_ble_eq_true rfl) ?_⟩
  show AW d0 M_L_bar Q 0 [some (vR 0 (-1)), some (vI p1), some (vI p2)] [] h
  refine a_aload_n dX10_bar_0 rfl ?_
  refine a_getR dX10_bar_1 fl_L_19 sk_0 rfl ?_
  refine a_iload_n dX10_bar_4 rfl ?_
  refine a_callVi (as := [vI p1]) (st := []) dX10_bar_5 lk_L_134 sk_2 rfl rfl (Nat.le_of_ble_eq_true rfl) (Or.inr rfl) (Call.mono hy (fun r2 h1 _ hy => ?_))
  refine a_if_eq (tgt := 27) dX10_bar_8 (by decide) (fun c => ?_) (fun c => ?_)
  · have hy := hy.1 c
    refine a_iconst (x := 0) dX10_bar_27 rfl ⟨by decide, by decide⟩ ?_
    exact a_zret dX10_bar_28 rfl (Or.inl rfl) hy
  · have hy := hy.2 (c)
    refine a_aload_n dX10_bar_11 rfl ?_
    refine a_getR dX10_bar_12 fl_L_19 sk_0 rfl ?_
    refine a_iload_n dX10_bar_15 rfl ?_
    refine a_iload_n dX10_bar_16 rfl ?_
    refine a_callVi (as := [vI p1, vI p2]) (st := []) dX10_bar_17 lk_L_137 sk_2 rfl rfl (Nat.le_of_ble_eq_true rfl) (Or.inr rfl) (Call.mono hy (fun r4 h3 _ hy => ?_))
    refine a_if_eq (tgt := 27) dX10_bar_20 (by decide) (fun c => ?_) (fun c => ?_)
    · have hy := hy.1 c
      refine a_iconst (x := 0) dX10_bar_27 rfl ⟨by decide, by decide⟩ ?_
      exact a_zret dX10_bar_28 rfl (Or.inl rfl) hy
    · have hy := hy.2 (c)
      refine a_iconst (x := 1) dX10_bar_23 rfl ⟨by decide, by decide⟩ ?_
      refine a_goto (tgt := 28) dX10_bar_24 (by decide) ?_
      exact a_zret dX10_bar_28 rfl (Or.inr rfl) hy
theorem c_L_between {d : Nat} (d0 : Nat) (hd : d0 < d) {p1 : Int} {h : AH} {Q : Int → AH → Prop} (hy : ((p1 < 0 → Q (-1) h) ∧ (0 ≤ p1 → ((p1 ≤ 1 → (((h.2.1 2 8) ≠ 0 → (Call d0 M_Steps_refresh [vR 6 (-1)] h (fun _ h1 => Call d0 M_Ways_refresh [vR 7 (-1)] h1 (fun _ h2 => Call d0 M_Ways_refreshBusiest [vR 7 (-1)] h2 (fun _ h3 => ((p1 ≠ 0 → Q (h3.1 7 13) h3) ∧ (p1 = 0 → Q (h3.1 7 12) h3))))))) ∧ ((h.2.1 2 8) = 0 → Q (-2) h))) ∧ (1 < p1 → Q (-1) h))))) : Call d M_L_between [vR 0 (-1), vI p1] h Q := by
  refine ⟨d0, hd, Big.of rfl (Nat.le_of_ble_eq_true rfl) ?_⟩
  show AW d0 M_L_between Q 0 [some (vR 0 (-1)), some (vI p1)] [] h
  refine a_iload_n dX10_between_0 rfl ?_
  refine a_if_lt (tgt := 9) dX10_between_1 (by decide) (fun c => ?_) (fun c => ?_)
  · have hy := hy.1 c
    refine a_iconst (x := (-1)) dX10_between_9 rfl ⟨by decide, by decide⟩ ?_
    exact a_iret dX10_between_10 rfl hy
  · have hy := hy.2 (Int.not_lt.mp c)
    refine a_iload_n dX10_between_4 rfl ?_
    refine a_iconst (x := 1) dX10_between_5 rfl ⟨by decide, by decide⟩ ?_
    refine a_icmp_le (tgt := 11) dX10_between_6 (by decide) (fun c => ?_) (fun c => ?_)
    · have hy := hy.1 c
      refine a_aload_n dX10_between_11 rfl ?_
      refine a_getR dX10_between_12 fl_L_19 sk_0 rfl ?_
      refine a_getL' (kz := 8) dX10_between_15 fl_L_232 sk_2 rfl rfl (rfl) ?_
      refine a_lconst (x := 0) dX10_between_18 rfl ⟨by decide, by decide⟩ ?_
      refine a_lc_ne (tgt := 26) dX10_between_19 dX10_between_20 (by decide) (fun c => ?_) (fun c => ?_)
      · have hy := hy.1 c
        refine a_aload_n dX10_between_26 rfl ?_
        refine a_getR dX10_between_27 fl_L_44 sk_0 rfl ?_
        refine a_callVv (as := []) (st := []) dX10_between_30 lk_L_171 sk_6 rfl rfl (Nat.le_of_ble_eq_true rfl) rfl (Call.mono hy (fun _ h1 _ hy => ?_))
        refine a_aload_n dX10_between_33 rfl ?_
        refine a_getR dX10_between_34 fl_L_53 sk_0 rfl ?_
        refine a_callVv (as := []) (st := []) dX10_between_37 lk_L_184 sk_7 rfl rfl (Nat.le_of_ble_eq_true rfl) rfl (Call.mono hy (fun _ h2 _ hy => ?_))
        refine a_aload_n dX10_between_40 rfl ?_
        refine a_getR dX10_between_41 fl_L_53 sk_0 rfl ?_
        refine a_callVv (as := []) (st := []) dX10_between_44 lk_L_236 sk_7 rfl rfl (Nat.le_of_ble_eq_true rfl) rfl (Call.mono hy (fun _ h3 _ hy => ?_))
        refine a_iload_n dX10_between_47 rfl ?_
        refine a_if_ne (tgt := 61) dX10_between_48 (by decide) (fun c => ?_) (fun c => ?_)
        · have hy := hy.1 c
          refine a_aload_n dX10_between_61 rfl ?_
          refine a_getR dX10_between_62 fl_L_53 sk_0 rfl ?_
          refine a_getI' (kz := 13) dX10_between_65 fl_L_242 sk_7 rfl rfl (rfl) ?_
          exact a_iret dX10_between_68 rfl hy
        · have hy := hy.2 (Decidable.not_not.mp c)
          refine a_aload_n dX10_between_51 rfl ?_
          refine a_getR dX10_between_52 fl_L_53 sk_0 rfl ?_
          refine a_getI' (kz := 12) dX10_between_55 fl_L_239 sk_7 rfl rfl (rfl) ?_
          refine a_goto (tgt := 68) dX10_between_58 (by decide) ?_
          exact a_iret dX10_between_68 rfl hy
      · have hy := hy.2 (Decidable.not_not.mp c)
        refine a_bipush (x := (-2)) dX10_between_23 (by decide) ⟨by decide, by decide⟩ ?_
        exact a_iret dX10_between_25 rfl hy
    · have hy := hy.2 (Int.not_le.mp c)
      refine a_iconst (x := (-1)) dX10_between_9 rfl ⟨by decide, by decide⟩ ?_
      exact a_iret dX10_between_10 rfl hy
def A_L_check_50 (d : Nat) (Q : Int → AH → Prop) (p1 : Int) (p2 : Int) (v3 : Int) (v4 : Int) (h : AH) : Prop := AW d M_L_check Q 50 [some (vR 0 (-1)), some (vI p1), some (vI p2), some (vI v3), some (vI v4)] [] h
def A_L_check_95 (d : Nat) (Q : Int → AH → Prop) (p2 : Int) (v3 : Int) (h : AH) : Prop := AW d M_L_check Q 95 [none, none, some (vI p2), some (vI v3), none] [] h
theorem s_L_check_50 {d : Nat} {Q : Int → AH → Prop} {p1 : Int} {p2 : Int} {v3 : Int} {v4 : Int} {h : AH} (hy : ((p2 ≤ v4 → A_L_check_95 d Q p2 v3 h) ∧ (v4 < p2 → ((v3 ≤ v4 → A_L_check_95 d Q p2 v3 h) ∧ (v4 < v3 → (Call d M_Tape_numberAt [vR 1 (-1), vI v4] h (fun r2 h1 => inb p1 40 ∧ (inb v4 8 ∧ ((r2 = (h1.2.2 14 p1 v4) → (inI (v4 + 1) ∧ A_L_check_50 d Q p1 p2 v3 (v4 + 1) h1)) ∧ (r2 ≠ (h1.2.2 14 p1 v4) → Q v4 h1)))))))))) : A_L_check_50 d Q p1 p2 v3 v4 h := by
  show AW d M_L_check Q 50 [some (vR 0 (-1)), some (vI p1), some (vI p2), some (vI v3), some (vI v4)] [] h
  refine a_iload dX10_check_50 rfl ?_
  refine a_iload_n dX10_check_52 rfl ?_
  refine a_icmp_ge (tgt := 95) dX10_check_53 (by decide) (fun c => ?_) (fun c => ?_)
  · have hy := hy.1 c
    refine a_mask [false, false, true, true, false] (ls2 := [none, none, some (vI p2), some (vI v3), none]) rfl rfl ?_
    exact hy
  · have hy := hy.2 (Int.not_le.mp c)
    refine a_iload dX10_check_56 rfl ?_
    refine a_iload_n dX10_check_58 rfl ?_
    refine a_icmp_ge (tgt := 95) dX10_check_59 (by decide) (fun c => ?_) (fun c => ?_)
    · have hy := hy.1 c
      refine a_mask [false, false, true, true, false] (ls2 := [none, none, some (vI p2), some (vI v3), none]) rfl rfl ?_
      exact hy
    · have hy := hy.2 (Int.not_le.mp c)
      refine a_aload_n dX10_check_62 rfl ?_
      refine a_getR dX10_check_63 fl_L_10 sk_0 rfl ?_
      refine a_iload dX10_check_66 rfl ?_
      refine a_callVi (as := [vI v4]) (st := []) dX10_check_68 lk_L_338 sk_1 rfl rfl (Nat.le_of_ble_eq_true rfl) (Or.inl rfl) (Call.mono hy (fun r2 h1 _ hy => ?_))
      refine a_aload_n dX10_check_71 rfl ?_
      refine a_getR dX10_check_72 fl_L_19 sk_0 rfl ?_
      refine a_getR dX10_check_75 fl_L_341 sk_2 rfl ?_
      refine a_iload_n dX10_check_78 rfl ?_
      obtain ⟨c3, hy⟩ := hy
      refine a_aald dX10_check_79 sk_14 c3 ?_
      refine a_iload dX10_check_80 rfl ?_
      obtain ⟨c4, hy⟩ := hy
      refine a_ialdR' dX10_check_82 sk_14 (inb_ne c3) c4 (rfl) ?_
      refine a_icmp_eq (tgt := 89) dX10_check_83 (by decide) (fun c => ?_) (fun c => ?_)
      · have hy := hy.1 c
        obtain ⟨c5, hy⟩ := hy
        refine a_iinc (y := v4 + 1) (ls2 := [some (vR 0 (-1)), some (vI p1), some (vI p2), some (vI v3), some (vI (v4 + 1))]) dX10_check_89 rfl rfl c5 rfl ?_
        refine a_goto (tgt := 50) dX10_check_92 (by decide) ?_
        exact hy
      · have hy := hy.2 (c)
        refine a_iload dX10_check_86 rfl ?_
        exact a_iret dX10_check_88 rfl hy
theorem s_L_check_95 {d : Nat} {Q : Int → AH → Prop} {p2 : Int} {v3 : Int} {h : AH} (hy : ((p2 ≠ v3 → (1 ≤ d ∧ Q (min p2 v3) h)) ∧ (p2 = v3 → Q (-1) h))) : A_L_check_95 d Q p2 v3 h := by
  show AW d M_L_check Q 95 [none, none, some (vI p2), some (vI v3), none] [] h
  refine a_iload_n dX10_check_95 rfl ?_
  refine a_iload_n dX10_check_96 rfl ?_
  refine a_icmp_ne (tgt := 104) dX10_check_97 (by decide) (fun c => ?_) (fun c => ?_)
  · have hy := hy.1 c
    refine a_iload_n dX10_check_104 rfl ?_
    refine a_iload_n dX10_check_105 rfl ?_
    obtain ⟨c1, hy⟩ := hy
    refine a_mmin' dX10_check_106 ml_L_345 c1 (Nat.le_of_ble_eq_true rfl) ?_
    exact a_iret dX10_check_109 rfl hy
  · have hy := hy.2 (Decidable.not_not.mp c)
    refine a_iconst (x := (-1)) dX10_check_100 rfl ⟨by decide, by decide⟩ ?_
    refine a_goto (tgt := 109) dX10_check_101 (by decide) ?_
    exact a_iret dX10_check_109 rfl hy
theorem c_L_check {d : Nat} (d0 : Nat) (hd : d0 < d) {p1 : Int} {p2 : Int} {h : AH} {Q : Int → AH → Prop} (hy : Call d0 M_Words_has [vR 2 (-1), vI p1] h (fun r2 h1 => ((r2 = 0 → Q (-2) h1) ∧ (r2 ≠ 0 → ((p2 < 0 → Q (-2) h1) ∧ (0 ≤ p2 → ((8 < p2 → Q (-2) h1) ∧ (p2 ≤ 8 → (inI (4 * p2) ∧ (Call d0 M_Tape_take [vR 1 (-1), vI (4 * p2)] h1 (fun r5 h4 => ((r5 ≠ 0 → (inb p1 40 ∧ A_L_check_50 d0 Q p1 p2 (h4.1 15 p1) 0 h4)) ∧ (r5 = 0 → Q (-2) h4))))))))))))) : Call d M_L_check [vR 0 (-1), vI p1, vI p2] h Q := by
  refine ⟨d0, hd, Big.of rfl (Nat.le_of_ble_eq_true rfl) ?_⟩
  show AW d0 M_L_check Q 0 [some (vR 0 (-1)), some (vI p1), some (vI p2), none, none] [] h
  refine a_aload_n dX10_check_0 rfl ?_
  refine a_getR dX10_check_1 fl_L_19 sk_0 rfl ?_
  refine a_iload_n dX10_check_4 rfl ?_
  refine a_callVi (as := [vI p1]) (st := []) dX10_check_5 lk_L_134 sk_2 rfl rfl (Nat.le_of_ble_eq_true rfl) (Or.inr rfl) (Call.mono hy (fun r2 h1 _ hy => ?_))
  refine a_if_eq (tgt := 34) dX10_check_8 (by decide) (fun c => ?_) (fun c => ?_)
  · have hy := hy.1 c
    refine a_bipush (x := (-2)) dX10_check_34 (by decide) ⟨by decide, by decide⟩ ?_
    exact a_iret dX10_check_36 rfl hy
  · have hy := hy.2 (c)
    refine a_iload_n dX10_check_11 rfl ?_
    refine a_if_lt (tgt := 34) dX10_check_12 (by decide) (fun c => ?_) (fun c => ?_)
    · have hy := hy.1 c
      refine a_bipush (x := (-2)) dX10_check_34 (by decide) ⟨by decide, by decide⟩ ?_
      exact a_iret dX10_check_36 rfl hy
    · have hy := hy.2 (Int.not_lt.mp c)
      refine a_iload_n dX10_check_15 rfl ?_
      refine a_bipush (x := 8) dX10_check_16 (by decide) ⟨by decide, by decide⟩ ?_
      refine a_icmp_gt (tgt := 34) dX10_check_18 (by decide) (fun c => ?_) (fun c => ?_)
      · have hy := hy.1 c
        refine a_bipush (x := (-2)) dX10_check_34 (by decide) ⟨by decide, by decide⟩ ?_
        exact a_iret dX10_check_36 rfl hy
      · have hy := hy.2 (Int.not_lt.mp c)
        refine a_aload_n dX10_check_21 rfl ?_
        refine a_getR dX10_check_22 fl_L_10 sk_0 rfl ?_
        refine a_iconst (x := 4) dX10_check_25 rfl ⟨by decide, by decide⟩ ?_
        refine a_iload_n dX10_check_26 rfl ?_
        obtain ⟨c3, hy⟩ := hy
        refine a_imul dX10_check_27 c3 ?_
        refine a_callVi (as := [vI (4 * p2)]) (st := []) dX10_check_28 lk_L_113 sk_1 rfl rfl (Nat.le_of_ble_eq_true rfl) (Or.inr rfl) (Call.mono hy (fun r5 h4 _ hy => ?_))
        refine a_if_ne (tgt := 37) dX10_check_31 (by decide) (fun c => ?_) (fun c => ?_)
        · have hy := hy.1 c
          refine a_aload_n dX10_check_37 rfl ?_
          refine a_getR dX10_check_38 fl_L_19 sk_0 rfl ?_
          refine a_getR dX10_check_41 fl_L_335 sk_2 rfl ?_
          refine a_iload_n dX10_check_44 rfl ?_
          obtain ⟨c6, hy⟩ := hy
          refine a_iald' dX10_check_45 sk_15 c6 (rfl) ?_
          refine a_istore_n (i := 3) (ls2 := [some (vR 0 (-1)), some (vI p1), some (vI p2), some (vI (h4.1 15 p1)), none]) dX10_check_46 rfl (Nat.le_of_ble_eq_true rfl) rfl ?_
          refine a_iconst (x := 0) dX10_check_47 rfl ⟨by decide, by decide⟩ ?_
          refine a_istore (ls2 := [some (vR 0 (-1)), some (vI p1), some (vI p2), some (vI (h4.1 15 p1)), some (vI 0)]) dX10_check_48 (Nat.le_of_ble_eq_true rfl) rfl ?_
          exact hy
        · have hy := hy.2 (Decidable.not_not.mp c)
          refine a_bipush (x := (-2)) dX10_check_34 (by decide) ⟨by decide, by decide⟩ ?_
          exact a_iret dX10_check_36 rfl hy
theorem c_L_clear {d : Nat} (d0 : Nat) (hd : d0 < d) {p1 : Int} {p2 : Int} {p3 : Int} {h : AH} {Q : Int → AH → Prop} (hy : (((if p1 < 1 then (0 : Int) else if 14 < p1 then (0 : Int) else if p2 < 1 then (0 : Int) else if 9 < p2 then (0 : Int) else if p3 < 0 then (0 : Int) else if 1 < p3 then (0 : Int) else 1) = 0 → Q (-1) h) ∧ ((if p1 < 1 then (0 : Int) else if 14 < p1 then (0 : Int) else if p2 < 1 then (0 : Int) else if 9 < p2 then (0 : Int) else if p3 < 0 then (0 : Int) else if 1 < p3 then (0 : Int) else 1) ≠ 0 → (Call d0 M_Tape_take [vR 1 (-1), vI p1] h (fun r2 h1 => ((r2 ≠ 0 → (Call d0 M_Told_readWords [vR 10 (-1), vI p1] h1 (fun r4 h3 => ((r4 ≠ 0 → (Call d0 M_Told_mostApart [vR 10 (-1), vI p2] h3 (fun r6 h5 => ((p3 ≠ 0 → Q r6 h5) ∧ (p3 = 0 → (Call d0 M_JInteger_bitCount [vI r6] h5 (fun r8 h7 => Q r8 h7))))))) ∧ (r4 = 0 → Q (-3) h3))))) ∧ (r2 = 0 → Q (-1) h1))))))) : Call d M_L_clear [vR 0 (-1), vI p1, vI p2, vI p3] h Q := by
  refine ⟨d0, hd, Big.of rfl (Nat.le_of_ble_eq_true rfl) ?_⟩
  show AW d0 M_L_clear Q 0 [some (vR 0 (-1)), some (vI p1), some (vI p2), some (vI p3), none, none] [] h
  refine a_iload_n dX10_clear_0 rfl ?_
  refine a_iconst (x := 1) dX10_clear_1 rfl ⟨by decide, by decide⟩ ?_
  have J : AW d0 M_L_clear Q 36 [some (vR 0 (-1)), some (vI p1), some (vI p2), some (vI p3), none, none] [vI (if p1 < 1 then (0 : Int) else if 14 < p1 then (0 : Int) else if p2 < 1 then (0 : Int) else if 9 < p2 then (0 : Int) else if p3 < 0 then (0 : Int) else if 1 < p3 then (0 : Int) else 1)] h := by
    refine a_istore (ls2 := [some (vR 0 (-1)), some (vI p1), some (vI p2), some (vI p3), some (vI (if p1 < 1 then (0 : Int) else if 14 < p1 then (0 : Int) else if p2 < 1 then (0 : Int) else if 9 < p2 then (0 : Int) else if p3 < 0 then (0 : Int) else if 1 < p3 then (0 : Int) else 1)), none]) dX10_clear_36 (Nat.le_of_ble_eq_true rfl) rfl ?_
    refine a_iload dX10_clear_38 rfl ?_
    refine a_if_eq (tgt := 54) dX10_clear_40 (by decide) (fun c => ?_) (fun c => ?_)
    · have hy := hy.1 c
      refine a_iconst (x := (-1)) dX10_clear_54 rfl ⟨by decide, by decide⟩ ?_
      exact a_iret dX10_clear_55 rfl hy
    · have hy := hy.2 (c)
      refine a_aload_n dX10_clear_43 rfl ?_
      refine a_getR dX10_clear_44 fl_L_10 sk_0 rfl ?_
      refine a_iload_n dX10_clear_47 rfl ?_
      refine a_callVi (as := [vI p1]) (st := []) dX10_clear_48 lk_L_113 sk_1 rfl rfl (Nat.le_of_ble_eq_true rfl) (Or.inr rfl) (Call.mono hy (fun r2 h1 _ hy => ?_))
      refine a_if_ne (tgt := 56) dX10_clear_51 (by decide) (fun c => ?_) (fun c => ?_)
      · have hy := hy.1 c
        refine a_aload_n dX10_clear_56 rfl ?_
        refine a_getR dX10_clear_57 fl_L_80 sk_0 rfl ?_
        refine a_iload_n dX10_clear_60 rfl ?_
        refine a_callVi (as := [vI p1]) (st := []) dX10_clear_61 lk_L_267 sk_10 rfl rfl (Nat.le_of_ble_eq_true rfl) (Or.inr rfl) (Call.mono hy (fun r4 h3 _ hy => ?_))
        refine a_if_ne (tgt := 70) dX10_clear_64 (by decide) (fun c => ?_) (fun c => ?_)
        · have hy := hy.1 c
          refine a_aload_n dX10_clear_70 rfl ?_
          refine a_getR dX10_clear_71 fl_L_80 sk_0 rfl ?_
          refine a_iload_n dX10_clear_74 rfl ?_
          refine a_callVi (as := [vI p2]) (st := []) dX10_clear_75 lk_L_301 sk_10 rfl rfl (Nat.le_of_ble_eq_true rfl) (Or.inl rfl) (Call.mono hy (fun r6 h5 _ hy => ?_))
          refine a_istore (ls2 := [some (vR 0 (-1)), some (vI p1), some (vI p2), some (vI p3), some (vI (if p1 < 1 then (0 : Int) else if 14 < p1 then (0 : Int) else if p2 < 1 then (0 : Int) else if 9 < p2 then (0 : Int) else if p3 < 0 then (0 : Int) else if 1 < p3 then (0 : Int) else 1)), some (vI r6)]) dX10_clear_78 (Nat.le_of_ble_eq_true rfl) rfl ?_
          refine a_iload_n dX10_clear_80 rfl ?_
          refine a_if_ne (tgt := 92) dX10_clear_81 (by decide) (fun c => ?_) (fun c => ?_)
          · have hy := hy.1 c
            refine a_iload dX10_clear_92 rfl ?_
            exact a_iret dX10_clear_94 rfl hy
          · have hy := hy.2 (Decidable.not_not.mp c)
            refine a_iload dX10_clear_84 rfl ?_
            refine a_callSi (as := [vI r6]) (st := []) dX10_clear_86 lk_L_304 rfl rfl (Nat.le_of_ble_eq_true rfl) (Or.inl rfl) (Call.mono hy (fun r8 h7 _ hy => ?_))
            refine a_goto (tgt := 94) dX10_clear_89 (by decide) ?_
            exact a_iret dX10_clear_94 rfl hy
        · have hy := hy.2 (Decidable.not_not.mp c)
          refine a_bipush (x := (-3)) dX10_clear_67 (by decide) ⟨by decide, by decide⟩ ?_
          exact a_iret dX10_clear_69 rfl hy
      · have hy := hy.2 (Decidable.not_not.mp c)
        refine a_iconst (x := (-1)) dX10_clear_54 rfl ⟨by decide, by decide⟩ ?_
        exact a_iret dX10_clear_55 rfl hy
  refine a_icmp_lt (tgt := 35) dX10_clear_2 (by decide) (fun e9 => ?_) (fun e9 => ?_)
  · refine a_iconst (x := 0) dX10_clear_35 rfl ⟨by decide, by decide⟩ ?_
    exact a_cast (by first | rfl | simp only [if_pos e9]) (by first | rfl | simp only [if_pos e9]) J
  · refine a_iload_n dX10_clear_5 rfl ?_
    refine a_bipush (x := 14) dX10_clear_6 (by decide) ⟨by decide, by decide⟩ ?_
    refine a_icmp_gt (tgt := 35) dX10_clear_8 (by decide) (fun e10 => ?_) (fun e10 => ?_)
    · refine a_iconst (x := 0) dX10_clear_35 rfl ⟨by decide, by decide⟩ ?_
      exact a_cast (by first | rfl | simp only [if_neg e9, if_pos e10]) (by first | rfl | simp only [if_neg e9, if_pos e10]) J
    · refine a_iload_n dX10_clear_11 rfl ?_
      refine a_iconst (x := 1) dX10_clear_12 rfl ⟨by decide, by decide⟩ ?_
      refine a_icmp_lt (tgt := 35) dX10_clear_13 (by decide) (fun e11 => ?_) (fun e11 => ?_)
      · refine a_iconst (x := 0) dX10_clear_35 rfl ⟨by decide, by decide⟩ ?_
        exact a_cast (by first | rfl | simp only [if_neg e9, if_neg e10, if_pos e11]) (by first | rfl | simp only [if_neg e9, if_neg e10, if_pos e11]) J
      · refine a_iload_n dX10_clear_16 rfl ?_
        refine a_bipush (x := 9) dX10_clear_17 (by decide) ⟨by decide, by decide⟩ ?_
        refine a_icmp_gt (tgt := 35) dX10_clear_19 (by decide) (fun e12 => ?_) (fun e12 => ?_)
        · refine a_iconst (x := 0) dX10_clear_35 rfl ⟨by decide, by decide⟩ ?_
          exact a_cast (by first | rfl | simp only [if_neg e9, if_neg e10, if_neg e11, if_pos e12]) (by first | rfl | simp only [if_neg e9, if_neg e10, if_neg e11, if_pos e12]) J
        · refine a_iload_n dX10_clear_22 rfl ?_
          refine a_if_lt (tgt := 35) dX10_clear_23 (by decide) (fun e13 => ?_) (fun e13 => ?_)
          · refine a_iconst (x := 0) dX10_clear_35 rfl ⟨by decide, by decide⟩ ?_
            exact a_cast (by first | rfl | simp only [if_neg e9, if_neg e10, if_neg e11, if_neg e12, if_pos e13]) (by first | rfl | simp only [if_neg e9, if_neg e10, if_neg e11, if_neg e12, if_pos e13]) J
          · refine a_iload_n dX10_clear_26 rfl ?_
            refine a_iconst (x := 1) dX10_clear_27 rfl ⟨by decide, by decide⟩ ?_
            refine a_icmp_gt (tgt := 35) dX10_clear_28 (by decide) (fun e14 => ?_) (fun e14 => ?_)
            · refine a_iconst (x := 0) dX10_clear_35 rfl ⟨by decide, by decide⟩ ?_
              exact a_cast (by first | rfl | simp only [if_neg e9, if_neg e10, if_neg e11, if_neg e12, if_neg e13, if_pos e14]) (by first | rfl | simp only [if_neg e9, if_neg e10, if_neg e11, if_neg e12, if_neg e13, if_pos e14]) J
            · refine a_iconst (x := 1) dX10_clear_31 rfl ⟨by decide, by decide⟩ ?_
              refine a_goto (tgt := 36) dX10_clear_32 (by decide) ?_
              exact a_cast (by first | rfl | simp only [if_neg e9, if_neg e10, if_neg e11, if_neg e12, if_neg e13, if_neg e14]) (by first | rfl | simp only [if_neg e9, if_neg e10, if_neg e11, if_neg e12, if_neg e13, if_neg e14]) J
theorem c_L_count {d : Nat} (d0 : Nat) (hd : d0 < d) {p1 : Int} {h : AH} {Q : Int → AH → Prop} (hy : ((p1 = 0 → Q (h.1 2 6) h) ∧ (p1 = 1 → (Call d0 M_JLong_bitCount [vL (h.2.1 2 8)] h (fun r2 h1 => Q r2 h1))) ∧ (p1 = 2 → Q (h.1 3 6) h) ∧ (p1 = 3 → Q (h.1 1 1) h) ∧ (p1 = 4 → Q (h.1 0 10) h) ∧ (p1 = 5 → Q (h.1 2 7) h) ∧ ((p1 < 0 ∨ 5 < p1) → (Call d0 M_L_countOfWord [vR 0 (-1), vI p1] h (fun r4 h3 => Q r4 h3))))) : Call d M_L_count [vR 0 (-1), vI p1] h Q := by
  refine ⟨d0, hd, Big.of rfl (Nat.le_of_ble_eq_true rfl) ?_⟩
  show AW d0 M_L_count Q 0 [some (vR 0 (-1)), some (vI p1)] [] h
  refine a_iload_n dX10_count_0 rfl ?_
  obtain ⟨hy0, hy1, hy2, hy3, hy4, hy5, hyd⟩ := hy
  by_cases e0 : p1 = 0
  · have hy := hy0 e0
    refine a_tsw (i := 0) (tgt := 40) dX10_count_1 (e0.trans (by decide)) (by decide) rfl (by decide) ?_
    refine a_aload_n dX10_count_40 rfl ?_
    refine a_getR dX10_count_41 fl_L_19 sk_0 rfl ?_
    refine a_getI' (kz := 6) dX10_count_44 fl_L_112 sk_2 rfl rfl (rfl) ?_
    exact a_iret dX10_count_47 rfl hy
  by_cases e1 : p1 = 1
  · have hy := hy1 e1
    refine a_tsw (i := 1) (tgt := 48) dX10_count_1 (e1.trans (by decide)) (by decide) rfl (by decide) ?_
    refine a_aload_n dX10_count_48 rfl ?_
    refine a_getR dX10_count_49 fl_L_19 sk_0 rfl ?_
    refine a_getL' (kz := 8) dX10_count_52 fl_L_232 sk_2 rfl rfl (rfl) ?_
    refine a_callSi (as := [vL (h.2.1 2 8)]) (st := []) dX10_count_55 lk_L_328 rfl rfl (Nat.le_of_ble_eq_true rfl) (Or.inl rfl) (Call.mono hy (fun r2 h1 _ hy => ?_))
    exact a_iret dX10_count_58 rfl hy
  by_cases e2 : p1 = 2
  · have hy := hy2 e2
    refine a_tsw (i := 2) (tgt := 59) dX10_count_1 (e2.trans (by decide)) (by decide) rfl (by decide) ?_
    refine a_aload_n dX10_count_59 rfl ?_
    refine a_getR dX10_count_60 fl_L_26 sk_0 rfl ?_
    refine a_getI' (kz := 6) dX10_count_63 fl_L_164 sk_3 rfl rfl (rfl) ?_
    exact a_iret dX10_count_66 rfl hy
  by_cases e3 : p1 = 3
  · have hy := hy3 e3
    refine a_tsw (i := 3) (tgt := 67) dX10_count_1 (e3.trans (by decide)) (by decide) rfl (by decide) ?_
    refine a_aload_n dX10_count_67 rfl ?_
    refine a_getR dX10_count_68 fl_L_10 sk_0 rfl ?_
    refine a_getI' (kz := 1) dX10_count_71 fl_L_105 sk_1 rfl rfl (rfl) ?_
    exact a_iret dX10_count_74 rfl hy
  by_cases e4 : p1 = 4
  · have hy := hy4 e4
    refine a_tsw (i := 4) (tgt := 75) dX10_count_1 (e4.trans (by decide)) (by decide) rfl (by decide) ?_
    refine a_aload_n dX10_count_75 rfl ?_
    refine a_getI' (kz := 10) dX10_count_76 fl_L_93 sk_0 rfl rfl (rfl) ?_
    exact a_iret dX10_count_79 rfl hy
  by_cases e5 : p1 = 5
  · have hy := hy5 e5
    refine a_tsw (i := 5) (tgt := 80) dX10_count_1 (e5.trans (by decide)) (by decide) rfl (by decide) ?_
    refine a_aload_n dX10_count_80 rfl ?_
    refine a_getR dX10_count_81 fl_L_19 sk_0 rfl ?_
    refine a_getI' (kz := 7) dX10_count_84 fl_L_350 sk_2 rfl rfl (rfl) ?_
    exact a_iret dX10_count_87 rfl hy
  have ed : (p1 < 0 ∨ 5 < p1) := by omega
  have hy := hyd ed
  refine a_tswD (tgt := 88) dX10_count_1 ed (by decide) ?_
  refine a_aload_n dX10_count_88 rfl ?_
  refine a_iload_n dX10_count_89 rfl ?_
  refine a_callVi (as := [vI p1]) (st := []) dX10_count_90 lk_L_353 sk_0 rfl rfl (Nat.le_of_ble_eq_true rfl) (Or.inl rfl) (Call.mono hy (fun r4 h3 _ hy => ?_))
  exact a_iret dX10_count_93 rfl hy
def A_L_countOfWord_43 (d : Nat) (Q : Int → AH → Prop) (p1 : Int) (h : AH) : Prop := AW d M_L_countOfWord Q 43 [some (vR 0 (-1)), some (vI p1)] [] h
def A_L_countOfWord_86 (d : Nat) (Q : Int → AH → Prop) (p1 : Int) (h : AH) : Prop := AW d M_L_countOfWord Q 86 [some (vR 0 (-1)), some (vI p1)] [] h
theorem s_L_countOfWord_43 {d : Nat} {Q : Int → AH → Prop} {p1 : Int} {h : AH} (hy : ((p1 < 60 → A_L_countOfWord_86 d Q p1 h) ∧ (60 ≤ p1 → ((100 ≤ p1 → A_L_countOfWord_86 d Q p1 h) ∧ (p1 < 100 → (inI (p1 - 60) ∧ (Call d M_Words_has [vR 2 (-1), vI (p1 - 60)] h (fun r3 h2 => ((r3 = 0 → Q (-1) h2) ∧ (r3 ≠ 0 → (inb (p1 - 60) 40 ∧ Q (h2.1 17 (p1 - 60)) h2))))))))))) : A_L_countOfWord_43 d Q p1 h := by
  show AW d M_L_countOfWord Q 43 [some (vR 0 (-1)), some (vI p1)] [] h
  refine a_iload_n dX10_countOfWord_43 rfl ?_
  refine a_bipush (x := 60) dX10_countOfWord_44 (by decide) ⟨by decide, by decide⟩ ?_
  refine a_icmp_lt (tgt := 86) dX10_countOfWord_46 (by decide) (fun c => ?_) (fun c => ?_)
  · have hy := hy.1 c
    exact hy
  · have hy := hy.2 (Int.not_lt.mp c)
    refine a_iload_n dX10_countOfWord_49 rfl ?_
    refine a_bipush (x := 100) dX10_countOfWord_50 (by decide) ⟨by decide, by decide⟩ ?_
    refine a_icmp_ge (tgt := 86) dX10_countOfWord_52 (by decide) (fun c => ?_) (fun c => ?_)
    · have hy := hy.1 c
      exact hy
    · have hy := hy.2 (Int.not_le.mp c)
      refine a_aload_n dX10_countOfWord_55 rfl ?_
      refine a_getR dX10_countOfWord_56 fl_L_19 sk_0 rfl ?_
      refine a_iload_n dX10_countOfWord_59 rfl ?_
      refine a_bipush (x := 60) dX10_countOfWord_60 (by decide) ⟨by decide, by decide⟩ ?_
      obtain ⟨c1, hy⟩ := hy
      refine a_isub dX10_countOfWord_62 c1 ?_
      refine a_callVi (as := [vI (p1 - 60)]) (st := []) dX10_countOfWord_63 lk_L_134 sk_2 rfl rfl (Nat.le_of_ble_eq_true rfl) (Or.inr rfl) (Call.mono hy (fun r3 h2 _ hy => ?_))
      refine a_if_eq (tgt := 84) dX10_countOfWord_66 (by decide) (fun c => ?_) (fun c => ?_)
      · have hy := hy.1 c
        refine a_iconst (x := (-1)) dX10_countOfWord_84 rfl ⟨by decide, by decide⟩ ?_
        exact a_iret dX10_countOfWord_85 rfl hy
      · have hy := hy.2 (c)
        refine a_aload_n dX10_countOfWord_69 rfl ?_
        refine a_getR dX10_countOfWord_70 fl_L_19 sk_0 rfl ?_
        refine a_getR dX10_countOfWord_73 fl_L_356 sk_2 rfl ?_
        refine a_iload_n dX10_countOfWord_76 rfl ?_
        refine a_bipush (x := 60) dX10_countOfWord_77 (by decide) ⟨by decide, by decide⟩ ?_
        refine a_isub dX10_countOfWord_79 c1 ?_
        obtain ⟨c4, hy⟩ := hy
        refine a_iald' dX10_countOfWord_80 sk_17 c4 (rfl) ?_
        refine a_goto (tgt := 85) dX10_countOfWord_81 (by decide) ?_
        exact a_iret dX10_countOfWord_85 rfl hy
theorem s_L_countOfWord_86 {d : Nat} {Q : Int → AH → Prop} {p1 : Int} {h : AH} (hy : ((p1 < 100 → Q (-1) h) ∧ (100 ≤ p1 → (inI (p1 - 100) ∧ (Call d M_Words_has [vR 2 (-1), vI (p1 - 100)] h (fun r3 h2 => ((r3 ≠ 0 → (Call d M_Words_isUsed [vR 2 (-1), vI (p1 - 100)] h2 (fun r5 h4 => ((r5 = 0 → Q 0 h4) ∧ (r5 ≠ 0 → Q 1 h4))))) ∧ (r3 = 0 → Q (-1) h2)))))))) : A_L_countOfWord_86 d Q p1 h := by
  show AW d M_L_countOfWord Q 86 [some (vR 0 (-1)), some (vI p1)] [] h
  refine a_iload_n dX10_countOfWord_86 rfl ?_
  refine a_bipush (x := 100) dX10_countOfWord_87 (by decide) ⟨by decide, by decide⟩ ?_
  refine a_icmp_lt (tgt := 106) dX10_countOfWord_89 (by decide) (fun c => ?_) (fun c => ?_)
  · have hy := hy.1 c
    refine a_iconst (x := (-1)) dX10_countOfWord_106 rfl ⟨by decide, by decide⟩ ?_
    exact a_iret dX10_countOfWord_107 rfl hy
  · have hy := hy.2 (Int.not_lt.mp c)
    refine a_aload_n dX10_countOfWord_92 rfl ?_
    refine a_getR dX10_countOfWord_93 fl_L_19 sk_0 rfl ?_
    refine a_iload_n dX10_countOfWord_96 rfl ?_
    refine a_bipush (x := 100) dX10_countOfWord_97 (by decide) ⟨by decide, by decide⟩ ?_
    obtain ⟨c1, hy⟩ := hy
    refine a_isub dX10_countOfWord_99 c1 ?_
    refine a_callVi (as := [vI (p1 - 100)]) (st := []) dX10_countOfWord_100 lk_L_134 sk_2 rfl rfl (Nat.le_of_ble_eq_true rfl) (Or.inr rfl) (Call.mono hy (fun r3 h2 _ hy => ?_))
    refine a_if_ne (tgt := 108) dX10_countOfWord_103 (by decide) (fun c => ?_) (fun c => ?_)
    · have hy := hy.1 c
      refine a_aload_n dX10_countOfWord_108 rfl ?_
      refine a_getR dX10_countOfWord_109 fl_L_19 sk_0 rfl ?_
      refine a_iload_n dX10_countOfWord_112 rfl ?_
      refine a_bipush (x := 100) dX10_countOfWord_113 (by decide) ⟨by decide, by decide⟩ ?_
      refine a_isub dX10_countOfWord_115 c1 ?_
      refine a_callVi (as := [vI (p1 - 100)]) (st := []) dX10_countOfWord_116 lk_L_213 sk_2 rfl rfl (Nat.le_of_ble_eq_true rfl) (Or.inr rfl) (Call.mono hy (fun r5 h4 _ hy => ?_))
      refine a_if_eq (tgt := 126) dX10_countOfWord_119 (by decide) (fun c => ?_) (fun c => ?_)
      · have hy := hy.1 c
        refine a_iconst (x := 0) dX10_countOfWord_126 rfl ⟨by decide, by decide⟩ ?_
        exact a_iret dX10_countOfWord_127 rfl hy
      · have hy := hy.2 (c)
        refine a_iconst (x := 1) dX10_countOfWord_122 rfl ⟨by decide, by decide⟩ ?_
        refine a_goto (tgt := 127) dX10_countOfWord_123 (by decide) ?_
        exact a_iret dX10_countOfWord_127 rfl hy
    · have hy := hy.2 (Decidable.not_not.mp c)
      refine a_iconst (x := (-1)) dX10_countOfWord_106 rfl ⟨by decide, by decide⟩ ?_
      exact a_iret dX10_countOfWord_107 rfl hy
theorem c_L_countOfWord {d : Nat} (d0 : Nat) (hd : d0 < d) {p1 : Int} {h : AH} {Q : Int → AH → Prop} (hy : ((p1 < 20 → A_L_countOfWord_43 d0 Q p1 h) ∧ (20 ≤ p1 → ((60 ≤ p1 → A_L_countOfWord_43 d0 Q p1 h) ∧ (p1 < 60 → (inI (p1 - 20) ∧ (Call d0 M_Words_has [vR 2 (-1), vI (p1 - 20)] h (fun r3 h2 => ((r3 = 0 → Q (-1) h2) ∧ (r3 ≠ 0 → (inb (p1 - 20) 40 ∧ Q (h2.1 15 (p1 - 20)) h2))))))))))) : Call d M_L_countOfWord [vR 0 (-1), vI p1] h Q := by
  refine ⟨d0, hd, Big.of rfl (Nat.le_of_ble_eq_true rfl) ?_⟩
  show AW d0 M_L_countOfWord Q 0 [some (vR 0 (-1)), some (vI p1)] [] h
  refine a_iload_n dX10_countOfWord_0 rfl ?_
  refine a_bipush (x := 20) dX10_countOfWord_1 (by decide) ⟨by decide, by decide⟩ ?_
  refine a_icmp_lt (tgt := 43) dX10_countOfWord_3 (by decide) (fun c => ?_) (fun c => ?_)
  · have hy := hy.1 c
    exact hy
  · have hy := hy.2 (Int.not_lt.mp c)
    refine a_iload_n dX10_countOfWord_6 rfl ?_
    refine a_bipush (x := 60) dX10_countOfWord_7 (by decide) ⟨by decide, by decide⟩ ?_
    refine a_icmp_ge (tgt := 43) dX10_countOfWord_9 (by decide) (fun c => ?_) (fun c => ?_)
    · have hy := hy.1 c
      exact hy
    · have hy := hy.2 (Int.not_le.mp c)
      refine a_aload_n dX10_countOfWord_12 rfl ?_
      refine a_getR dX10_countOfWord_13 fl_L_19 sk_0 rfl ?_
      refine a_iload_n dX10_countOfWord_16 rfl ?_
      refine a_bipush (x := 20) dX10_countOfWord_17 (by decide) ⟨by decide, by decide⟩ ?_
      obtain ⟨c1, hy⟩ := hy
      refine a_isub dX10_countOfWord_19 c1 ?_
      refine a_callVi (as := [vI (p1 - 20)]) (st := []) dX10_countOfWord_20 lk_L_134 sk_2 rfl rfl (Nat.le_of_ble_eq_true rfl) (Or.inr rfl) (Call.mono hy (fun r3 h2 _ hy => ?_))
      refine a_if_eq (tgt := 41) dX10_countOfWord_23 (by decide) (fun c => ?_) (fun c => ?_)
      · have hy := hy.1 c
        refine a_iconst (x := (-1)) dX10_countOfWord_41 rfl ⟨by decide, by decide⟩ ?_
        exact a_iret dX10_countOfWord_42 rfl hy
      · have hy := hy.2 (c)
        refine a_aload_n dX10_countOfWord_26 rfl ?_
        refine a_getR dX10_countOfWord_27 fl_L_19 sk_0 rfl ?_
        refine a_getR dX10_countOfWord_30 fl_L_335 sk_2 rfl ?_
        refine a_iload_n dX10_countOfWord_33 rfl ?_
        refine a_bipush (x := 20) dX10_countOfWord_34 (by decide) ⟨by decide, by decide⟩ ?_
        refine a_isub dX10_countOfWord_36 c1 ?_
        obtain ⟨c4, hy⟩ := hy
        refine a_iald' dX10_countOfWord_37 sk_15 c4 (rfl) ?_
        refine a_goto (tgt := 42) dX10_countOfWord_38 (by decide) ?_
        exact a_iret dX10_countOfWord_42 rfl hy
def A_L_draw_65 (d : Nat) (Q : Int → AH → Prop) (p2 : Int) (p3 : Int) (v4 : Int) (v5 : Int) (v7 : Int) (h : AH) : Prop := AW d M_L_draw Q 65 [some (vR 0 (-1)), none, some (vI p2), some (vI p3), some (vI v4), some (vL v5), none, some (vI v7)] [] h
theorem s_L_draw_65 {d : Nat} {Q : Int → AH → Prop} {p2 : Int} {p3 : Int} {v4 : Int} {v5 : Int} {v7 : Int} {h : AH} (hy : ((p2 ≤ v7 → ((p3 ≠ 0 → (Call d M_JLong_bitCount [vL v5] h (fun r2 h1 => Q r2 h1))) ∧ (p3 = 0 → Q v4 h))) ∧ (v7 < p2 → (inI (25173 * (h.1 0 10)) ∧ (inI ((25173 * (h.1 0 10)) + 13849) ∧ (Call d M_Steps_goneTo [vR 6 (-1), vI v4, vI (iand ((25173 * (h.1 0 10)) + 13849) 65535)] (wI h 0 10 (iand ((25173 * (h.1 0 10)) + 13849) 65535)) (fun r6 h5 => inI (v7 + 1) ∧ A_L_draw_65 d Q p2 p3 r6 (lor v5 (lshl 1 r6)) (v7 + 1) h5))))))) : A_L_draw_65 d Q p2 p3 v4 v5 v7 h := by
  show AW d M_L_draw Q 65 [some (vR 0 (-1)), none, some (vI p2), some (vI p3), some (vI v4), some (vL v5), none, some (vI v7)] [] h
  refine a_iload dX10_draw_65 rfl ?_
  refine a_iload_n dX10_draw_67 rfl ?_
  refine a_icmp_ge (tgt := 121) dX10_draw_68 (by decide) (fun c => ?_) (fun c => ?_)
  · have hy := hy.1 c
    refine a_iload_n dX10_draw_121 rfl ?_
    refine a_if_ne (tgt := 130) dX10_draw_122 (by decide) (fun c => ?_) (fun c => ?_)
    · have hy := hy.1 c
      refine a_lload dX10_draw_130 rfl ?_
      refine a_callSi (as := [vL v5]) (st := []) dX10_draw_132 lk_L_328 rfl rfl (Nat.le_of_ble_eq_true rfl) (Or.inl rfl) (Call.mono hy (fun r2 h1 _ hy => ?_))
      exact a_iret dX10_draw_135 rfl hy
    · have hy := hy.2 (Decidable.not_not.mp c)
      refine a_iload dX10_draw_125 rfl ?_
      refine a_goto (tgt := 135) dX10_draw_127 (by decide) ?_
      exact a_iret dX10_draw_135 rfl hy
  · have hy := hy.2 (Int.not_le.mp c)
    refine a_aload_n dX10_draw_71 rfl ?_
    refine a_sipush (x := 25173) dX10_draw_72 (by decide) ⟨by decide, by decide⟩ ?_
    refine a_aload_n dX10_draw_75 rfl ?_
    refine a_getI' (kz := 10) dX10_draw_76 fl_L_93 sk_0 rfl rfl (rfl) ?_
    obtain ⟨c3, hy⟩ := hy
    refine a_imul dX10_draw_79 c3 ?_
    refine a_sipush (x := 13849) dX10_draw_80 (by decide) ⟨by decide, by decide⟩ ?_
    obtain ⟨c4, hy⟩ := hy
    refine a_iadd dX10_draw_83 c4 ?_
    refine a_ldcw (x := 65535) dX10_draw_84 kc_L_324 ⟨by decide, by decide⟩ ?_
    refine a_iand dX10_draw_87 ?_
    refine a_putI (kz := 10) dX10_draw_88 fp_L_93 sk_0 rfl rfl ?_
    refine a_aload_n dX10_draw_91 rfl ?_
    refine a_getR dX10_draw_92 fl_L_44 sk_0 rfl ?_
    refine a_iload dX10_draw_95 rfl ?_
    refine a_aload_n dX10_draw_97 rfl ?_
    refine a_getI' (kz := 10) dX10_draw_98 fl_L_93 sk_0 rfl rfl (rI_eq) ?_
    refine a_callVi (as := [vI v4, vI (iand ((25173 * (h.1 0 10)) + 13849) 65535)]) (st := []) dX10_draw_101 lk_L_325 sk_6 rfl rfl (Nat.le_of_ble_eq_true rfl) (Or.inl rfl) (Call.mono hy (fun r6 h5 _ hy => ?_))
    refine a_istore (ls2 := [some (vR 0 (-1)), none, some (vI p2), some (vI p3), some (vI r6), some (vL v5), none, some (vI v7)]) dX10_draw_104 (Nat.le_of_ble_eq_true rfl) rfl ?_
    refine a_lload dX10_draw_106 rfl ?_
    refine a_lconst (x := 1) dX10_draw_108 rfl ⟨by decide, by decide⟩ ?_
    refine a_iload dX10_draw_109 rfl ?_
    refine a_lshl dX10_draw_111 ?_
    refine a_lor dX10_draw_112 ?_
    refine a_lstore (ls2 := [some (vR 0 (-1)), none, some (vI p2), some (vI p3), some (vI r6), some (vL (lor v5 (lshl 1 r6))), none, some (vI v7)]) dX10_draw_113 (Nat.le_of_ble_eq_true rfl) rfl ?_
    obtain ⟨c7, hy⟩ := hy
    refine a_iinc (y := v7 + 1) (ls2 := [some (vR 0 (-1)), none, some (vI p2), some (vI p3), some (vI r6), some (vL (lor v5 (lshl 1 r6))), none, some (vI (v7 + 1))]) dX10_draw_115 rfl rfl c7 rfl ?_
    refine a_goto (tgt := 65) dX10_draw_118 (by decide) ?_
    exact hy
theorem c_L_draw {d : Nat} (d0 : Nat) (hd : d0 < d) {p1 : Int} {p2 : Int} {p3 : Int} {h : AH} {Q : Int → AH → Prop} (hy : Call d0 M_Words_has [vR 2 (-1), vI p1] h (fun r2 h1 => ((r2 = 0 → Q (-1) h1) ∧ (r2 ≠ 0 → ((p2 < 1 → Q (-1) h1) ∧ (1 ≤ p2 → ((60 < p2 → Q (-1) h1) ∧ (p2 ≤ 60 → ((p3 < 0 → Q (-1) h1) ∧ (0 ≤ p3 → ((p3 ≤ 1 → (Call d0 M_Words_isUsed [vR 2 (-1), vI p1] h1 (fun r4 h3 => ((r4 ≠ 0 → (Call d0 M_Steps_refresh [vR 6 (-1)] h3 (fun _ h5 => A_L_draw_65 d0 Q p2 p3 p1 (lshl 1 p1) 0 h5))) ∧ (r4 = 0 → Q (-2) h3))))) ∧ (1 < p3 → Q (-1) h1)))))))))))) : Call d M_L_draw [vR 0 (-1), vI p1, vI p2, vI p3] h Q := by
  refine ⟨d0, hd, Big.of rfl (Nat.le_of_ble_eq_true rfl) ?_⟩
  show AW d0 M_L_draw Q 0 [some (vR 0 (-1)), some (vI p1), some (vI p2), some (vI p3), none, none, none, none] [] h
  refine a_aload_n dX10_draw_0 rfl ?_
  refine a_getR dX10_draw_1 fl_L_19 sk_0 rfl ?_
  refine a_iload_n dX10_draw_4 rfl ?_
  refine a_callVi (as := [vI p1]) (st := []) dX10_draw_5 lk_L_134 sk_2 rfl rfl (Nat.le_of_ble_eq_true rfl) (Or.inr rfl) (Call.mono hy (fun r2 h1 _ hy => ?_))
  refine a_if_eq (tgt := 31) dX10_draw_8 (by decide) (fun c => ?_) (fun c => ?_)
  · have hy := hy.1 c
    refine a_iconst (x := (-1)) dX10_draw_31 rfl ⟨by decide, by decide⟩ ?_
    exact a_iret dX10_draw_32 rfl hy
  · have hy := hy.2 (c)
    refine a_iload_n dX10_draw_11 rfl ?_
    refine a_iconst (x := 1) dX10_draw_12 rfl ⟨by decide, by decide⟩ ?_
    refine a_icmp_lt (tgt := 31) dX10_draw_13 (by decide) (fun c => ?_) (fun c => ?_)
    · have hy := hy.1 c
      refine a_iconst (x := (-1)) dX10_draw_31 rfl ⟨by decide, by decide⟩ ?_
      exact a_iret dX10_draw_32 rfl hy
    · have hy := hy.2 (Int.not_lt.mp c)
      refine a_iload_n dX10_draw_16 rfl ?_
      refine a_bipush (x := 60) dX10_draw_17 (by decide) ⟨by decide, by decide⟩ ?_
      refine a_icmp_gt (tgt := 31) dX10_draw_19 (by decide) (fun c => ?_) (fun c => ?_)
      · have hy := hy.1 c
        refine a_iconst (x := (-1)) dX10_draw_31 rfl ⟨by decide, by decide⟩ ?_
        exact a_iret dX10_draw_32 rfl hy
      · have hy := hy.2 (Int.not_lt.mp c)
        refine a_iload_n dX10_draw_22 rfl ?_
        refine a_if_lt (tgt := 31) dX10_draw_23 (by decide) (fun c => ?_) (fun c => ?_)
        · have hy := hy.1 c
          refine a_iconst (x := (-1)) dX10_draw_31 rfl ⟨by decide, by decide⟩ ?_
          exact a_iret dX10_draw_32 rfl hy
        · have hy := hy.2 (Int.not_lt.mp c)
          refine a_iload_n dX10_draw_26 rfl ?_
          refine a_iconst (x := 1) dX10_draw_27 rfl ⟨by decide, by decide⟩ ?_
          refine a_icmp_le (tgt := 33) dX10_draw_28 (by decide) (fun c => ?_) (fun c => ?_)
          · have hy := hy.1 c
            refine a_aload_n dX10_draw_33 rfl ?_
            refine a_getR dX10_draw_34 fl_L_19 sk_0 rfl ?_
            refine a_iload_n dX10_draw_37 rfl ?_
            refine a_callVi (as := [vI p1]) (st := []) dX10_draw_38 lk_L_213 sk_2 rfl rfl (Nat.le_of_ble_eq_true rfl) (Or.inr rfl) (Call.mono hy (fun r4 h3 _ hy => ?_))
            refine a_if_ne (tgt := 47) dX10_draw_41 (by decide) (fun c => ?_) (fun c => ?_)
            · have hy := hy.1 c
              refine a_aload_n dX10_draw_47 rfl ?_
              refine a_getR dX10_draw_48 fl_L_44 sk_0 rfl ?_
              refine a_callVv (as := []) (st := []) dX10_draw_51 lk_L_171 sk_6 rfl rfl (Nat.le_of_ble_eq_true rfl) rfl (Call.mono hy (fun _ h5 _ hy => ?_))
              refine a_iload_n dX10_draw_54 rfl ?_
              refine a_istore (ls2 := [some (vR 0 (-1)), some (vI p1), some (vI p2), some (vI p3), some (vI p1), none, none, none]) dX10_draw_55 (Nat.le_of_ble_eq_true rfl) rfl ?_
              refine a_lconst (x := 1) dX10_draw_57 rfl ⟨by decide, by decide⟩ ?_
              refine a_iload_n dX10_draw_58 rfl ?_
              refine a_lshl dX10_draw_59 ?_
              refine a_lstore (ls2 := [some (vR 0 (-1)), some (vI p1), some (vI p2), some (vI p3), some (vI p1), some (vL (lshl 1 p1)), none, none]) dX10_draw_60 (Nat.le_of_ble_eq_true rfl) rfl ?_
              refine a_iconst (x := 0) dX10_draw_62 rfl ⟨by decide, by decide⟩ ?_
              refine a_istore (ls2 := [some (vR 0 (-1)), some (vI p1), some (vI p2), some (vI p3), some (vI p1), some (vL (lshl 1 p1)), none, some (vI 0)]) dX10_draw_63 (Nat.le_of_ble_eq_true rfl) rfl ?_
              refine a_mask [true, false, true, true, true, true, true, true] (ls2 := [some (vR 0 (-1)), none, some (vI p2), some (vI p3), some (vI p1), some (vL (lshl 1 p1)), none, some (vI 0)]) rfl rfl ?_
              exact hy
            · have hy := hy.2 (Decidable.not_not.mp c)
              refine a_bipush (x := (-2)) dX10_draw_44 (by decide) ⟨by decide, by decide⟩ ?_
              exact a_iret dX10_draw_46 rfl hy
          · have hy := hy.2 (Int.not_le.mp c)
            refine a_iconst (x := (-1)) dX10_draw_31 rfl ⟨by decide, by decide⟩ ?_
            exact a_iret dX10_draw_32 rfl hy
theorem c_L_far {d : Nat} (d0 : Nat) (hd : d0 < d) {p1 : Int} {h : AH} {Q : Int → AH → Prop} (hy : ((p1 < 0 → Q (-1) h) ∧ (0 ≤ p1 → ((p1 ≤ 2 → (Call d0 M_Steps_refresh [vR 6 (-1)] h (fun _ h1 => Call d0 M_Ways_refresh [vR 7 (-1)] h1 (fun _ h2 => (((h2.1 7 9) ≠ (-1) → ((p1 ≠ 0 → ((p1 ≠ 1 → Q (h2.1 7 10) h2) ∧ (p1 = 1 → Q (h2.1 7 9) h2))) ∧ (p1 = 0 → Q (h2.1 7 11) h2))) ∧ ((h2.1 7 9) = (-1) → Q (-2) h2)))))) ∧ (2 < p1 → Q (-1) h))))) : Call d M_L_far [vR 0 (-1), vI p1] h Q := by
  refine ⟨d0, hd, Big.of rfl (Nat.le_of_ble_eq_true rfl) ?_⟩
  show AW d0 M_L_far Q 0 [some (vR 0 (-1)), some (vI p1)] [] h
  refine a_iload_n dX10_far_0 rfl ?_
  refine a_if_lt (tgt := 9) dX10_far_1 (by decide) (fun c => ?_) (fun c => ?_)
  · have hy := hy.1 c
    refine a_iconst (x := (-1)) dX10_far_9 rfl ⟨by decide, by decide⟩ ?_
    exact a_iret dX10_far_10 rfl hy
  · have hy := hy.2 (Int.not_lt.mp c)
    refine a_iload_n dX10_far_4 rfl ?_
    refine a_iconst (x := 2) dX10_far_5 rfl ⟨by decide, by decide⟩ ?_
    refine a_icmp_le (tgt := 11) dX10_far_6 (by decide) (fun c => ?_) (fun c => ?_)
    · have hy := hy.1 c
      refine a_aload_n dX10_far_11 rfl ?_
      refine a_getR dX10_far_12 fl_L_44 sk_0 rfl ?_
      refine a_callVv (as := []) (st := []) dX10_far_15 lk_L_171 sk_6 rfl rfl (Nat.le_of_ble_eq_true rfl) rfl (Call.mono hy (fun _ h1 _ hy => ?_))
      refine a_aload_n dX10_far_18 rfl ?_
      refine a_getR dX10_far_19 fl_L_53 sk_0 rfl ?_
      refine a_callVv (as := []) (st := []) dX10_far_22 lk_L_184 sk_7 rfl rfl (Nat.le_of_ble_eq_true rfl) rfl (Call.mono hy (fun _ h2 _ hy => ?_))
      refine a_aload_n dX10_far_25 rfl ?_
      refine a_getR dX10_far_26 fl_L_53 sk_0 rfl ?_
      refine a_getI' (kz := 9) dX10_far_29 fl_L_223 sk_7 rfl rfl (rfl) ?_
      refine a_iconst (x := (-1)) dX10_far_32 rfl ⟨by decide, by decide⟩ ?_
      refine a_icmp_ne (tgt := 39) dX10_far_33 (by decide) (fun c => ?_) (fun c => ?_)
      · have hy := hy.1 c
        refine a_iload_n dX10_far_39 rfl ?_
        refine a_if_ne (tgt := 51) dX10_far_40 (by decide) (fun c => ?_) (fun c => ?_)
        · have hy := hy.1 c
          refine a_iload_n dX10_far_51 rfl ?_
          refine a_iconst (x := 1) dX10_far_52 rfl ⟨by decide, by decide⟩ ?_
          refine a_icmp_ne (tgt := 66) dX10_far_53 (by decide) (fun c => ?_) (fun c => ?_)
          · have hy := hy.1 c
            refine a_aload_n dX10_far_66 rfl ?_
            refine a_getR dX10_far_67 fl_L_53 sk_0 rfl ?_
            refine a_getI' (kz := 10) dX10_far_70 fl_L_229 sk_7 rfl rfl (rfl) ?_
            exact a_iret dX10_far_73 rfl hy
          · have hy := hy.2 (Decidable.not_not.mp c)
            refine a_aload_n dX10_far_56 rfl ?_
            refine a_getR dX10_far_57 fl_L_53 sk_0 rfl ?_
            refine a_getI' (kz := 9) dX10_far_60 fl_L_223 sk_7 rfl rfl (rfl) ?_
            refine a_goto (tgt := 73) dX10_far_63 (by decide) ?_
            exact a_iret dX10_far_73 rfl hy
        · have hy := hy.2 (Decidable.not_not.mp c)
          refine a_aload_n dX10_far_43 rfl ?_
          refine a_getR dX10_far_44 fl_L_53 sk_0 rfl ?_
          refine a_getI' (kz := 11) dX10_far_47 fl_L_226 sk_7 rfl rfl (rfl) ?_
          exact a_iret dX10_far_50 rfl hy
      · have hy := hy.2 (Decidable.not_not.mp c)
        refine a_bipush (x := (-2)) dX10_far_36 (by decide) ⟨by decide, by decide⟩ ?_
        exact a_iret dX10_far_38 rfl hy
    · have hy := hy.2 (Int.not_le.mp c)
      refine a_iconst (x := (-1)) dX10_far_9 rfl ⟨by decide, by decide⟩ ?_
      exact a_iret dX10_far_10 rfl hy
theorem c_L_farBy {d : Nat} (d0 : Nat) (hd : d0 < d) {p1 : Int} {p2 : Int} {h : AH} {Q : Int → AH → Prop} (hy : Call d0 M_L_areWords [vR 0 (-1), vI p1, vI p2] h (fun r2 h1 => ((r2 = 0 → Q (-1) h1) ∧ (r2 ≠ 0 → (Call d0 M_Spelling_apart [vR 9 (-1), vI p1, vI p2] h1 (fun r4 h3 => Q r4 h3)))))) : Call d M_L_farBy [vR 0 (-1), vI p1, vI p2] h Q := by
  refine ⟨d0, hd, Big.of rfl (Nat.le_of_ble_eq_true rfl) ?_⟩
  show AW d0 M_L_farBy Q 0 [some (vR 0 (-1)), some (vI p1), some (vI p2)] [] h
  refine a_aload_n dX10_farBy_0 rfl ?_
  refine a_iload_n dX10_farBy_1 rfl ?_
  refine a_iload_n dX10_farBy_2 rfl ?_
  refine a_callVi (as := [vI p1, vI p2]) (st := []) dX10_farBy_3 lk_L_167 sk_0 rfl rfl (Nat.le_of_ble_eq_true rfl) (Or.inr rfl) (Call.mono hy (fun r2 h1 _ hy => ?_))
  refine a_if_eq (tgt := 21) dX10_farBy_6 (by decide) (fun c => ?_) (fun c => ?_)
  · have hy := hy.1 c
    refine a_iconst (x := (-1)) dX10_farBy_21 rfl ⟨by decide, by decide⟩ ?_
    exact a_iret dX10_farBy_22 rfl hy
  · have hy := hy.2 (c)
    refine a_aload_n dX10_farBy_9 rfl ?_
    refine a_getR dX10_farBy_10 fl_L_71 sk_0 rfl ?_
    refine a_iload_n dX10_farBy_13 rfl ?_
    refine a_iload_n dX10_farBy_14 rfl ?_
    refine a_callVi (as := [vI p1, vI p2]) (st := []) dX10_farBy_15 lk_L_286 sk_9 rfl rfl (Nat.le_of_ble_eq_true rfl) (Or.inl rfl) (Call.mono hy (fun r4 h3 _ hy => ?_))
    refine a_goto (tgt := 22) dX10_farBy_18 (by decide) ?_
    exact a_iret dX10_farBy_22 rfl hy
theorem c_L_feed {d : Nat} (d0 : Nat) (hd : d0 < d) {p1 : Int} {p2 : Int} {p3 : Int} {p4 : Int} {p5 : Int} {h : AH} {Q : Int → AH → Prop} (hy : Call d0 M_Tape_hasRoom [vR 1 (-1)] h (fun r2 h1 => ((r2 ≠ 0 → (Call d0 M_Tape_putNumber [vR 1 (-1), vI p1] h1 (fun _ h3 => Call d0 M_Tape_putNumber [vR 1 (-1), vI p2] h3 (fun _ h4 => Call d0 M_Tape_putNumber [vR 1 (-1), vI p3] h4 (fun _ h5 => Call d0 M_Tape_putNumber [vR 1 (-1), vI p4] h5 (fun _ h6 => Call d0 M_Tape_putNumber [vR 1 (-1), vI p5] h6 (fun _ h7 => Q (h7.1 1 1) h7))))))) ∧ (r2 = 0 → Q (-1) h1)))) : Call d M_L_feed [vR 0 (-1), vI p1, vI p2, vI p3, vI p4, vI p5] h Q := by
  refine ⟨d0, hd, Big.of rfl (Nat.le_of_ble_eq_true rfl) ?_⟩
  show AW d0 M_L_feed Q 0 [some (vR 0 (-1)), some (vI p1), some (vI p2), some (vI p3), some (vI p4), some (vI p5)] [] h
  refine a_aload_n dX10_feed_0 rfl ?_
  refine a_getR dX10_feed_1 fl_L_10 sk_0 rfl ?_
  refine a_callVi (as := []) (st := []) dX10_feed_4 lk_L_97 sk_1 rfl rfl (Nat.le_of_ble_eq_true rfl) (Or.inr rfl) (Call.mono hy (fun r2 h1 _ hy => ?_))
  refine a_if_ne (tgt := 12) dX10_feed_7 (by decide) (fun c => ?_) (fun c => ?_)
  · have hy := hy.1 c
    refine a_aload_n dX10_feed_12 rfl ?_
    refine a_getR dX10_feed_13 fl_L_10 sk_0 rfl ?_
    refine a_iload_n dX10_feed_16 rfl ?_
    refine a_callVv (as := [vI p1]) (st := []) dX10_feed_17 lk_L_101 sk_1 rfl rfl (Nat.le_of_ble_eq_true rfl) rfl (Call.mono hy (fun _ h3 _ hy => ?_))
    refine a_aload_n dX10_feed_20 rfl ?_
    refine a_getR dX10_feed_21 fl_L_10 sk_0 rfl ?_
    refine a_iload_n dX10_feed_24 rfl ?_
    refine a_callVv (as := [vI p2]) (st := []) dX10_feed_25 lk_L_101 sk_1 rfl rfl (Nat.le_of_ble_eq_true rfl) rfl (Call.mono hy (fun _ h4 _ hy => ?_))
    refine a_aload_n dX10_feed_28 rfl ?_
    refine a_getR dX10_feed_29 fl_L_10 sk_0 rfl ?_
    refine a_iload_n dX10_feed_32 rfl ?_
    refine a_callVv (as := [vI p3]) (st := []) dX10_feed_33 lk_L_101 sk_1 rfl rfl (Nat.le_of_ble_eq_true rfl) rfl (Call.mono hy (fun _ h5 _ hy => ?_))
    refine a_aload_n dX10_feed_36 rfl ?_
    refine a_getR dX10_feed_37 fl_L_10 sk_0 rfl ?_
    refine a_iload dX10_feed_40 rfl ?_
    refine a_callVv (as := [vI p4]) (st := []) dX10_feed_42 lk_L_101 sk_1 rfl rfl (Nat.le_of_ble_eq_true rfl) rfl (Call.mono hy (fun _ h6 _ hy => ?_))
    refine a_aload_n dX10_feed_45 rfl ?_
    refine a_getR dX10_feed_46 fl_L_10 sk_0 rfl ?_
    refine a_iload dX10_feed_49 rfl ?_
    refine a_callVv (as := [vI p5]) (st := []) dX10_feed_51 lk_L_101 sk_1 rfl rfl (Nat.le_of_ble_eq_true rfl) rfl (Call.mono hy (fun _ h7 _ hy => ?_))
    refine a_aload_n dX10_feed_54 rfl ?_
    refine a_getR dX10_feed_55 fl_L_10 sk_0 rfl ?_
    refine a_getI' (kz := 1) dX10_feed_58 fl_L_105 sk_1 rfl rfl (rfl) ?_
    exact a_iret dX10_feed_61 rfl hy
  · have hy := hy.2 (Decidable.not_not.mp c)
    refine a_iconst (x := (-1)) dX10_feed_10 rfl ⟨by decide, by decide⟩ ?_
    exact a_iret dX10_feed_11 rfl hy
theorem c_L_game {d : Nat} (d0 : Nat) (hd : d0 < d) {p1 : Int} {p2 : Int} {h : AH} {Q : Int → AH → Prop} (hy : ((p1 < 2 → Q (-1) h) ∧ (2 ≤ p1 → ((12 < p1 → Q (-1) h) ∧ (p1 ≤ 12 → ((p2 < 0 → Q (-1) h) ∧ (0 ≤ p2 → ((1 < p2 → Q (-1) h) ∧ (p2 ≤ 1 → (Call d0 M_Tape_take [vR 1 (-1), vI p1] h (fun r2 h1 => ((r2 ≠ 0 → (Call d0 M_Told_readWords [vR 10 (-1), vI p1] h1 (fun r4 h3 => ((r4 = 0 → Q (-3) h3) ∧ (r4 ≠ 0 → (Call d0 M_Told_areUsed [vR 10 (-1)] h3 (fun r6 h5 => ((r6 ≠ 0 → (Call d0 M_Steps_refresh [vR 6 (-1)] h5 (fun _ h7 => Call d0 M_Told_winningWord [vR 10 (-1)] h7 (fun r9 h8 => ((p2 ≠ 1 → ((r9 ≠ (-1) → Q 1 h8) ∧ (r9 = (-1) → Q 0 h8))) ∧ (p2 = 1 → ((r9 ≠ (-1) → Q r9 h8) ∧ (r9 = (-1) → Q (-2) h8)))))))) ∧ (r6 = 0 → Q (-3) h5))))))))) ∧ (r2 = 0 → Q (-1) h1))))))))))))) : Call d M_L_game [vR 0 (-1), vI p1, vI p2] h Q := by
  refine ⟨d0, hd, Big.of rfl (Nat.le_of_ble_eq_true rfl) ?_⟩
  show AW d0 M_L_game Q 0 [some (vR 0 (-1)), some (vI p1), some (vI p2), none] [] h
  refine a_iload_n dX10_game_0 rfl ?_
  refine a_iconst (x := 2) dX10_game_1 rfl ⟨by decide, by decide⟩ ?_
  refine a_icmp_lt (tgt := 31) dX10_game_2 (by decide) (fun c => ?_) (fun c => ?_)
  · have hy := hy.1 c
    refine a_iconst (x := (-1)) dX10_game_31 rfl ⟨by decide, by decide⟩ ?_
    exact a_iret dX10_game_32 rfl hy
  · have hy := hy.2 (Int.not_lt.mp c)
    refine a_iload_n dX10_game_5 rfl ?_
    refine a_bipush (x := 12) dX10_game_6 (by decide) ⟨by decide, by decide⟩ ?_
    refine a_icmp_gt (tgt := 31) dX10_game_8 (by decide) (fun c => ?_) (fun c => ?_)
    · have hy := hy.1 c
      refine a_iconst (x := (-1)) dX10_game_31 rfl ⟨by decide, by decide⟩ ?_
      exact a_iret dX10_game_32 rfl hy
    · have hy := hy.2 (Int.not_lt.mp c)
      refine a_iload_n dX10_game_11 rfl ?_
      refine a_if_lt (tgt := 31) dX10_game_12 (by decide) (fun c => ?_) (fun c => ?_)
      · have hy := hy.1 c
        refine a_iconst (x := (-1)) dX10_game_31 rfl ⟨by decide, by decide⟩ ?_
        exact a_iret dX10_game_32 rfl hy
      · have hy := hy.2 (Int.not_lt.mp c)
        refine a_iload_n dX10_game_15 rfl ?_
        refine a_iconst (x := 1) dX10_game_16 rfl ⟨by decide, by decide⟩ ?_
        refine a_icmp_gt (tgt := 31) dX10_game_17 (by decide) (fun c => ?_) (fun c => ?_)
        · have hy := hy.1 c
          refine a_iconst (x := (-1)) dX10_game_31 rfl ⟨by decide, by decide⟩ ?_
          exact a_iret dX10_game_32 rfl hy
        · have hy := hy.2 (Int.not_lt.mp c)
          refine a_aload_n dX10_game_20 rfl ?_
          refine a_getR dX10_game_21 fl_L_10 sk_0 rfl ?_
          refine a_iload_n dX10_game_24 rfl ?_
          refine a_callVi (as := [vI p1]) (st := []) dX10_game_25 lk_L_113 sk_1 rfl rfl (Nat.le_of_ble_eq_true rfl) (Or.inr rfl) (Call.mono hy (fun r2 h1 _ hy => ?_))
          refine a_if_ne (tgt := 33) dX10_game_28 (by decide) (fun c => ?_) (fun c => ?_)
          · have hy := hy.1 c
            refine a_aload_n dX10_game_33 rfl ?_
            refine a_getR dX10_game_34 fl_L_80 sk_0 rfl ?_
            refine a_iload_n dX10_game_37 rfl ?_
            refine a_callVi (as := [vI p1]) (st := []) dX10_game_38 lk_L_267 sk_10 rfl rfl (Nat.le_of_ble_eq_true rfl) (Or.inr rfl) (Call.mono hy (fun r4 h3 _ hy => ?_))
            refine a_if_eq (tgt := 54) dX10_game_41 (by decide) (fun c => ?_) (fun c => ?_)
            · have hy := hy.1 c
              refine a_bipush (x := (-3)) dX10_game_54 (by decide) ⟨by decide, by decide⟩ ?_
              exact a_iret dX10_game_56 rfl hy
            · have hy := hy.2 (c)
              refine a_aload_n dX10_game_44 rfl ?_
              refine a_getR dX10_game_45 fl_L_80 sk_0 rfl ?_
              refine a_callVi (as := []) (st := []) dX10_game_48 lk_L_270 sk_10 rfl rfl (Nat.le_of_ble_eq_true rfl) (Or.inr rfl) (Call.mono hy (fun r6 h5 _ hy => ?_))
              refine a_if_ne (tgt := 57) dX10_game_51 (by decide) (fun c => ?_) (fun c => ?_)
              · have hy := hy.1 c
                refine a_aload_n dX10_game_57 rfl ?_
                refine a_getR dX10_game_58 fl_L_44 sk_0 rfl ?_
                refine a_callVv (as := []) (st := []) dX10_game_61 lk_L_171 sk_6 rfl rfl (Nat.le_of_ble_eq_true rfl) rfl (Call.mono hy (fun _ h7 _ hy => ?_))
                refine a_aload_n dX10_game_64 rfl ?_
                refine a_getR dX10_game_65 fl_L_80 sk_0 rfl ?_
                refine a_callVi (as := []) (st := []) dX10_game_68 lk_L_282 sk_10 rfl rfl (Nat.le_of_ble_eq_true rfl) (Or.inl rfl) (Call.mono hy (fun r9 h8 _ hy => ?_))
                refine a_istore_n (i := 3) (ls2 := [some (vR 0 (-1)), some (vI p1), some (vI p2), some (vI r9)]) dX10_game_71 rfl (Nat.le_of_ble_eq_true rfl) rfl ?_
                refine a_iload_n dX10_game_72 rfl ?_
                refine a_iconst (x := 1) dX10_game_73 rfl ⟨by decide, by decide⟩ ?_
                refine a_icmp_ne (tgt := 89) dX10_game_74 (by decide) (fun c => ?_) (fun c => ?_)
                · have hy := hy.1 c
                  refine a_iload_n dX10_game_89 rfl ?_
                  refine a_iconst (x := (-1)) dX10_game_90 rfl ⟨by decide, by decide⟩ ?_
                  refine a_icmp_ne (tgt := 98) dX10_game_91 (by decide) (fun c => ?_) (fun c => ?_)
                  · have hy := hy.1 c
                    refine a_iconst (x := 1) dX10_game_98 rfl ⟨by decide, by decide⟩ ?_
                    exact a_iret dX10_game_99 rfl hy
                  · have hy := hy.2 (Decidable.not_not.mp c)
                    refine a_iconst (x := 0) dX10_game_94 rfl ⟨by decide, by decide⟩ ?_
                    refine a_goto (tgt := 99) dX10_game_95 (by decide) ?_
                    exact a_iret dX10_game_99 rfl hy
                · have hy := hy.2 (Decidable.not_not.mp c)
                  refine a_iload_n dX10_game_77 rfl ?_
                  refine a_iconst (x := (-1)) dX10_game_78 rfl ⟨by decide, by decide⟩ ?_
                  refine a_icmp_ne (tgt := 87) dX10_game_79 (by decide) (fun c => ?_) (fun c => ?_)
                  · have hy := hy.1 c
                    refine a_iload_n dX10_game_87 rfl ?_
                    exact a_iret dX10_game_88 rfl hy
                  · have hy := hy.2 (Decidable.not_not.mp c)
                    refine a_bipush (x := (-2)) dX10_game_82 (by decide) ⟨by decide, by decide⟩ ?_
                    refine a_goto (tgt := 88) dX10_game_84 (by decide) ?_
                    exact a_iret dX10_game_88 rfl hy
              · have hy := hy.2 (Decidable.not_not.mp c)
                refine a_bipush (x := (-3)) dX10_game_54 (by decide) ⟨by decide, by decide⟩ ?_
                exact a_iret dX10_game_56 rfl hy
          · have hy := hy.2 (Decidable.not_not.mp c)
            refine a_iconst (x := (-1)) dX10_game_31 rfl ⟨by decide, by decide⟩ ?_
            exact a_iret dX10_game_32 rfl hy
theorem c_L_heap {d : Nat} (d0 : Nat) (hd : d0 < d) {p1 : Int} {h : AH} {Q : Int → AH → Prop} (hy : Call d0 M_Words_has [vR 2 (-1), vI p1] h (fun r2 h1 => ((r2 ≠ 0 → (Call d0 M_Words_isUsed [vR 2 (-1), vI p1] h1 (fun r4 h3 => ((r4 ≠ 0 → (Call d0 M_Steps_refresh [vR 6 (-1)] h3 (fun _ h5 => Call d0 M_Ways_refreshReach [vR 7 (-1)] h5 (fun _ h6 => inb p1 40 ∧ Q (h6.1 38 p1) h6)))) ∧ (r4 = 0 → Q (-2) h3))))) ∧ (r2 = 0 → Q (-1) h1)))) : Call d M_L_heap [vR 0 (-1), vI p1] h Q := by
  refine ⟨d0, hd, Big.of rfl (Nat.le_of_ble_eq_true rfl) ?_⟩
  show AW d0 M_L_heap Q 0 [some (vR 0 (-1)), some (vI p1)] [] h
  refine a_aload_n dX10_heap_0 rfl ?_
  refine a_getR dX10_heap_1 fl_L_19 sk_0 rfl ?_
  refine a_iload_n dX10_heap_4 rfl ?_
  refine a_callVi (as := [vI p1]) (st := []) dX10_heap_5 lk_L_134 sk_2 rfl rfl (Nat.le_of_ble_eq_true rfl) (Or.inr rfl) (Call.mono hy (fun r2 h1 _ hy => ?_))
  refine a_if_ne (tgt := 13) dX10_heap_8 (by decide) (fun c => ?_) (fun c => ?_)
  · have hy := hy.1 c
    refine a_aload_n dX10_heap_13 rfl ?_
    refine a_getR dX10_heap_14 fl_L_19 sk_0 rfl ?_
    refine a_iload_n dX10_heap_17 rfl ?_
    refine a_callVi (as := [vI p1]) (st := []) dX10_heap_18 lk_L_213 sk_2 rfl rfl (Nat.le_of_ble_eq_true rfl) (Or.inr rfl) (Call.mono hy (fun r4 h3 _ hy => ?_))
    refine a_if_ne (tgt := 27) dX10_heap_21 (by decide) (fun c => ?_) (fun c => ?_)
    · have hy := hy.1 c
      refine a_aload_n dX10_heap_27 rfl ?_
      refine a_getR dX10_heap_28 fl_L_44 sk_0 rfl ?_
      refine a_callVv (as := []) (st := []) dX10_heap_31 lk_L_171 sk_6 rfl rfl (Nat.le_of_ble_eq_true rfl) rfl (Call.mono hy (fun _ h5 _ hy => ?_))
      refine a_aload_n dX10_heap_34 rfl ?_
      refine a_getR dX10_heap_35 fl_L_53 sk_0 rfl ?_
      refine a_callVv (as := []) (st := []) dX10_heap_38 lk_L_202 sk_7 rfl rfl (Nat.le_of_ble_eq_true rfl) rfl (Call.mono hy (fun _ h6 _ hy => ?_))
      refine a_aload_n dX10_heap_41 rfl ?_
      refine a_getR dX10_heap_42 fl_L_53 sk_0 rfl ?_
      refine a_getR dX10_heap_45 fl_L_216 sk_7 rfl ?_
      refine a_iload_n dX10_heap_48 rfl ?_
      obtain ⟨c7, hy⟩ := hy
      refine a_iald' dX10_heap_49 sk_38 c7 (rfl) ?_
      exact a_iret dX10_heap_50 rfl hy
    · have hy := hy.2 (Decidable.not_not.mp c)
      refine a_bipush (x := (-2)) dX10_heap_24 (by decide) ⟨by decide, by decide⟩ ?_
      exact a_iret dX10_heap_26 rfl hy
  · have hy := hy.2 (Decidable.not_not.mp c)
    refine a_iconst (x := (-1)) dX10_heap_11 rfl ⟨by decide, by decide⟩ ?_
    exact a_iret dX10_heap_12 rfl hy
theorem c_L_heaps {d : Nat} (d0 : Nat) (hd : d0 < d)  {h : AH} {Q : Int → AH → Prop} (hy : Call d0 M_Steps_refresh [vR 6 (-1)] h (fun _ h1 => Call d0 M_Ways_refreshReach [vR 7 (-1)] h1 (fun _ h2 => Q (h2.1 7 8) h2))) : Call d M_L_heaps [vR 0 (-1)] h Q := by
  refine ⟨d0, hd, Big.of rfl (Nat.le_of_ble_eq_true rfl) ?_⟩
  show AW d0 M_L_heaps Q 0 [some (vR 0 (-1))] [] h
  refine a_aload_n dX10_heaps_0 rfl ?_
  refine a_getR dX10_heaps_1 fl_L_44 sk_0 rfl ?_
  refine a_callVv (as := []) (st := []) dX10_heaps_4 lk_L_171 sk_6 rfl rfl (Nat.le_of_ble_eq_true rfl) rfl (Call.mono hy (fun _ h1 _ hy => ?_))
  refine a_aload_n dX10_heaps_7 rfl ?_
  refine a_getR dX10_heaps_8 fl_L_53 sk_0 rfl ?_
  refine a_callVv (as := []) (st := []) dX10_heaps_11 lk_L_202 sk_7 rfl rfl (Nat.le_of_ble_eq_true rfl) rfl (Call.mono hy (fun _ h2 _ hy => ?_))
  refine a_aload_n dX10_heaps_14 rfl ?_
  refine a_getR dX10_heaps_15 fl_L_53 sk_0 rfl ?_
  refine a_getI' (kz := 8) dX10_heaps_18 fl_L_220 sk_7 rfl rfl (rfl) ?_
  exact a_iret dX10_heaps_21 rfl hy
theorem c_L_howMany {d : Nat} (d0 : Nat) (hd : d0 < d) {p1 : Int} {p2 : Int} {h : AH} {Q : Int → AH → Prop} (hy : Call d0 M_L_areWords [vR 0 (-1), vI p1, vI p2] h (fun r2 h1 => ((r2 ≠ 0 → (Call d0 M_Steps_refresh [vR 6 (-1)] h1 (fun _ h3 => Call d0 M_Ways_refresh [vR 7 (-1)] h3 (fun _ h4 => Call d0 M_Ways_isWay [vR 7 (-1), vI p1, vI p2] h4 (fun r6 h5 => ((r6 = 0 → Q 0 h5) ∧ (r6 ≠ 0 → (Call d0 M_Ways_countLeast [vR 7 (-1), vI p1, vI p2] h5 (fun r8 h7 => Q r8 h7))))))))) ∧ (r2 = 0 → Q (-1) h1)))) : Call d M_L_howMany [vR 0 (-1), vI p1, vI p2] h Q := by
  refine ⟨d0, hd, Big.of rfl (Nat.le_of_ble_eq_true rfl) ?_⟩
  show AW d0 M_L_howMany Q 0 [some (vR 0 (-1)), some (vI p1), some (vI p2)] [] h
  refine a_aload_n dX10_howMany_0 rfl ?_
  refine a_iload_n dX10_howMany_1 rfl ?_
  refine a_iload_n dX10_howMany_2 rfl ?_
  refine a_callVi (as := [vI p1, vI p2]) (st := []) dX10_howMany_3 lk_L_167 sk_0 rfl rfl (Nat.le_of_ble_eq_true rfl) (Or.inr rfl) (Call.mono hy (fun r2 h1 _ hy => ?_))
  refine a_if_ne (tgt := 13) dX10_howMany_6 (by decide) (fun c => ?_) (fun c => ?_)
  · have hy := hy.1 c
    refine a_aload_n dX10_howMany_13 rfl ?_
    refine a_getR dX10_howMany_14 fl_L_44 sk_0 rfl ?_
    refine a_callVv (as := []) (st := []) dX10_howMany_17 lk_L_171 sk_6 rfl rfl (Nat.le_of_ble_eq_true rfl) rfl (Call.mono hy (fun _ h3 _ hy => ?_))
    refine a_aload_n dX10_howMany_20 rfl ?_
    refine a_getR dX10_howMany_21 fl_L_53 sk_0 rfl ?_
    refine a_callVv (as := []) (st := []) dX10_howMany_24 lk_L_184 sk_7 rfl rfl (Nat.le_of_ble_eq_true rfl) rfl (Call.mono hy (fun _ h4 _ hy => ?_))
    refine a_aload_n dX10_howMany_27 rfl ?_
    refine a_getR dX10_howMany_28 fl_L_53 sk_0 rfl ?_
    refine a_iload_n dX10_howMany_31 rfl ?_
    refine a_iload_n dX10_howMany_32 rfl ?_
    refine a_callVi (as := [vI p1, vI p2]) (st := []) dX10_howMany_33 lk_L_185 sk_7 rfl rfl (Nat.le_of_ble_eq_true rfl) (Or.inr rfl) (Call.mono hy (fun r6 h5 _ hy => ?_))
    refine a_if_eq (tgt := 51) dX10_howMany_36 (by decide) (fun c => ?_) (fun c => ?_)
    · have hy := hy.1 c
      refine a_lconst (x := 0) dX10_howMany_51 rfl ⟨by decide, by decide⟩ ?_
      exact a_lret dX10_howMany_52 rfl hy
    · have hy := hy.2 (c)
      refine a_aload_n dX10_howMany_39 rfl ?_
      refine a_getR dX10_howMany_40 fl_L_53 sk_0 rfl ?_
      refine a_iload_n dX10_howMany_43 rfl ?_
      refine a_iload_n dX10_howMany_44 rfl ?_
      refine a_callVl (as := [vI p1, vI p2]) (st := []) dX10_howMany_45 lk_L_198 sk_7 rfl rfl (Nat.le_of_ble_eq_true rfl) rfl (Call.mono hy (fun r8 h7 _ hy => ?_))
      refine a_goto (tgt := 52) dX10_howMany_48 (by decide) ?_
      exact a_lret dX10_howMany_52 rfl hy
  · have hy := hy.2 (Decidable.not_not.mp c)
    refine a_ldc2 (x := (-1)) dX10_howMany_9 kc_L_196 ⟨by decide, by decide⟩ ?_
    exact a_lret dX10_howMany_12 rfl hy
theorem c_L_isKnownLevel {d : Nat} (d0 : Nat) (hd : d0 < d) {p0 : Int} {h : AH} {Q : Int → AH → Prop} (hy : ((p0 < 0 → Q 0 h) ∧ (0 ≤ p0 → ((99 < p0 → Q 0 h) ∧ (p0 ≤ 99 → Q 1 h))))) : Call d M_L_isKnownLevel [vI p0] h Q := by
  refine ⟨d0, hd, Big.of rfl (Nat.le_of_ble_eq_true rfl) ?_⟩
  show AW d0 M_L_isKnownLevel Q 0 [some (vI p0)] [] h
  refine a_iload_n dX10_isKnownLevel_0 rfl ?_
  refine a_if_lt (tgt := 14) dX10_isKnownLevel_1 (by decide) (fun c => ?_) (fun c => ?_)
  · have hy := hy.1 c
    refine a_iconst (x := 0) dX10_isKnownLevel_14 rfl ⟨by decide, by decide⟩ ?_
    exact a_zret dX10_isKnownLevel_15 rfl (Or.inl rfl) hy
  · have hy := hy.2 (Int.not_lt.mp c)
    refine a_iload_n dX10_isKnownLevel_4 rfl ?_
    refine a_bipush (x := 99) dX10_isKnownLevel_5 (by decide) ⟨by decide, by decide⟩ ?_
    refine a_icmp_gt (tgt := 14) dX10_isKnownLevel_7 (by decide) (fun c => ?_) (fun c => ?_)
    · have hy := hy.1 c
      refine a_iconst (x := 0) dX10_isKnownLevel_14 rfl ⟨by decide, by decide⟩ ?_
      exact a_zret dX10_isKnownLevel_15 rfl (Or.inl rfl) hy
    · have hy := hy.2 (Int.not_lt.mp c)
      refine a_iconst (x := 1) dX10_isKnownLevel_10 rfl ⟨by decide, by decide⟩ ?_
      refine a_goto (tgt := 15) dX10_isKnownLevel_11 (by decide) ?_
      exact a_zret dX10_isKnownLevel_15 rfl (Or.inr rfl) hy
theorem c_L_know {d : Nat} (d0 : Nat) (hd : d0 < d) {p1 : Int} {p2 : Int} {h : AH} {Q : Int → AH → Prop} (hy : Call d0 M_Words_has [vR 2 (-1), vI p1] h (fun r2 h1 => ((r2 = 0 → Q 0 h1) ∧ (r2 ≠ 0 → (Call d0 M_L_isKnownLevel [vI p2] h1 (fun r4 h3 => ((r4 ≠ 0 → (Call d0 M_Words_setKnown [vR 2 (-1), vI p1, vI p2] h3 (fun _ h5 => Q 1 h5))) ∧ (r4 = 0 → Q 0 h3)))))))) : Call d M_L_know [vR 0 (-1), vI p1, vI p2] h Q := by
  refine ⟨d0, hd, Big.of rfl (Nat.le_of_ble_eq_true rfl) ?_⟩
  show AW d0 M_L_know Q 0 [some (vR 0 (-1)), some (vI p1), some (vI p2)] [] h
  refine a_aload_n dX10_know_0 rfl ?_
  refine a_getR dX10_know_1 fl_L_19 sk_0 rfl ?_
  refine a_iload_n dX10_know_4 rfl ?_
  refine a_callVi (as := [vI p1]) (st := []) dX10_know_5 lk_L_134 sk_2 rfl rfl (Nat.le_of_ble_eq_true rfl) (Or.inr rfl) (Call.mono hy (fun r2 h1 _ hy => ?_))
  refine a_if_eq (tgt := 18) dX10_know_8 (by decide) (fun c => ?_) (fun c => ?_)
  · have hy := hy.1 c
    refine a_iconst (x := 0) dX10_know_18 rfl ⟨by decide, by decide⟩ ?_
    exact a_zret dX10_know_19 rfl (Or.inl rfl) hy
  · have hy := hy.2 (c)
    refine a_iload_n dX10_know_11 rfl ?_
    refine a_callSi (as := [vI p2]) (st := []) dX10_know_12 lk_L_108 rfl rfl (Nat.le_of_ble_eq_true rfl) (Or.inr rfl) (Call.mono hy (fun r4 h3 _ hy => ?_))
    refine a_if_ne (tgt := 20) dX10_know_15 (by decide) (fun c => ?_) (fun c => ?_)
    · have hy := hy.1 c
      refine a_aload_n dX10_know_20 rfl ?_
      refine a_getR dX10_know_21 fl_L_19 sk_0 rfl ?_
      refine a_iload_n dX10_know_24 rfl ?_
      refine a_iload_n dX10_know_25 rfl ?_
      refine a_callVv (as := [vI p1, vI p2]) (st := []) dX10_know_26 lk_L_141 sk_2 rfl rfl (Nat.le_of_ble_eq_true rfl) rfl (Call.mono hy (fun _ h5 _ hy => ?_))
      refine a_iconst (x := 1) dX10_know_29 rfl ⟨by decide, by decide⟩ ?_
      exact a_zret dX10_know_30 rfl (Or.inr rfl) hy
    · have hy := hy.2 (Decidable.not_not.mp c)
      refine a_iconst (x := 0) dX10_know_18 rfl ⟨by decide, by decide⟩ ?_
      exact a_zret dX10_know_19 rfl (Or.inl rfl) hy
theorem c_L_law {d : Nat} (d0 : Nat) (hd : d0 < d) {p1 : Int} {h : AH} {Q : Int → AH → Prop} (hy : ((p1 < 1 → Q (-1) h) ∧ (1 ≤ p1 → ((160 < p1 → Q (-1) h) ∧ (p1 ≤ 160 → (Call d0 M_Tape_take [vR 1 (-1), vI p1] h (fun r2 h1 => ((r2 ≠ 0 → (Call d0 M_Reader_readText [vR 4 (-1), vI p1] h1 (fun r4 h3 => ((r4 ≠ 0 → (Call d0 M_LawCode_become [vR 3 (-1), vR 5 (-1)] h3 (fun _ h5 => Q (h5.1 3 6) h5))) ∧ (r4 = 0 → (inI ((-1000) * (h3.1 4 4)) ∧ (inI (((-1000) * (h3.1 4 4)) - (h3.1 4 3)) ∧ Q (((-1000) * (h3.1 4 4)) - (h3.1 4 3)) h3))))))) ∧ (r2 = 0 → Q (-1) h1))))))))) : Call d M_L_law [vR 0 (-1), vI p1] h Q := by
  refine ⟨d0, hd, Big.of rfl (Nat.le_of_ble_eq_true rfl) ?_⟩
  show AW d0 M_L_law Q 0 [some (vR 0 (-1)), some (vI p1)] [] h
  refine a_iload_n dX10_law_0 rfl ?_
  refine a_iconst (x := 1) dX10_law_1 rfl ⟨by decide, by decide⟩ ?_
  refine a_icmp_lt (tgt := 23) dX10_law_2 (by decide) (fun c => ?_) (fun c => ?_)
  · have hy := hy.1 c
    refine a_iconst (x := (-1)) dX10_law_23 rfl ⟨by decide, by decide⟩ ?_
    exact a_iret dX10_law_24 rfl hy
  · have hy := hy.2 (Int.not_lt.mp c)
    refine a_iload_n dX10_law_5 rfl ?_
    refine a_sipush (x := 160) dX10_law_6 (by decide) ⟨by decide, by decide⟩ ?_
    refine a_icmp_gt (tgt := 23) dX10_law_9 (by decide) (fun c => ?_) (fun c => ?_)
    · have hy := hy.1 c
      refine a_iconst (x := (-1)) dX10_law_23 rfl ⟨by decide, by decide⟩ ?_
      exact a_iret dX10_law_24 rfl hy
    · have hy := hy.2 (Int.not_lt.mp c)
      refine a_aload_n dX10_law_12 rfl ?_
      refine a_getR dX10_law_13 fl_L_10 sk_0 rfl ?_
      refine a_iload_n dX10_law_16 rfl ?_
      refine a_callVi (as := [vI p1]) (st := []) dX10_law_17 lk_L_113 sk_1 rfl rfl (Nat.le_of_ble_eq_true rfl) (Or.inr rfl) (Call.mono hy (fun r2 h1 _ hy => ?_))
      refine a_if_ne (tgt := 25) dX10_law_20 (by decide) (fun c => ?_) (fun c => ?_)
      · have hy := hy.1 c
        refine a_aload_n dX10_law_25 rfl ?_
        refine a_getR dX10_law_26 fl_L_35 sk_0 rfl ?_
        refine a_iload_n dX10_law_29 rfl ?_
        refine a_callVi (as := [vI p1]) (st := []) dX10_law_30 lk_L_148 sk_4 rfl rfl (Nat.le_of_ble_eq_true rfl) (Or.inr rfl) (Call.mono hy (fun r4 h3 _ hy => ?_))
        refine a_if_ne (tgt := 56) dX10_law_33 (by decide) (fun c => ?_) (fun c => ?_)
        · have hy := hy.1 c
          refine a_aload_n dX10_law_56 rfl ?_
          refine a_getR dX10_law_57 fl_L_26 sk_0 rfl ?_
          refine a_aload_n dX10_law_60 rfl ?_
          refine a_getR dX10_law_61 fl_L_35 sk_0 rfl ?_
          refine a_getR dX10_law_64 fl_L_157 sk_4 rfl ?_
          refine a_callVv (as := [vR 5 (-1)]) (st := []) dX10_law_67 lk_L_160 sk_3 rfl rfl (Nat.le_of_ble_eq_true rfl) rfl (Call.mono hy (fun _ h5 _ hy => ?_))
          refine a_aload_n dX10_law_70 rfl ?_
          refine a_getR dX10_law_71 fl_L_26 sk_0 rfl ?_
          refine a_getI' (kz := 6) dX10_law_74 fl_L_164 sk_3 rfl rfl (rfl) ?_
          exact a_iret dX10_law_77 rfl hy
        · have hy := hy.2 (Decidable.not_not.mp c)
          refine a_sipush (x := (-1000)) dX10_law_36 (by decide) ⟨by decide, by decide⟩ ?_
          refine a_aload_n dX10_law_39 rfl ?_
          refine a_getR dX10_law_40 fl_L_35 sk_0 rfl ?_
          refine a_getI' (kz := 4) dX10_law_43 fl_L_151 sk_4 rfl rfl (rfl) ?_
          obtain ⟨c6, hy⟩ := hy
          refine a_imul dX10_law_46 c6 ?_
          refine a_aload_n dX10_law_47 rfl ?_
          refine a_getR dX10_law_48 fl_L_35 sk_0 rfl ?_
          refine a_getI' (kz := 3) dX10_law_51 fl_L_154 sk_4 rfl rfl (rfl) ?_
          obtain ⟨c7, hy⟩ := hy
          refine a_isub dX10_law_54 c7 ?_
          exact a_iret dX10_law_55 rfl hy
      · have hy := hy.2 (Decidable.not_not.mp c)
        refine a_iconst (x := (-1)) dX10_law_23 rfl ⟨by decide, by decide⟩ ?_
        exact a_iret dX10_law_24 rfl hy
theorem c_L_least {d : Nat} (d0 : Nat) (hd : d0 < d) {p1 : Int} {p2 : Int} {p3 : Int} {h : AH} {Q : Int → AH → Prop} (hy : Call d0 M_L_areWords [vR 0 (-1), vI p1, vI p2] h (fun r2 h1 => ((r2 = 0 → Q (-1) h1) ∧ (r2 ≠ 0 → ((p3 < (-1) → Q (-1) h1) ∧ ((-1) ≤ p3 → ((p3 ≤ 40 → (Call d0 M_Steps_refresh [vR 6 (-1)] h1 (fun _ h3 => Call d0 M_Ways_refresh [vR 7 (-1)] h3 (fun _ h4 => Call d0 M_Ways_isWay [vR 7 (-1), vI p1, vI p2] h4 (fun r6 h5 => ((r6 ≠ 0 → ((p3 ≠ (-1) → (Call d0 M_Ways_lengthOf [vR 7 (-1), vI p1, vI p2] h5 (fun r8 h7 => ((p3 ≠ 40 → ((p3 ≤ r8 → (Call d0 M_Ways_wordAt [vR 7 (-1), vI p1, vI p2, vI p3] h7 (fun r10 h9 => Q r10 h9))) ∧ (r8 < p3 → Q (-1) h7))) ∧ (p3 = 40 → Q r8 h7))))) ∧ (p3 = (-1) → (Call d0 M_Ways_costOf [vR 7 (-1), vI p1, vI p2] h5 (fun r12 h11 => Q r12 h11))))) ∧ (r6 = 0 → Q (-2) h5))))))) ∧ (40 < p3 → Q (-1) h1)))))))) : Call d M_L_least [vR 0 (-1), vI p1, vI p2, vI p3] h Q := by
  refine ⟨d0, hd, Big.of rfl (Nat.le_of_ble_eq_true rfl) ?_⟩
  show AW d0 M_L_least Q 0 [some (vR 0 (-1)), some (vI p1), some (vI p2), some (vI p3), none] [] h
  refine a_aload_n dX10_least_0 rfl ?_
  refine a_iload_n dX10_least_1 rfl ?_
  refine a_iload_n dX10_least_2 rfl ?_
  refine a_callVi (as := [vI p1, vI p2]) (st := []) dX10_least_3 lk_L_167 sk_0 rfl rfl (Nat.le_of_ble_eq_true rfl) (Or.inr rfl) (Call.mono hy (fun r2 h1 _ hy => ?_))
  refine a_if_eq (tgt := 20) dX10_least_6 (by decide) (fun c => ?_) (fun c => ?_)
  · have hy := hy.1 c
    refine a_iconst (x := (-1)) dX10_least_20 rfl ⟨by decide, by decide⟩ ?_
    exact a_iret dX10_least_21 rfl hy
  · have hy := hy.2 (c)
    refine a_iload_n dX10_least_9 rfl ?_
    refine a_iconst (x := (-1)) dX10_least_10 rfl ⟨by decide, by decide⟩ ?_
    refine a_icmp_lt (tgt := 20) dX10_least_11 (by decide) (fun c => ?_) (fun c => ?_)
    · have hy := hy.1 c
      refine a_iconst (x := (-1)) dX10_least_20 rfl ⟨by decide, by decide⟩ ?_
      exact a_iret dX10_least_21 rfl hy
    · have hy := hy.2 (Int.not_lt.mp c)
      refine a_iload_n dX10_least_14 rfl ?_
      refine a_bipush (x := 40) dX10_least_15 (by decide) ⟨by decide, by decide⟩ ?_
      refine a_icmp_le (tgt := 22) dX10_least_17 (by decide) (fun c => ?_) (fun c => ?_)
      · have hy := hy.1 c
        refine a_aload_n dX10_least_22 rfl ?_
        refine a_getR dX10_least_23 fl_L_44 sk_0 rfl ?_
        refine a_callVv (as := []) (st := []) dX10_least_26 lk_L_171 sk_6 rfl rfl (Nat.le_of_ble_eq_true rfl) rfl (Call.mono hy (fun _ h3 _ hy => ?_))
        refine a_aload_n dX10_least_29 rfl ?_
        refine a_getR dX10_least_30 fl_L_53 sk_0 rfl ?_
        refine a_callVv (as := []) (st := []) dX10_least_33 lk_L_184 sk_7 rfl rfl (Nat.le_of_ble_eq_true rfl) rfl (Call.mono hy (fun _ h4 _ hy => ?_))
        refine a_aload_n dX10_least_36 rfl ?_
        refine a_getR dX10_least_37 fl_L_53 sk_0 rfl ?_
        refine a_iload_n dX10_least_40 rfl ?_
        refine a_iload_n dX10_least_41 rfl ?_
        refine a_callVi (as := [vI p1, vI p2]) (st := []) dX10_least_42 lk_L_185 sk_7 rfl rfl (Nat.le_of_ble_eq_true rfl) (Or.inr rfl) (Call.mono hy (fun r6 h5 _ hy => ?_))
        refine a_if_ne (tgt := 51) dX10_least_45 (by decide) (fun c => ?_) (fun c => ?_)
        · have hy := hy.1 c
          refine a_iload_n dX10_least_51 rfl ?_
          refine a_iconst (x := (-1)) dX10_least_52 rfl ⟨by decide, by decide⟩ ?_
          refine a_icmp_ne (tgt := 66) dX10_least_53 (by decide) (fun c => ?_) (fun c => ?_)
          · have hy := hy.1 c
            refine a_aload_n dX10_least_66 rfl ?_
            refine a_getR dX10_least_67 fl_L_53 sk_0 rfl ?_
            refine a_iload_n dX10_least_70 rfl ?_
            refine a_iload_n dX10_least_71 rfl ?_
            refine a_callVi (as := [vI p1, vI p2]) (st := []) dX10_least_72 lk_L_189 sk_7 rfl rfl (Nat.le_of_ble_eq_true rfl) (Or.inl rfl) (Call.mono hy (fun r8 h7 _ hy => ?_))
            refine a_istore (ls2 := [some (vR 0 (-1)), some (vI p1), some (vI p2), some (vI p3), some (vI r8)]) dX10_least_75 (Nat.le_of_ble_eq_true rfl) rfl ?_
            refine a_iload_n dX10_least_77 rfl ?_
            refine a_bipush (x := 40) dX10_least_78 (by decide) ⟨by decide, by decide⟩ ?_
            refine a_icmp_ne (tgt := 86) dX10_least_80 (by decide) (fun c => ?_) (fun c => ?_)
            · have hy := hy.1 c
              refine a_iload_n dX10_least_86 rfl ?_
              refine a_iload dX10_least_87 rfl ?_
              refine a_icmp_le (tgt := 96) dX10_least_89 (by decide) (fun c => ?_) (fun c => ?_)
              · have hy := hy.1 c
                refine a_aload_n dX10_least_96 rfl ?_
                refine a_getR dX10_least_97 fl_L_53 sk_0 rfl ?_
                refine a_iload_n dX10_least_100 rfl ?_
                refine a_iload_n dX10_least_101 rfl ?_
                refine a_iload_n dX10_least_102 rfl ?_
                refine a_callVi (as := [vI p1, vI p2, vI p3]) (st := []) dX10_least_103 lk_L_192 sk_7 rfl rfl (Nat.le_of_ble_eq_true rfl) (Or.inl rfl) (Call.mono hy (fun r10 h9 _ hy => ?_))
                exact a_iret dX10_least_106 rfl hy
              · have hy := hy.2 (Int.not_le.mp c)
                refine a_iconst (x := (-1)) dX10_least_92 rfl ⟨by decide, by decide⟩ ?_
                refine a_goto (tgt := 106) dX10_least_93 (by decide) ?_
                exact a_iret dX10_least_106 rfl hy
            · have hy := hy.2 (Decidable.not_not.mp c)
              refine a_iload dX10_least_83 rfl ?_
              exact a_iret dX10_least_85 rfl hy
          · have hy := hy.2 (Decidable.not_not.mp c)
            refine a_aload_n dX10_least_56 rfl ?_
            refine a_getR dX10_least_57 fl_L_53 sk_0 rfl ?_
            refine a_iload_n dX10_least_60 rfl ?_
            refine a_iload_n dX10_least_61 rfl ?_
            refine a_callVi (as := [vI p1, vI p2]) (st := []) dX10_least_62 lk_L_188 sk_7 rfl rfl (Nat.le_of_ble_eq_true rfl) (Or.inl rfl) (Call.mono hy (fun r12 h11 _ hy => ?_))
            exact a_iret dX10_least_65 rfl hy
        · have hy := hy.2 (Decidable.not_not.mp c)
          refine a_bipush (x := (-2)) dX10_least_48 (by decide) ⟨by decide, by decide⟩ ?_
          exact a_iret dX10_least_50 rfl hy
      · have hy := hy.2 (Int.not_le.mp c)
        refine a_iconst (x := (-1)) dX10_least_20 rfl ⟨by decide, by decide⟩ ?_
        exact a_iret dX10_least_21 rfl hy
theorem c_L_near {d : Nat} (d0 : Nat) (hd : d0 < d) {p1 : Int} {p2 : Int} {h : AH} {Q : Int → AH → Prop} (hy : ((p1 < 1 → Q (-1) h) ∧ (1 ≤ p1 → ((12 < p1 → Q (-1) h) ∧ (p1 ≤ 12 → ((p2 < 0 → Q (-1) h) ∧ (0 ≤ p2 → ((2 < p2 → Q (-1) h) ∧ (p2 ≤ 2 → (Call d0 M_Tape_take [vR 1 (-1), vI p1] h (fun r2 h1 => ((r2 ≠ 0 → (((h1.2.1 2 8) = 0 → Q (-2) h1) ∧ ((h1.2.1 2 8) ≠ 0 → (Call d0 M_Tape_isAllLetters [vR 1 (-1)] h1 (fun r4 h3 => ((r4 ≠ 0 → (Call d0 M_Spelling_findNearest [vR 9 (-1), vI p1] h3 (fun _ h5 => ((p2 ≠ 0 → ((p2 ≠ 1 → Q (h5.1 9 6) h5) ∧ (p2 = 1 → Q (h5.1 9 5) h5))) ∧ (p2 = 0 → Q (h5.1 9 4) h5))))) ∧ (r4 = 0 → Q (-2) h3))))))) ∧ (r2 = 0 → Q (-1) h1))))))))))))) : Call d M_L_near [vR 0 (-1), vI p1, vI p2] h Q := by
  refine ⟨d0, hd, Big.of rfl (Nat.le_of_ble_eq_true rfl) ?_⟩
  show AW d0 M_L_near Q 0 [some (vR 0 (-1)), some (vI p1), some (vI p2)] [] h
  refine a_iload_n dX10_near_0 rfl ?_
  refine a_iconst (x := 1) dX10_near_1 rfl ⟨by decide, by decide⟩ ?_
  refine a_icmp_lt (tgt := 31) dX10_near_2 (by decide) (fun c => ?_) (fun c => ?_)
  · have hy := hy.1 c
    refine a_iconst (x := (-1)) dX10_near_31 rfl ⟨by decide, by decide⟩ ?_
    exact a_iret dX10_near_32 rfl hy
  · have hy := hy.2 (Int.not_lt.mp c)
    refine a_iload_n dX10_near_5 rfl ?_
    refine a_bipush (x := 12) dX10_near_6 (by decide) ⟨by decide, by decide⟩ ?_
    refine a_icmp_gt (tgt := 31) dX10_near_8 (by decide) (fun c => ?_) (fun c => ?_)
    · have hy := hy.1 c
      refine a_iconst (x := (-1)) dX10_near_31 rfl ⟨by decide, by decide⟩ ?_
      exact a_iret dX10_near_32 rfl hy
    · have hy := hy.2 (Int.not_lt.mp c)
      refine a_iload_n dX10_near_11 rfl ?_
      refine a_if_lt (tgt := 31) dX10_near_12 (by decide) (fun c => ?_) (fun c => ?_)
      · have hy := hy.1 c
        refine a_iconst (x := (-1)) dX10_near_31 rfl ⟨by decide, by decide⟩ ?_
        exact a_iret dX10_near_32 rfl hy
      · have hy := hy.2 (Int.not_lt.mp c)
        refine a_iload_n dX10_near_15 rfl ?_
        refine a_iconst (x := 2) dX10_near_16 rfl ⟨by decide, by decide⟩ ?_
        refine a_icmp_gt (tgt := 31) dX10_near_17 (by decide) (fun c => ?_) (fun c => ?_)
        · have hy := hy.1 c
          refine a_iconst (x := (-1)) dX10_near_31 rfl ⟨by decide, by decide⟩ ?_
          exact a_iret dX10_near_32 rfl hy
        · have hy := hy.2 (Int.not_lt.mp c)
          refine a_aload_n dX10_near_20 rfl ?_
          refine a_getR dX10_near_21 fl_L_10 sk_0 rfl ?_
          refine a_iload_n dX10_near_24 rfl ?_
          refine a_callVi (as := [vI p1]) (st := []) dX10_near_25 lk_L_113 sk_1 rfl rfl (Nat.le_of_ble_eq_true rfl) (Or.inr rfl) (Call.mono hy (fun r2 h1 _ hy => ?_))
          refine a_if_ne (tgt := 33) dX10_near_28 (by decide) (fun c => ?_) (fun c => ?_)
          · have hy := hy.1 c
            refine a_aload_n dX10_near_33 rfl ?_
            refine a_getR dX10_near_34 fl_L_19 sk_0 rfl ?_
            refine a_getL' (kz := 8) dX10_near_37 fl_L_232 sk_2 rfl rfl (rfl) ?_
            refine a_lconst (x := 0) dX10_near_40 rfl ⟨by decide, by decide⟩ ?_
            refine a_lc_eq (tgt := 55) dX10_near_41 dX10_near_42 (by decide) (fun c => ?_) (fun c => ?_)
            · have hy := hy.1 c
              refine a_bipush (x := (-2)) dX10_near_55 (by decide) ⟨by decide, by decide⟩ ?_
              exact a_iret dX10_near_57 rfl hy
            · have hy := hy.2 (c)
              refine a_aload_n dX10_near_45 rfl ?_
              refine a_getR dX10_near_46 fl_L_10 sk_0 rfl ?_
              refine a_callVi (as := []) (st := []) dX10_near_49 lk_L_116 sk_1 rfl rfl (Nat.le_of_ble_eq_true rfl) (Or.inr rfl) (Call.mono hy (fun r4 h3 _ hy => ?_))
              refine a_if_ne (tgt := 58) dX10_near_52 (by decide) (fun c => ?_) (fun c => ?_)
              · have hy := hy.1 c
                refine a_aload_n dX10_near_58 rfl ?_
                refine a_getR dX10_near_59 fl_L_71 sk_0 rfl ?_
                refine a_iload_n dX10_near_62 rfl ?_
                refine a_callVv (as := [vI p1]) (st := []) dX10_near_63 lk_L_289 sk_9 rfl rfl (Nat.le_of_ble_eq_true rfl) rfl (Call.mono hy (fun _ h5 _ hy => ?_))
                refine a_iload_n dX10_near_66 rfl ?_
                refine a_if_ne (tgt := 78) dX10_near_67 (by decide) (fun c => ?_) (fun c => ?_)
                · have hy := hy.1 c
                  refine a_iload_n dX10_near_78 rfl ?_
                  refine a_iconst (x := 1) dX10_near_79 rfl ⟨by decide, by decide⟩ ?_
                  refine a_icmp_ne (tgt := 93) dX10_near_80 (by decide) (fun c => ?_) (fun c => ?_)
                  · have hy := hy.1 c
                    refine a_aload_n dX10_near_93 rfl ?_
                    refine a_getR dX10_near_94 fl_L_71 sk_0 rfl ?_
                    refine a_getI' (kz := 6) dX10_near_97 fl_L_298 sk_9 rfl rfl (rfl) ?_
                    exact a_iret dX10_near_100 rfl hy
                  · have hy := hy.2 (Decidable.not_not.mp c)
                    refine a_aload_n dX10_near_83 rfl ?_
                    refine a_getR dX10_near_84 fl_L_71 sk_0 rfl ?_
                    refine a_getI' (kz := 5) dX10_near_87 fl_L_295 sk_9 rfl rfl (rfl) ?_
                    refine a_goto (tgt := 100) dX10_near_90 (by decide) ?_
                    exact a_iret dX10_near_100 rfl hy
                · have hy := hy.2 (Decidable.not_not.mp c)
                  refine a_aload_n dX10_near_70 rfl ?_
                  refine a_getR dX10_near_71 fl_L_71 sk_0 rfl ?_
                  refine a_getI' (kz := 4) dX10_near_74 fl_L_292 sk_9 rfl rfl (rfl) ?_
                  exact a_iret dX10_near_77 rfl hy
              · have hy := hy.2 (Decidable.not_not.mp c)
                refine a_bipush (x := (-2)) dX10_near_55 (by decide) ⟨by decide, by decide⟩ ?_
                exact a_iret dX10_near_57 rfl hy
          · have hy := hy.2 (Decidable.not_not.mp c)
            refine a_iconst (x := (-1)) dX10_near_31 rfl ⟨by decide, by decide⟩ ?_
            exact a_iret dX10_near_32 rfl hy
def A_L_newWord_33 (d : Nat) (Q : Int → AH → Prop) (p1 : Int) (v2 : Int) (h : AH) : Prop := AW d M_L_newWord Q 33 [some (vR 0 (-1)), some (vI p1), some (vI v2)] [] h
theorem s_L_newWord_33 {d : Nat} {Q : Int → AH → Prop} {p1 : Int} {v2 : Int} {h : AH} (hy : (((h.2.1 2 8) ≠ 0 → (Call d M_Steps_refresh [vR 6 (-1)] h (fun _ h1 => Call d M_Ways_refreshReach [vR 7 (-1)] h1 (fun _ h2 => Call d M_NewWords_refresh [vR 8 (-1)] h2 (fun _ h3 => ((v2 = 0 → ((p1 ≠ 0 → ((p1 ≠ 1 → (Call d M_Words_lengthOfKey [vL (h3.2.1 8 10)] h3 (fun r5 h4 => Q r5 h4))) ∧ (p1 = 1 → Q (h3.1 8 9) h3))) ∧ (p1 = 0 → Q (h3.1 8 8) h3))) ∧ (v2 ≠ 0 → (inI (p1 - 10) ∧ (Call d M_NewWords_letterAt [vR 8 (-1), vI (p1 - 10)] h3 (fun r8 h7 => Q r8 h7)))))))))) ∧ ((h.2.1 2 8) = 0 → Q (-2) h))) : A_L_newWord_33 d Q p1 v2 h := by
  show AW d M_L_newWord Q 33 [some (vR 0 (-1)), some (vI p1), some (vI v2)] [] h
  refine a_aload_n dX10_newWord_33 rfl ?_
  refine a_getR dX10_newWord_34 fl_L_19 sk_0 rfl ?_
  refine a_getL' (kz := 8) dX10_newWord_37 fl_L_232 sk_2 rfl rfl (rfl) ?_
  refine a_lconst (x := 0) dX10_newWord_40 rfl ⟨by decide, by decide⟩ ?_
  refine a_lc_ne (tgt := 48) dX10_newWord_41 dX10_newWord_42 (by decide) (fun c => ?_) (fun c => ?_)
  · have hy := hy.1 c
    refine a_aload_n dX10_newWord_48 rfl ?_
    refine a_getR dX10_newWord_49 fl_L_44 sk_0 rfl ?_
    refine a_callVv (as := []) (st := []) dX10_newWord_52 lk_L_171 sk_6 rfl rfl (Nat.le_of_ble_eq_true rfl) rfl (Call.mono hy (fun _ h1 _ hy => ?_))
    refine a_aload_n dX10_newWord_55 rfl ?_
    refine a_getR dX10_newWord_56 fl_L_53 sk_0 rfl ?_
    refine a_callVv (as := []) (st := []) dX10_newWord_59 lk_L_202 sk_7 rfl rfl (Nat.le_of_ble_eq_true rfl) rfl (Call.mono hy (fun _ h2 _ hy => ?_))
    refine a_aload_n dX10_newWord_62 rfl ?_
    refine a_getR dX10_newWord_63 fl_L_62 sk_0 rfl ?_
    refine a_callVv (as := []) (st := []) dX10_newWord_66 lk_L_245 sk_8 rfl rfl (Nat.le_of_ble_eq_true rfl) rfl (Call.mono hy (fun _ h3 _ hy => ?_))
    refine a_iload_n dX10_newWord_69 rfl ?_
    refine a_if_eq (tgt := 85) dX10_newWord_70 (by decide) (fun c => ?_) (fun c => ?_)
    · have hy := hy.1 c
      refine a_iload_n dX10_newWord_85 rfl ?_
      refine a_if_ne (tgt := 97) dX10_newWord_86 (by decide) (fun c => ?_) (fun c => ?_)
      · have hy := hy.1 c
        refine a_iload_n dX10_newWord_97 rfl ?_
        refine a_iconst (x := 1) dX10_newWord_98 rfl ⟨by decide, by decide⟩ ?_
        refine a_icmp_ne (tgt := 112) dX10_newWord_99 (by decide) (fun c => ?_) (fun c => ?_)
        · have hy := hy.1 c
          refine a_aload_n dX10_newWord_112 rfl ?_
          refine a_getR dX10_newWord_113 fl_L_62 sk_0 rfl ?_
          refine a_getL' (kz := 10) dX10_newWord_116 fl_L_256 sk_8 rfl rfl (rfl) ?_
          refine a_callSi (as := [vL (h3.2.1 8 10)]) (st := []) dX10_newWord_119 lk_L_259 rfl rfl (Nat.le_of_ble_eq_true rfl) (Or.inl rfl) (Call.mono hy (fun r5 h4 _ hy => ?_))
          exact a_iret dX10_newWord_122 rfl hy
        · have hy := hy.2 (Decidable.not_not.mp c)
          refine a_aload_n dX10_newWord_102 rfl ?_
          refine a_getR dX10_newWord_103 fl_L_62 sk_0 rfl ?_
          refine a_getI' (kz := 9) dX10_newWord_106 fl_L_253 sk_8 rfl rfl (rfl) ?_
          refine a_goto (tgt := 122) dX10_newWord_109 (by decide) ?_
          exact a_iret dX10_newWord_122 rfl hy
      · have hy := hy.2 (Decidable.not_not.mp c)
        refine a_aload_n dX10_newWord_89 rfl ?_
        refine a_getR dX10_newWord_90 fl_L_62 sk_0 rfl ?_
        refine a_getI' (kz := 8) dX10_newWord_93 fl_L_250 sk_8 rfl rfl (rfl) ?_
        exact a_iret dX10_newWord_96 rfl hy
    · have hy := hy.2 (c)
      refine a_aload_n dX10_newWord_73 rfl ?_
      refine a_getR dX10_newWord_74 fl_L_62 sk_0 rfl ?_
      refine a_iload_n dX10_newWord_77 rfl ?_
      refine a_bipush (x := 10) dX10_newWord_78 (by decide) ⟨by decide, by decide⟩ ?_
      obtain ⟨c6, hy⟩ := hy
      refine a_isub dX10_newWord_80 c6 ?_
      refine a_callVi (as := [vI (p1 - 10)]) (st := []) dX10_newWord_81 lk_L_246 sk_8 rfl rfl (Nat.le_of_ble_eq_true rfl) (Or.inl rfl) (Call.mono hy (fun r8 h7 _ hy => ?_))
      exact a_iret dX10_newWord_84 rfl hy
  · have hy := hy.2 (Decidable.not_not.mp c)
    refine a_bipush (x := (-2)) dX10_newWord_45 (by decide) ⟨by decide, by decide⟩ ?_
    exact a_iret dX10_newWord_47 rfl hy
theorem c_L_newWord {d : Nat} (d0 : Nat) (hd : d0 < d) {p1 : Int} {h : AH} {Q : Int → AH → Prop} (hy : (((if p1 < 10 then (0 : Int) else if 18 ≤ p1 then (0 : Int) else 1) ≠ 0 → A_L_newWord_33 d0 Q p1 (if p1 < 10 then (0 : Int) else if 18 ≤ p1 then (0 : Int) else 1) h) ∧ ((if p1 < 10 then (0 : Int) else if 18 ≤ p1 then (0 : Int) else 1) = 0 → ((p1 < 0 → Q (-1) h) ∧ (0 ≤ p1 → ((p1 ≤ 2 → A_L_newWord_33 d0 Q p1 (if p1 < 10 then (0 : Int) else if 18 ≤ p1 then (0 : Int) else 1) h) ∧ (2 < p1 → Q (-1) h))))))) : Call d M_L_newWord [vR 0 (-1), vI p1] h Q := by
  refine ⟨d0, hd, Big.of rfl (Nat.le_of_ble_eq_true rfl) ?_⟩
  show AW d0 M_L_newWord Q 0 [some (vR 0 (-1)), some (vI p1), none] [] h
  refine a_iload_n dX10_newWord_0 rfl ?_
  refine a_bipush (x := 10) dX10_newWord_1 (by decide) ⟨by decide, by decide⟩ ?_
  have J : AW d0 M_L_newWord Q 17 [some (vR 0 (-1)), some (vI p1), none] [vI (if p1 < 10 then (0 : Int) else if 18 ≤ p1 then (0 : Int) else 1)] h := by
    refine a_istore_n (i := 2) (ls2 := [some (vR 0 (-1)), some (vI p1), some (vI (if p1 < 10 then (0 : Int) else if 18 ≤ p1 then (0 : Int) else 1))]) dX10_newWord_17 rfl (Nat.le_of_ble_eq_true rfl) rfl ?_
    refine a_iload_n dX10_newWord_18 rfl ?_
    refine a_if_ne (tgt := 33) dX10_newWord_19 (by decide) (fun c => ?_) (fun c => ?_)
    · have hy := hy.1 c
      exact hy
    · have hy := hy.2 (Decidable.not_not.mp c)
      refine a_iload_n dX10_newWord_22 rfl ?_
      refine a_if_lt (tgt := 31) dX10_newWord_23 (by decide) (fun c => ?_) (fun c => ?_)
      · have hy := hy.1 c
        refine a_iconst (x := (-1)) dX10_newWord_31 rfl ⟨by decide, by decide⟩ ?_
        exact a_iret dX10_newWord_32 rfl hy
      · have hy := hy.2 (Int.not_lt.mp c)
        refine a_iload_n dX10_newWord_26 rfl ?_
        refine a_iconst (x := 2) dX10_newWord_27 rfl ⟨by decide, by decide⟩ ?_
        refine a_icmp_le (tgt := 33) dX10_newWord_28 (by decide) (fun c => ?_) (fun c => ?_)
        · have hy := hy.1 c
          exact hy
        · have hy := hy.2 (Int.not_le.mp c)
          refine a_iconst (x := (-1)) dX10_newWord_31 rfl ⟨by decide, by decide⟩ ?_
          exact a_iret dX10_newWord_32 rfl hy
  refine a_icmp_lt (tgt := 16) dX10_newWord_3 (by decide) (fun e1 => ?_) (fun e1 => ?_)
  · refine a_iconst (x := 0) dX10_newWord_16 rfl ⟨by decide, by decide⟩ ?_
    exact a_cast (by first | rfl | simp only [if_pos e1]) (by first | rfl | simp only [if_pos e1]) J
  · refine a_iload_n dX10_newWord_6 rfl ?_
    refine a_bipush (x := 18) dX10_newWord_7 (by decide) ⟨by decide, by decide⟩ ?_
    refine a_icmp_ge (tgt := 16) dX10_newWord_9 (by decide) (fun e2 => ?_) (fun e2 => ?_)
    · refine a_iconst (x := 0) dX10_newWord_16 rfl ⟨by decide, by decide⟩ ?_
      exact a_cast (by first | rfl | simp only [if_neg e1, if_pos e2]) (by first | rfl | simp only [if_neg e1, if_pos e2]) J
    · refine a_iconst (x := 1) dX10_newWord_12 rfl ⟨by decide, by decide⟩ ?_
      refine a_goto (tgt := 17) dX10_newWord_13 (by decide) ?_
      exact a_cast (by first | rfl | simp only [if_neg e1, if_neg e2]) (by first | rfl | simp only [if_neg e1, if_neg e2]) J
theorem c_L_off {d : Nat} (d0 : Nat) (hd : d0 < d)  {h : AH} {Q : Int → AH → Prop} (hy : (((h.1 2 6) ≠ 0 → (Call d0 M_Words_takeLast [vR 2 (-1)] h (fun r2 h1 => Q r2 h1))) ∧ ((h.1 2 6) = 0 → Q (-1) h))) : Call d M_L_off [vR 0 (-1)] h Q := by
  refine ⟨d0, hd, Big.of rfl (Nat.le_of_ble_eq_true rfl) ?_⟩
  show AW d0 M_L_off Q 0 [some (vR 0 (-1))] [] h
  refine a_aload_n dX10_off_0 rfl ?_
  refine a_getR dX10_off_1 fl_L_19 sk_0 rfl ?_
  refine a_getI' (kz := 6) dX10_off_4 fl_L_112 sk_2 rfl rfl (rfl) ?_
  refine a_if_ne (tgt := 14) dX10_off_7 (by decide) (fun c => ?_) (fun c => ?_)
  · have hy := hy.1 c
    refine a_aload_n dX10_off_14 rfl ?_
    refine a_getR dX10_off_15 fl_L_19 sk_0 rfl ?_
    refine a_callVi (as := []) (st := []) dX10_off_18 lk_L_332 sk_2 rfl rfl (Nat.le_of_ble_eq_true rfl) (Or.inl rfl) (Call.mono hy (fun r2 h1 _ hy => ?_))
    exact a_iret dX10_off_21 rfl hy
  · have hy := hy.2 (Decidable.not_not.mp c)
    refine a_iconst (x := (-1)) dX10_off_10 rfl ⟨by decide, by decide⟩ ?_
    refine a_goto (tgt := 21) dX10_off_11 (by decide) ?_
    exact a_iret dX10_off_21 rfl hy
theorem c_L_row {d : Nat} (d0 : Nat) (hd : d0 < d) {p1 : Int} {p2 : Int} {h : AH} {Q : Int → AH → Prop} (hy : ((p1 < 2 → Q (-1) h) ∧ (2 ≤ p1 → ((10 < p1 → Q (-1) h) ∧ (p1 ≤ 10 → ((p2 < (-1) → Q (-1) h) ∧ ((-1) ≤ p2 → ((p1 ≤ p2 → Q (-1) h) ∧ (p2 < p1 → (Call d0 M_Tape_take [vR 1 (-1), vI p1] h (fun r2 h1 => ((r2 ≠ 0 → (Call d0 M_Told_readWords [vR 10 (-1), vI p1] h1 (fun r4 h3 => ((r4 = 0 → Q (-3) h3) ∧ (r4 ≠ 0 → (Call d0 M_Told_areUsed [vR 10 (-1)] h3 (fun r6 h5 => ((r6 ≠ 0 → (Call d0 M_Steps_refresh [vR 6 (-1)] h5 (fun _ h7 => Call d0 M_Told_findRow [vR 10 (-1)] h7 (fun r9 h8 => ((r9 ≠ 0 → ((p2 ≠ (-1) → (Call d0 M_Told_rowWordAt [vR 10 (-1), vI p2] h8 (fun r11 h10 => Q r11 h10))) ∧ (p2 = (-1) → Q (h8.1 10 11) h8))) ∧ (r9 = 0 → Q (-2) h8)))))) ∧ (r6 = 0 → Q (-3) h5))))))))) ∧ (r2 = 0 → Q (-1) h1))))))))))))) : Call d M_L_row [vR 0 (-1), vI p1, vI p2] h Q := by
  refine ⟨d0, hd, Big.of rfl (Nat.le_of_ble_eq_true rfl) ?_⟩
  show AW d0 M_L_row Q 0 [some (vR 0 (-1)), some (vI p1), some (vI p2)] [] h
  refine a_iload_n dX10_row_0 rfl ?_
  refine a_iconst (x := 2) dX10_row_1 rfl ⟨by decide, by decide⟩ ?_
  refine a_icmp_lt (tgt := 32) dX10_row_2 (by decide) (fun c => ?_) (fun c => ?_)
  · have hy := hy.1 c
    refine a_iconst (x := (-1)) dX10_row_32 rfl ⟨by decide, by decide⟩ ?_
    exact a_iret dX10_row_33 rfl hy
  · have hy := hy.2 (Int.not_lt.mp c)
    refine a_iload_n dX10_row_5 rfl ?_
    refine a_bipush (x := 10) dX10_row_6 (by decide) ⟨by decide, by decide⟩ ?_
    refine a_icmp_gt (tgt := 32) dX10_row_8 (by decide) (fun c => ?_) (fun c => ?_)
    · have hy := hy.1 c
      refine a_iconst (x := (-1)) dX10_row_32 rfl ⟨by decide, by decide⟩ ?_
      exact a_iret dX10_row_33 rfl hy
    · have hy := hy.2 (Int.not_lt.mp c)
      refine a_iload_n dX10_row_11 rfl ?_
      refine a_iconst (x := (-1)) dX10_row_12 rfl ⟨by decide, by decide⟩ ?_
      refine a_icmp_lt (tgt := 32) dX10_row_13 (by decide) (fun c => ?_) (fun c => ?_)
      · have hy := hy.1 c
        refine a_iconst (x := (-1)) dX10_row_32 rfl ⟨by decide, by decide⟩ ?_
        exact a_iret dX10_row_33 rfl hy
      · have hy := hy.2 (Int.not_lt.mp c)
        refine a_iload_n dX10_row_16 rfl ?_
        refine a_iload_n dX10_row_17 rfl ?_
        refine a_icmp_ge (tgt := 32) dX10_row_18 (by decide) (fun c => ?_) (fun c => ?_)
        · have hy := hy.1 c
          refine a_iconst (x := (-1)) dX10_row_32 rfl ⟨by decide, by decide⟩ ?_
          exact a_iret dX10_row_33 rfl hy
        · have hy := hy.2 (Int.not_le.mp c)
          refine a_aload_n dX10_row_21 rfl ?_
          refine a_getR dX10_row_22 fl_L_10 sk_0 rfl ?_
          refine a_iload_n dX10_row_25 rfl ?_
          refine a_callVi (as := [vI p1]) (st := []) dX10_row_26 lk_L_113 sk_1 rfl rfl (Nat.le_of_ble_eq_true rfl) (Or.inr rfl) (Call.mono hy (fun r2 h1 _ hy => ?_))
          refine a_if_ne (tgt := 34) dX10_row_29 (by decide) (fun c => ?_) (fun c => ?_)
          · have hy := hy.1 c
            refine a_aload_n dX10_row_34 rfl ?_
            refine a_getR dX10_row_35 fl_L_80 sk_0 rfl ?_
            refine a_iload_n dX10_row_38 rfl ?_
            refine a_callVi (as := [vI p1]) (st := []) dX10_row_39 lk_L_267 sk_10 rfl rfl (Nat.le_of_ble_eq_true rfl) (Or.inr rfl) (Call.mono hy (fun r4 h3 _ hy => ?_))
            refine a_if_eq (tgt := 55) dX10_row_42 (by decide) (fun c => ?_) (fun c => ?_)
            · have hy := hy.1 c
              refine a_bipush (x := (-3)) dX10_row_55 (by decide) ⟨by decide, by decide⟩ ?_
              exact a_iret dX10_row_57 rfl hy
            · have hy := hy.2 (c)
              refine a_aload_n dX10_row_45 rfl ?_
              refine a_getR dX10_row_46 fl_L_80 sk_0 rfl ?_
              refine a_callVi (as := []) (st := []) dX10_row_49 lk_L_270 sk_10 rfl rfl (Nat.le_of_ble_eq_true rfl) (Or.inr rfl) (Call.mono hy (fun r6 h5 _ hy => ?_))
              refine a_if_ne (tgt := 58) dX10_row_52 (by decide) (fun c => ?_) (fun c => ?_)
              · have hy := hy.1 c
                refine a_aload_n dX10_row_58 rfl ?_
                refine a_getR dX10_row_59 fl_L_44 sk_0 rfl ?_
                refine a_callVv (as := []) (st := []) dX10_row_62 lk_L_171 sk_6 rfl rfl (Nat.le_of_ble_eq_true rfl) rfl (Call.mono hy (fun _ h7 _ hy => ?_))
                refine a_aload_n dX10_row_65 rfl ?_
                refine a_getR dX10_row_66 fl_L_80 sk_0 rfl ?_
                refine a_callVi (as := []) (st := []) dX10_row_69 lk_L_273 sk_10 rfl rfl (Nat.le_of_ble_eq_true rfl) (Or.inr rfl) (Call.mono hy (fun r9 h8 _ hy => ?_))
                refine a_if_ne (tgt := 78) dX10_row_72 (by decide) (fun c => ?_) (fun c => ?_)
                · have hy := hy.1 c
                  refine a_iload_n dX10_row_78 rfl ?_
                  refine a_iconst (x := (-1)) dX10_row_79 rfl ⟨by decide, by decide⟩ ?_
                  refine a_icmp_ne (tgt := 93) dX10_row_80 (by decide) (fun c => ?_) (fun c => ?_)
                  · have hy := hy.1 c
                    refine a_aload_n dX10_row_93 rfl ?_
                    refine a_getR dX10_row_94 fl_L_80 sk_0 rfl ?_
                    refine a_iload_n dX10_row_97 rfl ?_
                    refine a_callVi (as := [vI p2]) (st := []) dX10_row_98 lk_L_279 sk_10 rfl rfl (Nat.le_of_ble_eq_true rfl) (Or.inl rfl) (Call.mono hy (fun r11 h10 _ hy => ?_))
                    exact a_iret dX10_row_101 rfl hy
                  · have hy := hy.2 (Decidable.not_not.mp c)
                    refine a_aload_n dX10_row_83 rfl ?_
                    refine a_getR dX10_row_84 fl_L_80 sk_0 rfl ?_
                    refine a_getI' (kz := 11) dX10_row_87 fl_L_276 sk_10 rfl rfl (rfl) ?_
                    refine a_goto (tgt := 101) dX10_row_90 (by decide) ?_
                    exact a_iret dX10_row_101 rfl hy
                · have hy := hy.2 (Decidable.not_not.mp c)
                  refine a_bipush (x := (-2)) dX10_row_75 (by decide) ⟨by decide, by decide⟩ ?_
                  exact a_iret dX10_row_77 rfl hy
              · have hy := hy.2 (Decidable.not_not.mp c)
                refine a_bipush (x := (-3)) dX10_row_55 (by decide) ⟨by decide, by decide⟩ ?_
                exact a_iret dX10_row_57 rfl hy
          · have hy := hy.2 (Decidable.not_not.mp c)
            refine a_iconst (x := (-1)) dX10_row_32 rfl ⟨by decide, by decide⟩ ?_
            exact a_iret dX10_row_33 rfl hy
theorem c_L_rubbed {d : Nat} (d0 : Nat) (hd : d0 < d) {p1 : Int} {h : AH} {Q : Int → AH → Prop} (hy : ((p1 < 1 → Q (-1) h) ∧ (1 ≤ p1 → ((8 < p1 → Q (-1) h) ∧ (p1 ≤ 8 → (Call d0 M_Tape_take [vR 1 (-1), vI p1] h (fun r2 h1 => ((r2 ≠ 0 → (Call d0 M_Tape_isRubbedText [vR 1 (-1)] h1 (fun r4 h3 => ((r4 = 0 → Q (-2) h3) ∧ (r4 ≠ 0 → (Call d0 M_Spelling_fitting [vR 9 (-1), vI p1] h3 (fun r6 h5 => Q r6 h5))))))) ∧ (r2 = 0 → Q (-1) h1))))))))) : Call d M_L_rubbed [vR 0 (-1), vI p1] h Q := by
  refine ⟨d0, hd, Big.of rfl (Nat.le_of_ble_eq_true rfl) ?_⟩
  show AW d0 M_L_rubbed Q 0 [some (vR 0 (-1)), some (vI p1)] [] h
  refine a_iload_n dX10_rubbed_0 rfl ?_
  refine a_iconst (x := 1) dX10_rubbed_1 rfl ⟨by decide, by decide⟩ ?_
  refine a_icmp_lt (tgt := 22) dX10_rubbed_2 (by decide) (fun c => ?_) (fun c => ?_)
  · have hy := hy.1 c
    refine a_ldc2 (x := (-1)) dX10_rubbed_22 kc_L_196 ⟨by decide, by decide⟩ ?_
    exact a_lret dX10_rubbed_25 rfl hy
  · have hy := hy.2 (Int.not_lt.mp c)
    refine a_iload_n dX10_rubbed_5 rfl ?_
    refine a_bipush (x := 8) dX10_rubbed_6 (by decide) ⟨by decide, by decide⟩ ?_
    refine a_icmp_gt (tgt := 22) dX10_rubbed_8 (by decide) (fun c => ?_) (fun c => ?_)
    · have hy := hy.1 c
      refine a_ldc2 (x := (-1)) dX10_rubbed_22 kc_L_196 ⟨by decide, by decide⟩ ?_
      exact a_lret dX10_rubbed_25 rfl hy
    · have hy := hy.2 (Int.not_lt.mp c)
      refine a_aload_n dX10_rubbed_11 rfl ?_
      refine a_getR dX10_rubbed_12 fl_L_10 sk_0 rfl ?_
      refine a_iload_n dX10_rubbed_15 rfl ?_
      refine a_callVi (as := [vI p1]) (st := []) dX10_rubbed_16 lk_L_113 sk_1 rfl rfl (Nat.le_of_ble_eq_true rfl) (Or.inr rfl) (Call.mono hy (fun r2 h1 _ hy => ?_))
      refine a_if_ne (tgt := 26) dX10_rubbed_19 (by decide) (fun c => ?_) (fun c => ?_)
      · have hy := hy.1 c
        refine a_aload_n dX10_rubbed_26 rfl ?_
        refine a_getR dX10_rubbed_27 fl_L_10 sk_0 rfl ?_
        refine a_callVi (as := []) (st := []) dX10_rubbed_30 lk_L_309 sk_1 rfl rfl (Nat.le_of_ble_eq_true rfl) (Or.inr rfl) (Call.mono hy (fun r4 h3 _ hy => ?_))
        refine a_if_eq (tgt := 47) dX10_rubbed_33 (by decide) (fun c => ?_) (fun c => ?_)
        · have hy := hy.1 c
          refine a_ldc2 (x := (-2)) dX10_rubbed_47 kc_L_211 ⟨by decide, by decide⟩ ?_
          exact a_lret dX10_rubbed_50 rfl hy
        · have hy := hy.2 (c)
          refine a_aload_n dX10_rubbed_36 rfl ?_
          refine a_getR dX10_rubbed_37 fl_L_71 sk_0 rfl ?_
          refine a_iload_n dX10_rubbed_40 rfl ?_
          refine a_callVl (as := [vI p1]) (st := []) dX10_rubbed_41 lk_L_312 sk_9 rfl rfl (Nat.le_of_ble_eq_true rfl) rfl (Call.mono hy (fun r6 h5 _ hy => ?_))
          refine a_goto (tgt := 50) dX10_rubbed_44 (by decide) ?_
          exact a_lret dX10_rubbed_50 rfl hy
      · have hy := hy.2 (Decidable.not_not.mp c)
        refine a_ldc2 (x := (-1)) dX10_rubbed_22 kc_L_196 ⟨by decide, by decide⟩ ?_
        exact a_lret dX10_rubbed_25 rfl hy
theorem c_L_seed {d : Nat} (d0 : Nat) (hd : d0 < d) {p1 : Int} {h : AH} {Q : Int → AH → Prop} (hy : ((p1 < 0 → Q 0 h) ∧ (0 ≤ p1 → ((p1 ≤ 65535 → Q 1 (wI h 0 10 p1)) ∧ (65535 < p1 → Q 0 h))))) : Call d M_L_seed [vR 0 (-1), vI p1] h Q := by
  refine ⟨d0, hd, Big.of rfl (Nat.le_of_ble_eq_true rfl) ?_⟩
  show AW d0 M_L_seed Q 0 [some (vR 0 (-1)), some (vI p1)] [] h
  refine a_iload_n dX10_seed_0 rfl ?_
  refine a_if_lt (tgt := 11) dX10_seed_1 (by decide) (fun c => ?_) (fun c => ?_)
  · have hy := hy.1 c
    refine a_iconst (x := 0) dX10_seed_11 rfl ⟨by decide, by decide⟩ ?_
    exact a_zret dX10_seed_12 rfl (Or.inl rfl) hy
  · have hy := hy.2 (Int.not_lt.mp c)
    refine a_iload_n dX10_seed_4 rfl ?_
    refine a_ldcw (x := 65535) dX10_seed_5 kc_L_324 ⟨by decide, by decide⟩ ?_
    refine a_icmp_le (tgt := 13) dX10_seed_8 (by decide) (fun c => ?_) (fun c => ?_)
    · have hy := hy.1 c
      refine a_aload_n dX10_seed_13 rfl ?_
      refine a_iload_n dX10_seed_14 rfl ?_
      refine a_putI (kz := 10) dX10_seed_15 fp_L_93 sk_0 rfl rfl ?_
      refine a_iconst (x := 1) dX10_seed_18 rfl ⟨by decide, by decide⟩ ?_
      exact a_zret dX10_seed_19 rfl (Or.inr rfl) hy
    · have hy := hy.2 (Int.not_le.mp c)
      refine a_iconst (x := 0) dX10_seed_11 rfl ⟨by decide, by decide⟩ ?_
      exact a_zret dX10_seed_12 rfl (Or.inl rfl) hy
theorem c_L_speak {d : Nat} (d0 : Nat) (hd : d0 < d) {p1 : Int} {h : AH} {Q : Int → AH → Prop} (hy : ((p1 < (-1) → Q 0 h) ∧ ((-1) ≤ p1 → ((p1 ≤ 3 → (Call d0 M_Words_setSpoken [vR 2 (-1), vI p1] h (fun _ h1 => Q 1 h1))) ∧ (3 < p1 → Q 0 h))))) : Call d M_L_speak [vR 0 (-1), vI p1] h Q := by
  refine ⟨d0, hd, Big.of rfl (Nat.le_of_ble_eq_true rfl) ?_⟩
  show AW d0 M_L_speak Q 0 [some (vR 0 (-1)), some (vI p1)] [] h
  refine a_iload_n dX10_speak_0 rfl ?_
  refine a_iconst (x := (-1)) dX10_speak_1 rfl ⟨by decide, by decide⟩ ?_
  refine a_icmp_lt (tgt := 10) dX10_speak_2 (by decide) (fun c => ?_) (fun c => ?_)
  · have hy := hy.1 c
    refine a_iconst (x := 0) dX10_speak_10 rfl ⟨by decide, by decide⟩ ?_
    exact a_zret dX10_speak_11 rfl (Or.inl rfl) hy
  · have hy := hy.2 (Int.not_lt.mp c)
    refine a_iload_n dX10_speak_5 rfl ?_
    refine a_iconst (x := 3) dX10_speak_6 rfl ⟨by decide, by decide⟩ ?_
    refine a_icmp_le (tgt := 12) dX10_speak_7 (by decide) (fun c => ?_) (fun c => ?_)
    · have hy := hy.1 c
      refine a_aload_n dX10_speak_12 rfl ?_
      refine a_getR dX10_speak_13 fl_L_19 sk_0 rfl ?_
      refine a_iload_n dX10_speak_16 rfl ?_
      refine a_callVv (as := [vI p1]) (st := []) dX10_speak_17 lk_L_145 sk_2 rfl rfl (Nat.le_of_ble_eq_true rfl) rfl (Call.mono hy (fun _ h1 _ hy => ?_))
      refine a_iconst (x := 1) dX10_speak_20 rfl ⟨by decide, by decide⟩ ?_
      exact a_zret dX10_speak_21 rfl (Or.inr rfl) hy
    · have hy := hy.2 (Int.not_le.mp c)
      refine a_iconst (x := 0) dX10_speak_10 rfl ⟨by decide, by decide⟩ ?_
      exact a_zret dX10_speak_11 rfl (Or.inl rfl) hy
theorem c_L_square {d : Nat} (d0 : Nat) (hd : d0 < d) {p1 : Int} {p2 : Int} {h : AH} {Q : Int → AH → Prop} (hy : ((p1 < 2 → Q (-1) h) ∧ (2 ≤ p1 → ((4 < p1 → Q (-1) h) ∧ (p1 ≤ 4 → ((p2 < (-1) → Q (-1) h) ∧ ((-1) ≤ p2 → ((p2 < p1 → (Call d0 M_Squares_refresh [vR 11 (-1), vI p1] h (fun _ h1 => ((p2 ≠ (-1) → (((h1.1 11 7) ≠ 0 → (inb p2 4 ∧ Q (h1.1 57 p2) h1)) ∧ ((h1.1 11 7) = 0 → Q (-2) h1))) ∧ (p2 = (-1) → Q (h1.1 11 7) h1))))) ∧ (p1 ≤ p2 → Q (-1) h))))))))) : Call d M_L_square [vR 0 (-1), vI p1, vI p2] h Q := by
  refine ⟨d0, hd, Big.of rfl (Nat.le_of_ble_eq_true rfl) ?_⟩
  show AW d0 M_L_square Q 0 [some (vR 0 (-1)), some (vI p1), some (vI p2)] [] h
  refine a_iload_n dX10_square_0 rfl ?_
  refine a_iconst (x := 2) dX10_square_1 rfl ⟨by decide, by decide⟩ ?_
  refine a_icmp_lt (tgt := 20) dX10_square_2 (by decide) (fun c => ?_) (fun c => ?_)
  · have hy := hy.1 c
    refine a_iconst (x := (-1)) dX10_square_20 rfl ⟨by decide, by decide⟩ ?_
    exact a_iret dX10_square_21 rfl hy
  · have hy := hy.2 (Int.not_lt.mp c)
    refine a_iload_n dX10_square_5 rfl ?_
    refine a_iconst (x := 4) dX10_square_6 rfl ⟨by decide, by decide⟩ ?_
    refine a_icmp_gt (tgt := 20) dX10_square_7 (by decide) (fun c => ?_) (fun c => ?_)
    · have hy := hy.1 c
      refine a_iconst (x := (-1)) dX10_square_20 rfl ⟨by decide, by decide⟩ ?_
      exact a_iret dX10_square_21 rfl hy
    · have hy := hy.2 (Int.not_lt.mp c)
      refine a_iload_n dX10_square_10 rfl ?_
      refine a_iconst (x := (-1)) dX10_square_11 rfl ⟨by decide, by decide⟩ ?_
      refine a_icmp_lt (tgt := 20) dX10_square_12 (by decide) (fun c => ?_) (fun c => ?_)
      · have hy := hy.1 c
        refine a_iconst (x := (-1)) dX10_square_20 rfl ⟨by decide, by decide⟩ ?_
        exact a_iret dX10_square_21 rfl hy
      · have hy := hy.2 (Int.not_lt.mp c)
        refine a_iload_n dX10_square_15 rfl ?_
        refine a_iload_n dX10_square_16 rfl ?_
        refine a_icmp_lt (tgt := 22) dX10_square_17 (by decide) (fun c => ?_) (fun c => ?_)
        · have hy := hy.1 c
          refine a_aload_n dX10_square_22 rfl ?_
          refine a_getR dX10_square_23 fl_L_89 sk_0 rfl ?_
          refine a_iload_n dX10_square_26 rfl ?_
          refine a_callVv (as := [vI p1]) (st := []) dX10_square_27 lk_L_316 sk_11 rfl rfl (Nat.le_of_ble_eq_true rfl) rfl (Call.mono hy (fun _ h1 _ hy => ?_))
          refine a_iload_n dX10_square_30 rfl ?_
          refine a_iconst (x := (-1)) dX10_square_31 rfl ⟨by decide, by decide⟩ ?_
          refine a_icmp_ne (tgt := 43) dX10_square_32 (by decide) (fun c => ?_) (fun c => ?_)
          · have hy := hy.1 c
            refine a_aload_n dX10_square_43 rfl ?_
            refine a_getR dX10_square_44 fl_L_89 sk_0 rfl ?_
            refine a_getI' (kz := 7) dX10_square_47 fl_L_318 sk_11 rfl rfl (rfl) ?_
            refine a_if_ne (tgt := 58) dX10_square_50 (by decide) (fun c => ?_) (fun c => ?_)
            · have hy := hy.1 c
              refine a_aload_n dX10_square_58 rfl ?_
              refine a_getR dX10_square_59 fl_L_89 sk_0 rfl ?_
              refine a_getR dX10_square_62 fl_L_321 sk_11 rfl ?_
              refine a_iload_n dX10_square_65 rfl ?_
              obtain ⟨c2, hy⟩ := hy
              refine a_iald' dX10_square_66 sk_57 c2 (rfl) ?_
              exact a_iret dX10_square_67 rfl hy
            · have hy := hy.2 (Decidable.not_not.mp c)
              refine a_bipush (x := (-2)) dX10_square_53 (by decide) ⟨by decide, by decide⟩ ?_
              refine a_goto (tgt := 67) dX10_square_55 (by decide) ?_
              exact a_iret dX10_square_67 rfl hy
          · have hy := hy.2 (Decidable.not_not.mp c)
            refine a_aload_n dX10_square_35 rfl ?_
            refine a_getR dX10_square_36 fl_L_89 sk_0 rfl ?_
            refine a_getI' (kz := 7) dX10_square_39 fl_L_318 sk_11 rfl rfl (rfl) ?_
            exact a_iret dX10_square_42 rfl hy
        · have hy := hy.2 (Int.not_lt.mp c)
          refine a_iconst (x := (-1)) dX10_square_20 rfl ⟨by decide, by decide⟩ ?_
          exact a_iret dX10_square_21 rfl hy
theorem c_L_step {d : Nat} (d0 : Nat) (hd : d0 < d) {p1 : Int} {p2 : Int} {p3 : Int} {h : AH} {Q : Int → AH → Prop} (hy : Call d0 M_L_areWords [vR 0 (-1), vI p1, vI p2] h (fun r2 h1 => ((r2 = 0 → Q (-1) h1) ∧ (r2 ≠ 0 → ((p3 < 0 → Q (-1) h1) ∧ (0 ≤ p3 → ((p3 ≤ 2 → (Call d0 M_Steps_refresh [vR 6 (-1)] h1 (fun _ h3 => Call d0 M_Steps_costOf [vR 6 (-1), vI p1, vI p2] h3 (fun r5 h4 => ((r5 ≠ 0 → ((p3 ≠ 0 → ((p3 ≠ 1 → (Call d0 M_Steps_placeOf [vR 6 (-1), vI p1, vI p2] h4 (fun r7 h6 => Q r7 h6))) ∧ (p3 = 1 → (Call d0 M_Steps_kindOf [vR 6 (-1), vI p1, vI p2] h4 (fun r9 h8 => Q r9 h8))))) ∧ (p3 = 0 → (Call d0 M_Steps_costOf [vR 6 (-1), vI p1, vI p2] h4 (fun r11 h10 => Q r11 h10))))) ∧ (r5 = 0 → Q (-2) h4)))))) ∧ (2 < p3 → Q (-1) h1)))))))) : Call d M_L_step [vR 0 (-1), vI p1, vI p2, vI p3] h Q := by
  refine ⟨d0, hd, Big.of rfl (Nat.le_of_ble_eq_true rfl) ?_⟩
  show AW d0 M_L_step Q 0 [some (vR 0 (-1)), some (vI p1), some (vI p2), some (vI p3)] [] h
  refine a_aload_n dX10_step_0 rfl ?_
  refine a_iload_n dX10_step_1 rfl ?_
  refine a_iload_n dX10_step_2 rfl ?_
  refine a_callVi (as := [vI p1, vI p2]) (st := []) dX10_step_3 lk_L_167 sk_0 rfl rfl (Nat.le_of_ble_eq_true rfl) (Or.inr rfl) (Call.mono hy (fun r2 h1 _ hy => ?_))
  refine a_if_eq (tgt := 18) dX10_step_6 (by decide) (fun c => ?_) (fun c => ?_)
  · have hy := hy.1 c
    refine a_iconst (x := (-1)) dX10_step_18 rfl ⟨by decide, by decide⟩ ?_
    exact a_iret dX10_step_19 rfl hy
  · have hy := hy.2 (c)
    refine a_iload_n dX10_step_9 rfl ?_
    refine a_if_lt (tgt := 18) dX10_step_10 (by decide) (fun c => ?_) (fun c => ?_)
    · have hy := hy.1 c
      refine a_iconst (x := (-1)) dX10_step_18 rfl ⟨by decide, by decide⟩ ?_
      exact a_iret dX10_step_19 rfl hy
    · have hy := hy.2 (Int.not_lt.mp c)
      refine a_iload_n dX10_step_13 rfl ?_
      refine a_iconst (x := 2) dX10_step_14 rfl ⟨by decide, by decide⟩ ?_
      refine a_icmp_le (tgt := 20) dX10_step_15 (by decide) (fun c => ?_) (fun c => ?_)
      · have hy := hy.1 c
        refine a_aload_n dX10_step_20 rfl ?_
        refine a_getR dX10_step_21 fl_L_44 sk_0 rfl ?_
        refine a_callVv (as := []) (st := []) dX10_step_24 lk_L_171 sk_6 rfl rfl (Nat.le_of_ble_eq_true rfl) rfl (Call.mono hy (fun _ h3 _ hy => ?_))
        refine a_aload_n dX10_step_27 rfl ?_
        refine a_getR dX10_step_28 fl_L_44 sk_0 rfl ?_
        refine a_iload_n dX10_step_31 rfl ?_
        refine a_iload_n dX10_step_32 rfl ?_
        refine a_callVi (as := [vI p1, vI p2]) (st := []) dX10_step_33 lk_L_174 sk_6 rfl rfl (Nat.le_of_ble_eq_true rfl) (Or.inl rfl) (Call.mono hy (fun r5 h4 _ hy => ?_))
        refine a_if_ne (tgt := 42) dX10_step_36 (by decide) (fun c => ?_) (fun c => ?_)
        · have hy := hy.1 c
          refine a_iload_n dX10_step_42 rfl ?_
          refine a_if_ne (tgt := 56) dX10_step_43 (by decide) (fun c => ?_) (fun c => ?_)
          · have hy := hy.1 c
            refine a_iload_n dX10_step_56 rfl ?_
            refine a_iconst (x := 1) dX10_step_57 rfl ⟨by decide, by decide⟩ ?_
            refine a_icmp_ne (tgt := 73) dX10_step_58 (by decide) (fun c => ?_) (fun c => ?_)
            · have hy := hy.1 c
              refine a_aload_n dX10_step_73 rfl ?_
              refine a_getR dX10_step_74 fl_L_44 sk_0 rfl ?_
              refine a_iload_n dX10_step_77 rfl ?_
              refine a_iload_n dX10_step_78 rfl ?_
              refine a_callVi (as := [vI p1, vI p2]) (st := []) dX10_step_79 lk_L_181 sk_6 rfl rfl (Nat.le_of_ble_eq_true rfl) (Or.inl rfl) (Call.mono hy (fun r7 h6 _ hy => ?_))
              exact a_iret dX10_step_82 rfl hy
            · have hy := hy.2 (Decidable.not_not.mp c)
              refine a_aload_n dX10_step_61 rfl ?_
              refine a_getR dX10_step_62 fl_L_44 sk_0 rfl ?_
              refine a_iload_n dX10_step_65 rfl ?_
              refine a_iload_n dX10_step_66 rfl ?_
              refine a_callVi (as := [vI p1, vI p2]) (st := []) dX10_step_67 lk_L_178 sk_6 rfl rfl (Nat.le_of_ble_eq_true rfl) (Or.inl rfl) (Call.mono hy (fun r9 h8 _ hy => ?_))
              refine a_goto (tgt := 82) dX10_step_70 (by decide) ?_
              exact a_iret dX10_step_82 rfl hy
          · have hy := hy.2 (Decidable.not_not.mp c)
            refine a_aload_n dX10_step_46 rfl ?_
            refine a_getR dX10_step_47 fl_L_44 sk_0 rfl ?_
            refine a_iload_n dX10_step_50 rfl ?_
            refine a_iload_n dX10_step_51 rfl ?_
            refine a_callVi (as := [vI p1, vI p2]) (st := []) dX10_step_52 lk_L_174 sk_6 rfl rfl (Nat.le_of_ble_eq_true rfl) (Or.inl rfl) (Call.mono hy (fun r11 h10 _ hy => ?_))
            exact a_iret dX10_step_55 rfl hy
        · have hy := hy.2 (Decidable.not_not.mp c)
          refine a_bipush (x := (-2)) dX10_step_39 (by decide) ⟨by decide, by decide⟩ ?_
          exact a_iret dX10_step_41 rfl hy
      · have hy := hy.2 (Int.not_le.mp c)
        refine a_iconst (x := (-1)) dX10_step_18 rfl ⟨by decide, by decide⟩ ?_
        exact a_iret dX10_step_19 rfl hy
theorem c_L_walks {d : Nat} (d0 : Nat) (hd : d0 < d) {p1 : Int} {p2 : Int} {p3 : Int} {h : AH} {Q : Int → AH → Prop} (hy : Call d0 M_L_areWords [vR 0 (-1), vI p1, vI p2] h (fun r2 h1 => ((r2 = 0 → Q (-1) h1) ∧ (r2 ≠ 0 → ((p3 < 0 → Q (-1) h1) ∧ (0 ≤ p3 → ((p3 ≤ 10 → (Call d0 M_Words_isUsed [vR 2 (-1), vI p1] h1 (fun r4 h3 => ((r4 = 0 → Q 0 h3) ∧ (r4 ≠ 0 → (Call d0 M_Words_isUsed [vR 2 (-1), vI p2] h3 (fun r6 h5 => ((r6 ≠ 0 → (Call d0 M_Steps_refresh [vR 6 (-1)] h5 (fun _ h7 => Call d0 M_Ways_countWalks [vR 7 (-1), vI p1, vI p2, vI p3] h7 (fun r9 h8 => Q r9 h8)))) ∧ (r6 = 0 → Q 0 h5))))))))) ∧ (10 < p3 → Q (-1) h1)))))))) : Call d M_L_walks [vR 0 (-1), vI p1, vI p2, vI p3] h Q := by
  refine ⟨d0, hd, Big.of rfl (Nat.le_of_ble_eq_true rfl) ?_⟩
  show AW d0 M_L_walks Q 0 [some (vR 0 (-1)), some (vI p1), some (vI p2), some (vI p3)] [] h
  refine a_aload_n dX10_walks_0 rfl ?_
  refine a_iload_n dX10_walks_1 rfl ?_
  refine a_iload_n dX10_walks_2 rfl ?_
  refine a_callVi (as := [vI p1, vI p2]) (st := []) dX10_walks_3 lk_L_167 sk_0 rfl rfl (Nat.le_of_ble_eq_true rfl) (Or.inr rfl) (Call.mono hy (fun r2 h1 _ hy => ?_))
  refine a_if_eq (tgt := 19) dX10_walks_6 (by decide) (fun c => ?_) (fun c => ?_)
  · have hy := hy.1 c
    refine a_ldc2 (x := (-1)) dX10_walks_19 kc_L_196 ⟨by decide, by decide⟩ ?_
    exact a_lret dX10_walks_22 rfl hy
  · have hy := hy.2 (c)
    refine a_iload_n dX10_walks_9 rfl ?_
    refine a_if_lt (tgt := 19) dX10_walks_10 (by decide) (fun c => ?_) (fun c => ?_)
    · have hy := hy.1 c
      refine a_ldc2 (x := (-1)) dX10_walks_19 kc_L_196 ⟨by decide, by decide⟩ ?_
      exact a_lret dX10_walks_22 rfl hy
    · have hy := hy.2 (Int.not_lt.mp c)
      refine a_iload_n dX10_walks_13 rfl ?_
      refine a_bipush (x := 10) dX10_walks_14 (by decide) ⟨by decide, by decide⟩ ?_
      refine a_icmp_le (tgt := 23) dX10_walks_16 (by decide) (fun c => ?_) (fun c => ?_)
      · have hy := hy.1 c
        refine a_aload_n dX10_walks_23 rfl ?_
        refine a_getR dX10_walks_24 fl_L_19 sk_0 rfl ?_
        refine a_iload_n dX10_walks_27 rfl ?_
        refine a_callVi (as := [vI p1]) (st := []) dX10_walks_28 lk_L_213 sk_2 rfl rfl (Nat.le_of_ble_eq_true rfl) (Or.inr rfl) (Call.mono hy (fun r4 h3 _ hy => ?_))
        refine a_if_eq (tgt := 45) dX10_walks_31 (by decide) (fun c => ?_) (fun c => ?_)
        · have hy := hy.1 c
          refine a_lconst (x := 0) dX10_walks_45 rfl ⟨by decide, by decide⟩ ?_
          exact a_lret dX10_walks_46 rfl hy
        · have hy := hy.2 (c)
          refine a_aload_n dX10_walks_34 rfl ?_
          refine a_getR dX10_walks_35 fl_L_19 sk_0 rfl ?_
          refine a_iload_n dX10_walks_38 rfl ?_
          refine a_callVi (as := [vI p2]) (st := []) dX10_walks_39 lk_L_213 sk_2 rfl rfl (Nat.le_of_ble_eq_true rfl) (Or.inr rfl) (Call.mono hy (fun r6 h5 _ hy => ?_))
          refine a_if_ne (tgt := 47) dX10_walks_42 (by decide) (fun c => ?_) (fun c => ?_)
          · have hy := hy.1 c
            refine a_aload_n dX10_walks_47 rfl ?_
            refine a_getR dX10_walks_48 fl_L_44 sk_0 rfl ?_
            refine a_callVv (as := []) (st := []) dX10_walks_51 lk_L_171 sk_6 rfl rfl (Nat.le_of_ble_eq_true rfl) rfl (Call.mono hy (fun _ h7 _ hy => ?_))
            refine a_aload_n dX10_walks_54 rfl ?_
            refine a_getR dX10_walks_55 fl_L_53 sk_0 rfl ?_
            refine a_iload_n dX10_walks_58 rfl ?_
            refine a_iload_n dX10_walks_59 rfl ?_
            refine a_iload_n dX10_walks_60 rfl ?_
            refine a_callVl (as := [vI p1, vI p2, vI p3]) (st := []) dX10_walks_61 lk_L_263 sk_7 rfl rfl (Nat.le_of_ble_eq_true rfl) rfl (Call.mono hy (fun r9 h8 _ hy => ?_))
            exact a_lret dX10_walks_64 rfl hy
          · have hy := hy.2 (Decidable.not_not.mp c)
            refine a_lconst (x := 0) dX10_walks_45 rfl ⟨by decide, by decide⟩ ?_
            exact a_lret dX10_walks_46 rfl hy
      · have hy := hy.2 (Int.not_le.mp c)
        refine a_ldc2 (x := (-1)) dX10_walks_19 kc_L_196 ⟨by decide, by decide⟩ ?_
        exact a_lret dX10_walks_22 rfl hy
theorem c_L_without {d : Nat} (d0 : Nat) (hd : d0 < d) {p1 : Int} {p2 : Int} {h : AH} {Q : Int → AH → Prop} (hy : Call d0 M_L_areWords [vR 0 (-1), vI p1, vI p2] h (fun r2 h1 => ((r2 ≠ 0 → (Call d0 M_Steps_refresh [vR 6 (-1)] h1 (fun _ h3 => Call d0 M_Ways_refreshReach [vR 7 (-1)] h3 (fun _ h4 => Call d0 M_Ways_reaches [vR 7 (-1), vI p1, vI p2] h4 (fun r6 h5 => ((r6 = 0 → Q (-2) h5) ∧ (r6 ≠ 0 → (Call d0 M_Ways_neededBetween [vR 7 (-1), vI p1, vI p2] h5 (fun r8 h7 => Q r8 h7))))))))) ∧ (r2 = 0 → Q (-1) h1)))) : Call d M_L_without [vR 0 (-1), vI p1, vI p2] h Q := by
  refine ⟨d0, hd, Big.of rfl (Nat.le_of_ble_eq_true rfl) ?_⟩
  show AW d0 M_L_without Q 0 [some (vR 0 (-1)), some (vI p1), some (vI p2)] [] h
  refine a_aload_n dX10_without_0 rfl ?_
  refine a_iload_n dX10_without_1 rfl ?_
  refine a_iload_n dX10_without_2 rfl ?_
  refine a_callVi (as := [vI p1, vI p2]) (st := []) dX10_without_3 lk_L_167 sk_0 rfl rfl (Nat.le_of_ble_eq_true rfl) (Or.inr rfl) (Call.mono hy (fun r2 h1 _ hy => ?_))
  refine a_if_ne (tgt := 13) dX10_without_6 (by decide) (fun c => ?_) (fun c => ?_)
  · have hy := hy.1 c
    refine a_aload_n dX10_without_13 rfl ?_
    refine a_getR dX10_without_14 fl_L_44 sk_0 rfl ?_
    refine a_callVv (as := []) (st := []) dX10_without_17 lk_L_171 sk_6 rfl rfl (Nat.le_of_ble_eq_true rfl) rfl (Call.mono hy (fun _ h3 _ hy => ?_))
    refine a_aload_n dX10_without_20 rfl ?_
    refine a_getR dX10_without_21 fl_L_53 sk_0 rfl ?_
    refine a_callVv (as := []) (st := []) dX10_without_24 lk_L_202 sk_7 rfl rfl (Nat.le_of_ble_eq_true rfl) rfl (Call.mono hy (fun _ h4 _ hy => ?_))
    refine a_aload_n dX10_without_27 rfl ?_
    refine a_getR dX10_without_28 fl_L_53 sk_0 rfl ?_
    refine a_iload_n dX10_without_31 rfl ?_
    refine a_iload_n dX10_without_32 rfl ?_
    refine a_callVi (as := [vI p1, vI p2]) (st := []) dX10_without_33 lk_L_205 sk_7 rfl rfl (Nat.le_of_ble_eq_true rfl) (Or.inr rfl) (Call.mono hy (fun r6 h5 _ hy => ?_))
    refine a_if_eq (tgt := 51) dX10_without_36 (by decide) (fun c => ?_) (fun c => ?_)
    · have hy := hy.1 c
      refine a_ldc2 (x := (-2)) dX10_without_51 kc_L_211 ⟨by decide, by decide⟩ ?_
      exact a_lret dX10_without_54 rfl hy
    · have hy := hy.2 (c)
      refine a_aload_n dX10_without_39 rfl ?_
      refine a_getR dX10_without_40 fl_L_53 sk_0 rfl ?_
      refine a_iload_n dX10_without_43 rfl ?_
      refine a_iload_n dX10_without_44 rfl ?_
      refine a_callVl (as := [vI p1, vI p2]) (st := []) dX10_without_45 lk_L_208 sk_7 rfl rfl (Nat.le_of_ble_eq_true rfl) rfl (Call.mono hy (fun r8 h7 _ hy => ?_))
      refine a_goto (tgt := 54) dX10_without_48 (by decide) ?_
      exact a_lret dX10_without_54 rfl hy
  · have hy := hy.2 (Decidable.not_not.mp c)
    refine a_ldc2 (x := (-1)) dX10_without_9 kc_L_196 ⟨by decide, by decide⟩ ?_
    exact a_lret dX10_without_12 rfl hy
def A_L_word_33 (d : Nat) (Q : Int → AH → Prop) (p1 : Int) (p2 : Int) (p3 : Int) (h : AH) : Prop := AW d M_L_word Q 33 [some (vR 0 (-1)), some (vI p1), some (vI p2), some (vI p3), none, none, none, none] [] h
def A_L_word_34 (d : Nat) (Q : Int → AH → Prop) (p1 : Int) (p2 : Int) (p3 : Int) (s0 : Int) (h : AH) : Prop := AW d M_L_word Q 34 [some (vR 0 (-1)), some (vI p1), some (vI p2), some (vI p3), none, none, none, none] [vI s0] h
theorem s_L_word_33 {d : Nat} {Q : Int → AH → Prop} {p1 : Int} {p2 : Int} {p3 : Int} {h : AH} (hy : A_L_word_34 d Q p1 p2 p3 0 h) : A_L_word_33 d Q p1 p2 p3 h := by
  show AW d M_L_word Q 33 [some (vR 0 (-1)), some (vI p1), some (vI p2), some (vI p3), none, none, none, none] [] h
  refine a_iconst (x := 0) dX10_word_33 rfl ⟨by decide, by decide⟩ ?_
  exact hy
theorem s_L_word_34 {d : Nat} {Q : Int → AH → Prop} {p1 : Int} {p2 : Int} {p3 : Int} {s0 : Int} {h : AH} (hy : ((s0 = 0 → Q (-1) h) ∧ (s0 ≠ 0 → ((40 ≤ (h.1 2 6) → Q (-1) h) ∧ ((h.1 2 6) < 40 → (Call d M_Tape_take [vR 1 (-1), vI p1] h (fun r2 h1 => ((r2 ≠ 0 → (Call d M_Tape_isAllLetters [vR 1 (-1)] h1 (fun r4 h3 => ((r4 ≠ 0 → (Call d M_Tape_takenKey [vR 1 (-1)] h3 (fun r6 h5 => Call d M_Words_holds [vR 2 (-1), vL r6] h5 (fun r8 h7 => ((r8 = 0 → (Call d M_Words_add [vR 2 (-1), vL r6, vI p2, vI p3] h7 (fun r10 h9 => Call d M_Steps_joinLast [vR 6 (-1)] h9 (fun _ h11 => Q r10 h11)))) ∧ (r8 ≠ 0 → Q (-2) h7)))))) ∧ (r4 = 0 → Q (-2) h3))))) ∧ (r2 = 0 → Q (-1) h1))))))))) : A_L_word_34 d Q p1 p2 p3 s0 h := by
  show AW d M_L_word Q 34 [some (vR 0 (-1)), some (vI p1), some (vI p2), some (vI p3), none, none, none, none] [vI s0] h
  refine a_istore (ls2 := [some (vR 0 (-1)), some (vI p1), some (vI p2), some (vI p3), some (vI s0), none, none, none]) dX10_word_34 (Nat.le_of_ble_eq_true rfl) rfl ?_
  refine a_iload dX10_word_36 rfl ?_
  refine a_if_eq (tgt := 64) dX10_word_38 (by decide) (fun c => ?_) (fun c => ?_)
  · have hy := hy.1 c
    refine a_iconst (x := (-1)) dX10_word_64 rfl ⟨by decide, by decide⟩ ?_
    exact a_iret dX10_word_65 rfl hy
  · have hy := hy.2 (c)
    refine a_aload_n dX10_word_41 rfl ?_
    refine a_getR dX10_word_42 fl_L_19 sk_0 rfl ?_
    refine a_getI' (kz := 6) dX10_word_45 fl_L_112 sk_2 rfl rfl (rfl) ?_
    refine a_bipush (x := 40) dX10_word_48 (by decide) ⟨by decide, by decide⟩ ?_
    refine a_icmp_ge (tgt := 64) dX10_word_50 (by decide) (fun c => ?_) (fun c => ?_)
    · have hy := hy.1 c
      refine a_iconst (x := (-1)) dX10_word_64 rfl ⟨by decide, by decide⟩ ?_
      exact a_iret dX10_word_65 rfl hy
    · have hy := hy.2 (Int.not_le.mp c)
      refine a_aload_n dX10_word_53 rfl ?_
      refine a_getR dX10_word_54 fl_L_10 sk_0 rfl ?_
      refine a_iload_n dX10_word_57 rfl ?_
      refine a_callVi (as := [vI p1]) (st := []) dX10_word_58 lk_L_113 sk_1 rfl rfl (Nat.le_of_ble_eq_true rfl) (Or.inr rfl) (Call.mono hy (fun r2 h1 _ hy => ?_))
      refine a_if_ne (tgt := 66) dX10_word_61 (by decide) (fun c => ?_) (fun c => ?_)
      · have hy := hy.1 c
        refine a_aload_n dX10_word_66 rfl ?_
        refine a_getR dX10_word_67 fl_L_10 sk_0 rfl ?_
        refine a_callVi (as := []) (st := []) dX10_word_70 lk_L_116 sk_1 rfl rfl (Nat.le_of_ble_eq_true rfl) (Or.inr rfl) (Call.mono hy (fun r4 h3 _ hy => ?_))
        refine a_if_ne (tgt := 79) dX10_word_73 (by decide) (fun c => ?_) (fun c => ?_)
        · have hy := hy.1 c
          refine a_aload_n dX10_word_79 rfl ?_
          refine a_getR dX10_word_80 fl_L_10 sk_0 rfl ?_
          refine a_callVl (as := []) (st := []) dX10_word_83 lk_L_119 sk_1 rfl rfl (Nat.le_of_ble_eq_true rfl) rfl (Call.mono hy (fun r6 h5 _ hy => ?_))
          refine a_lstore (ls2 := [some (vR 0 (-1)), some (vI p1), some (vI p2), some (vI p3), some (vI s0), some (vL r6), none, none]) dX10_word_86 (Nat.le_of_ble_eq_true rfl) rfl ?_
          refine a_aload_n dX10_word_88 rfl ?_
          refine a_getR dX10_word_89 fl_L_19 sk_0 rfl ?_
          refine a_lload dX10_word_92 rfl ?_
          refine a_callVi (as := [vL r6]) (st := []) dX10_word_94 lk_L_123 sk_2 rfl rfl (Nat.le_of_ble_eq_true rfl) (Or.inr rfl) (Call.mono hy (fun r8 h7 _ hy => ?_))
          refine a_if_eq (tgt := 103) dX10_word_97 (by decide) (fun c => ?_) (fun c => ?_)
          · have hy := hy.1 c
            refine a_aload_n dX10_word_103 rfl ?_
            refine a_getR dX10_word_104 fl_L_19 sk_0 rfl ?_
            refine a_lload dX10_word_107 rfl ?_
            refine a_iload_n dX10_word_109 rfl ?_
            refine a_iload_n dX10_word_110 rfl ?_
            refine a_callVi (as := [vL r6, vI p2, vI p3]) (st := []) dX10_word_111 lk_L_127 sk_2 rfl rfl (Nat.le_of_ble_eq_true rfl) (Or.inl rfl) (Call.mono hy (fun r10 h9 _ hy => ?_))
            refine a_istore (ls2 := [some (vR 0 (-1)), some (vI p1), some (vI p2), some (vI p3), some (vI s0), some (vL r6), none, some (vI r10)]) dX10_word_114 (Nat.le_of_ble_eq_true rfl) rfl ?_
            refine a_aload_n dX10_word_116 rfl ?_
            refine a_getR dX10_word_117 fl_L_44 sk_0 rfl ?_
            refine a_callVv (as := []) (st := []) dX10_word_120 lk_L_131 sk_6 rfl rfl (Nat.le_of_ble_eq_true rfl) rfl (Call.mono hy (fun _ h11 _ hy => ?_))
            refine a_iload dX10_word_123 rfl ?_
            exact a_iret dX10_word_125 rfl hy
          · have hy := hy.2 (c)
            refine a_bipush (x := (-2)) dX10_word_100 (by decide) ⟨by decide, by decide⟩ ?_
            exact a_iret dX10_word_102 rfl hy
        · have hy := hy.2 (Decidable.not_not.mp c)
          refine a_bipush (x := (-2)) dX10_word_76 (by decide) ⟨by decide, by decide⟩ ?_
          exact a_iret dX10_word_78 rfl hy
      · have hy := hy.2 (Decidable.not_not.mp c)
        refine a_iconst (x := (-1)) dX10_word_64 rfl ⟨by decide, by decide⟩ ?_
        exact a_iret dX10_word_65 rfl hy
theorem c_L_word {d : Nat} (d0 : Nat) (hd : d0 < d) {p1 : Int} {p2 : Int} {p3 : Int} {h : AH} {Q : Int → AH → Prop} (hy : ((p1 < 1 → A_L_word_33 d0 Q p1 p2 p3 h) ∧ (1 ≤ p1 → ((8 < p1 → A_L_word_33 d0 Q p1 p2 p3 h) ∧ (p1 ≤ 8 → (Call d0 M_L_isKnownLevel [vI p2] h (fun r2 h1 => ((r2 = 0 → A_L_word_33 d0 Q p1 p2 p3 h1) ∧ (r2 ≠ 0 → ((p3 < 1 → A_L_word_33 d0 Q p1 p2 p3 h1) ∧ (1 ≤ p3 → ((15 < p3 → A_L_word_33 d0 Q p1 p2 p3 h1) ∧ (p3 ≤ 15 → A_L_word_34 d0 Q p1 p2 p3 1 h1))))))))))))) : Call d M_L_word [vR 0 (-1), vI p1, vI p2, vI p3] h Q := by
  refine ⟨d0, hd, Big.of rfl (Nat.le_of_ble_eq_true rfl) ?_⟩
  show AW d0 M_L_word Q 0 [some (vR 0 (-1)), some (vI p1), some (vI p2), some (vI p3), none, none, none, none] [] h
  refine a_iload_n dX10_word_0 rfl ?_
  refine a_iconst (x := 1) dX10_word_1 rfl ⟨by decide, by decide⟩ ?_
  refine a_icmp_lt (tgt := 33) dX10_word_2 (by decide) (fun c => ?_) (fun c => ?_)
  · have hy := hy.1 c
    exact hy
  · have hy := hy.2 (Int.not_lt.mp c)
    refine a_iload_n dX10_word_5 rfl ?_
    refine a_bipush (x := 8) dX10_word_6 (by decide) ⟨by decide, by decide⟩ ?_
    refine a_icmp_gt (tgt := 33) dX10_word_8 (by decide) (fun c => ?_) (fun c => ?_)
    · have hy := hy.1 c
      exact hy
    · have hy := hy.2 (Int.not_lt.mp c)
      refine a_iload_n dX10_word_11 rfl ?_
      refine a_callSi (as := [vI p2]) (st := []) dX10_word_12 lk_L_108 rfl rfl (Nat.le_of_ble_eq_true rfl) (Or.inr rfl) (Call.mono hy (fun r2 h1 _ hy => ?_))
      refine a_if_eq (tgt := 33) dX10_word_15 (by decide) (fun c => ?_) (fun c => ?_)
      · have hy := hy.1 c
        exact hy
      · have hy := hy.2 (c)
        refine a_iload_n dX10_word_18 rfl ?_
        refine a_iconst (x := 1) dX10_word_19 rfl ⟨by decide, by decide⟩ ?_
        refine a_icmp_lt (tgt := 33) dX10_word_20 (by decide) (fun c => ?_) (fun c => ?_)
        · have hy := hy.1 c
          exact hy
        · have hy := hy.2 (Int.not_lt.mp c)
          refine a_iload_n dX10_word_23 rfl ?_
          refine a_bipush (x := 15) dX10_word_24 (by decide) ⟨by decide, by decide⟩ ?_
          refine a_icmp_gt (tgt := 33) dX10_word_26 (by decide) (fun c => ?_) (fun c => ?_)
          · have hy := hy.1 c
            exact hy
          · have hy := hy.2 (Int.not_lt.mp c)
            refine a_iconst (x := 1) dX10_word_29 rfl ⟨by decide, by decide⟩ ?_
            refine a_goto (tgt := 34) dX10_word_30 (by decide) ?_
            exact hy

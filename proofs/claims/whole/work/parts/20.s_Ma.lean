def A_M_areAlikeBut_3 (d : Nat) (Q : Int → AH → Prop) (p1 : Int) (p2 : Int) (p3 : Int) (p4 : Int) (v5 : Int) (h : AH) : Prop := AW d M_M_areAlikeBut Q 3 [some (vR 12 (-1)), some (vI p1), some (vI p2), some (vI p3), some (vI p4), some (vI v5)] [] h
def A_M_areAlikeBut_29 (d : Nat) (Q : Int → AH → Prop) (p1 : Int) (p2 : Int) (p3 : Int) (p4 : Int) (v5 : Int) (h : AH) : Prop := AW d M_M_areAlikeBut Q 29 [some (vR 12 (-1)), some (vI p1), some (vI p2), some (vI p3), some (vI p4), some (vI v5)] [] h
theorem s_M_areAlikeBut_3 {d : Nat} {Q : Int → AH → Prop} {p1 : Int} {p2 : Int} {p3 : Int} {p4 : Int} {v5 : Int} {h : AH} (hy : inb p1 40 ∧ (((h.1 58 p1) ≤ v5 → Q 1 h) ∧ (v5 < (h.1 58 p1) → ((v5 < p3 → A_M_areAlikeBut_29 d Q p1 p2 p3 p4 v5 h) ∧ (p3 ≤ v5 → (inI (p3 + p4) ∧ ((v5 < (p3 + p4) → (inI (v5 + 1) ∧ A_M_areAlikeBut_3 d Q p1 p2 p3 p4 (v5 + 1) h)) ∧ ((p3 + p4) ≤ v5 → A_M_areAlikeBut_29 d Q p1 p2 p3 p4 v5 h)))))))) : A_M_areAlikeBut_3 d Q p1 p2 p3 p4 v5 h := by
  show AW d M_M_areAlikeBut Q 3 [some (vR 12 (-1)), some (vI p1), some (vI p2), some (vI p3), some (vI p4), some (vI v5)] [] h
  refine a_iload dX11_areAlikeBut_3 rfl ?_
  refine a_aload_n dX11_areAlikeBut_5 rfl ?_
  refine a_getR dX11_areAlikeBut_6 fl_M_7 sk_12 rfl ?_
  refine a_iload_n dX11_areAlikeBut_9 rfl ?_
  obtain ⟨c1, hy⟩ := hy
  refine a_iald' dX11_areAlikeBut_10 sk_58 c1 (rfl) ?_
  refine a_icmp_ge (tgt := 54) dX11_areAlikeBut_11 (by decide) (fun c => ?_) (fun c => ?_)
  · have hy := hy.1 c
    refine a_iconst (x := 1) dX11_areAlikeBut_54 rfl ⟨by decide, by decide⟩ ?_
    exact a_zret dX11_areAlikeBut_55 rfl (Or.inr rfl) hy
  · have hy := hy.2 (Int.not_le.mp c)
    refine a_iload dX11_areAlikeBut_14 rfl ?_
    refine a_iload_n dX11_areAlikeBut_16 rfl ?_
    refine a_icmp_lt (tgt := 29) dX11_areAlikeBut_17 (by decide) (fun c => ?_) (fun c => ?_)
    · have hy := hy.1 c
      exact hy
    · have hy := hy.2 (Int.not_lt.mp c)
      refine a_iload dX11_areAlikeBut_20 rfl ?_
      refine a_iload_n dX11_areAlikeBut_22 rfl ?_
      refine a_iload dX11_areAlikeBut_23 rfl ?_
      obtain ⟨c2, hy⟩ := hy
      refine a_iadd dX11_areAlikeBut_25 c2 ?_
      refine a_icmp_lt (tgt := 48) dX11_areAlikeBut_26 (by decide) (fun c => ?_) (fun c => ?_)
      · have hy := hy.1 c
        obtain ⟨c3, hy⟩ := hy
        refine a_iinc (y := v5 + 1) (ls2 := [some (vR 12 (-1)), some (vI p1), some (vI p2), some (vI p3), some (vI p4), some (vI (v5 + 1))]) dX11_areAlikeBut_48 rfl rfl c3 rfl ?_
        refine a_goto (tgt := 3) dX11_areAlikeBut_51 (by decide) ?_
        exact hy
      · have hy := hy.2 (Int.not_lt.mp c)
        exact hy
theorem s_M_areAlikeBut_29 {d : Nat} {Q : Int → AH → Prop} {p1 : Int} {p2 : Int} {p3 : Int} {p4 : Int} {v5 : Int} {h : AH} (hy : Call d M_M_letter [vR 12 (-1), vI p1, vI v5] h (fun r2 h1 => Call d M_M_letter [vR 12 (-1), vI p2, vI v5] h1 (fun r4 h3 => ((r2 = r4 → (inI (v5 + 1) ∧ A_M_areAlikeBut_3 d Q p1 p2 p3 p4 (v5 + 1) h3)) ∧ (r2 ≠ r4 → Q 0 h3))))) : A_M_areAlikeBut_29 d Q p1 p2 p3 p4 v5 h := by
  show AW d M_M_areAlikeBut Q 29 [some (vR 12 (-1)), some (vI p1), some (vI p2), some (vI p3), some (vI p4), some (vI v5)] [] h
  refine a_aload_n dX11_areAlikeBut_29 rfl ?_
  refine a_iload_n dX11_areAlikeBut_30 rfl ?_
  refine a_iload dX11_areAlikeBut_31 rfl ?_
  refine a_callVi (as := [vI p1, vI v5]) (st := []) dX11_areAlikeBut_33 lk_M_262 sk_12 rfl rfl (Nat.le_of_ble_eq_true rfl) (Or.inl rfl) (Call.mono hy (fun r2 h1 _ hy => ?_))
  refine a_aload_n dX11_areAlikeBut_36 rfl ?_
  refine a_iload_n dX11_areAlikeBut_37 rfl ?_
  refine a_iload dX11_areAlikeBut_38 rfl ?_
  refine a_callVi (as := [vI p2, vI v5]) (st := [vI r2]) dX11_areAlikeBut_40 lk_M_262 sk_12 rfl rfl (Nat.le_of_ble_eq_true rfl) (Or.inl rfl) (Call.mono hy (fun r4 h3 _ hy => ?_))
  refine a_icmp_eq (tgt := 48) dX11_areAlikeBut_43 (by decide) (fun c => ?_) (fun c => ?_)
  · have hy := hy.1 c
    obtain ⟨c5, hy⟩ := hy
    refine a_iinc (y := v5 + 1) (ls2 := [some (vR 12 (-1)), some (vI p1), some (vI p2), some (vI p3), some (vI p4), some (vI (v5 + 1))]) dX11_areAlikeBut_48 rfl rfl c5 rfl ?_
    refine a_goto (tgt := 3) dX11_areAlikeBut_51 (by decide) ?_
    exact hy
  · have hy := hy.2 (c)
    refine a_iconst (x := 0) dX11_areAlikeBut_46 rfl ⟨by decide, by decide⟩ ?_
    exact a_zret dX11_areAlikeBut_47 rfl (Or.inl rfl) hy
theorem c_M_areAlikeBut {d : Nat} (d0 : Nat) (hd : d0 < d) {p1 : Int} {p2 : Int} {p3 : Int} {p4 : Int} {h : AH} {Q : Int → AH → Prop} (hy : A_M_areAlikeBut_3 d0 Q p1 p2 p3 p4 0 h) : Call d M_M_areAlikeBut [vR 12 (-1), vI p1, vI p2, vI p3, vI p4] h Q := by
  refine ⟨d0, hd, Big.of rfl (Nat.le_of_ble_eq_true rfl) ?_⟩
  show AW d0 M_M_areAlikeBut Q 0 [some (vR 12 (-1)), some (vI p1), some (vI p2), some (vI p3), some (vI p4), none] [] h
  refine a_iconst (x := 0) dX11_areAlikeBut_0 rfl ⟨by decide, by decide⟩ ?_
  refine a_istore (ls2 := [some (vR 12 (-1)), some (vI p1), some (vI p2), some (vI p3), some (vI p4), some (vI 0)]) dX11_areAlikeBut_1 (Nat.le_of_ble_eq_true rfl) rfl ?_
  exact hy
def A_M_areUsed_2 (d : Nat) (Q : Int → AH → Prop) (p1 : Int) (v2 : Int) (h : AH) : Prop := AW d M_M_areUsed Q 2 [some (vR 12 (-1)), some (vI p1), some (vI v2)] [] h
theorem s_M_areUsed_2 {d : Nat} {Q : Int → AH → Prop} {p1 : Int} {v2 : Int} {h : AH} (hy : ((p1 ≤ v2 → Q 1 h) ∧ (v2 < p1 → (inb v2 14 ∧ (Call d M_M_isUsed [vR 12 (-1), vI (h.1 88 v2)] h (fun r3 h2 => ((r3 ≠ 0 → (inI (v2 + 1) ∧ A_M_areUsed_2 d Q p1 (v2 + 1) h2)) ∧ (r3 = 0 → Q 0 h2)))))))) : A_M_areUsed_2 d Q p1 v2 h := by
  show AW d M_M_areUsed Q 2 [some (vR 12 (-1)), some (vI p1), some (vI v2)] [] h
  refine a_iload_n dX11_areUsed_2 rfl ?_
  refine a_iload_n dX11_areUsed_3 rfl ?_
  refine a_icmp_ge (tgt := 28) dX11_areUsed_4 (by decide) (fun c => ?_) (fun c => ?_)
  · have hy := hy.1 c
    refine a_iconst (x := 1) dX11_areUsed_28 rfl ⟨by decide, by decide⟩ ?_
    exact a_zret dX11_areUsed_29 rfl (Or.inr rfl) hy
  · have hy := hy.2 (Int.not_le.mp c)
    refine a_aload_n dX11_areUsed_7 rfl ?_
    refine a_aload_n dX11_areUsed_8 rfl ?_
    refine a_getR dX11_areUsed_9 fl_M_103 sk_12 rfl ?_
    refine a_iload_n dX11_areUsed_12 rfl ?_
    obtain ⟨c1, hy⟩ := hy
    refine a_iald' dX11_areUsed_13 sk_88 c1 (rfl) ?_
    refine a_callVi (as := [vI (h.1 88 v2)]) (st := []) dX11_areUsed_14 lk_M_282 sk_12 rfl rfl (Nat.le_of_ble_eq_true rfl) (Or.inr rfl) (Call.mono hy (fun r3 h2 _ hy => ?_))
    refine a_if_ne (tgt := 22) dX11_areUsed_17 (by decide) (fun c => ?_) (fun c => ?_)
    · have hy := hy.1 c
      obtain ⟨c4, hy⟩ := hy
      refine a_iinc (y := v2 + 1) (ls2 := [some (vR 12 (-1)), some (vI p1), some (vI (v2 + 1))]) dX11_areUsed_22 rfl rfl c4 rfl ?_
      refine a_goto (tgt := 2) dX11_areUsed_25 (by decide) ?_
      exact hy
    · have hy := hy.2 (Decidable.not_not.mp c)
      refine a_iconst (x := 0) dX11_areUsed_20 rfl ⟨by decide, by decide⟩ ?_
      exact a_zret dX11_areUsed_21 rfl (Or.inl rfl) hy
theorem c_M_areUsed {d : Nat} (d0 : Nat) (hd : d0 < d) {p1 : Int} {h : AH} {Q : Int → AH → Prop} (hy : A_M_areUsed_2 d0 Q p1 0 h) : Call d M_M_areUsed [vR 12 (-1), vI p1] h Q := by
  refine ⟨d0, hd, Big.of rfl (Nat.le_of_ble_eq_true rfl) ?_⟩
  show AW d0 M_M_areUsed Q 0 [some (vR 12 (-1)), some (vI p1), none] [] h
  refine a_iconst (x := 0) dX11_areUsed_0 rfl ⟨by decide, by decide⟩ ?_
  refine a_istore_n (i := 2) (ls2 := [some (vR 12 (-1)), some (vI p1), some (vI 0)]) dX11_areUsed_1 rfl (Nat.le_of_ble_eq_true rfl) rfl ?_
  exact hy
theorem c_M_bar {d : Nat} (d0 : Nat) (hd : d0 < d) {p1 : Int} {p2 : Int} {h : AH} {Q : Int → AH → Prop} (hy : Call d0 M_M_isWord [vR 12 (-1), vI p1] h (fun r2 h1 => ((r2 = 0 → Q 0 h1) ∧ (r2 ≠ 0 → (inb p1 40 ∧ (((h1.1 62 p1) ≠ p2 → ((p2 = 0 ∨ p2 = 1) ∧ Q 1 (wI h1 62 p1 p2))) ∧ ((h1.1 62 p1) = p2 → Q 0 h1))))))) : Call d M_M_bar [vR 12 (-1), vI p1, vI p2] h Q := by
  refine ⟨d0, hd, Big.of rfl (Nat.le_of_ble_eq_true rfl) ?_⟩
  show AW d0 M_M_bar Q 0 [some (vR 12 (-1)), some (vI p1), some (vI p2)] [] h
  refine a_aload_n dX11_bar_0 rfl ?_
  refine a_iload_n dX11_bar_1 rfl ?_
  refine a_callVi (as := [vI p1]) (st := []) dX11_bar_2 lk_M_154 sk_12 rfl rfl (Nat.le_of_ble_eq_true rfl) (Or.inr rfl) (Call.mono hy (fun r2 h1 _ hy => ?_))
  refine a_if_eq (tgt := 18) dX11_bar_5 (by decide) (fun c => ?_) (fun c => ?_)
  · have hy := hy.1 c
    refine a_iconst (x := 0) dX11_bar_18 rfl ⟨by decide, by decide⟩ ?_
    exact a_zret dX11_bar_19 rfl (Or.inl rfl) hy
  · have hy := hy.2 (c)
    refine a_aload_n dX11_bar_8 rfl ?_
    refine a_getR dX11_bar_9 fl_M_22 sk_12 rfl ?_
    refine a_iload_n dX11_bar_12 rfl ?_
    obtain ⟨c3, hy⟩ := hy
    refine a_zald' dX11_bar_13 sk_62 c3 (rfl) ?_
    refine a_iload_n dX11_bar_14 rfl ?_
    refine a_icmp_ne (tgt := 20) dX11_bar_15 (by decide) (fun c => ?_) (fun c => ?_)
    · have hy := hy.1 c
      refine a_aload_n dX11_bar_20 rfl ?_
      refine a_getR dX11_bar_21 fl_M_22 sk_12 rfl ?_
      refine a_iload_n dX11_bar_24 rfl ?_
      refine a_iload_n dX11_bar_25 rfl ?_
      obtain ⟨c4, hy⟩ := hy
      refine a_zast dX11_bar_26 sk_62 c3 c4 ?_
      refine a_iconst (x := 1) dX11_bar_27 rfl ⟨by decide, by decide⟩ ?_
      exact a_zret dX11_bar_28 rfl (Or.inr rfl) hy
    · have hy := hy.2 (Decidable.not_not.mp c)
      refine a_iconst (x := 0) dX11_bar_18 rfl ⟨by decide, by decide⟩ ?_
      exact a_zret dX11_bar_19 rfl (Or.inl rfl) hy
def A_M_between_24 (d : Nat) (Q : Int → AH → Prop) (p1 : Int) (v2 : Int) (v3 : Int) (v4 : Int) (h : AH) : Prop := AW d M_M_between Q 24 [some (vR 12 (-1)), some (vI p1), some (vI v2), some (vI v3), some (vI v4), none] [] h
theorem s_M_between_24 {d : Nat} {Q : Int → AH → Prop} {p1 : Int} {v2 : Int} {v3 : Int} {v4 : Int} {h : AH} (hy : (((h.1 12 0) ≤ v4 → ((p1 ≠ 0 → Q v3 h) ∧ (p1 = 0 → Q v2 h))) ∧ (v4 < (h.1 12 0) → (Call d M_M_isUsed [vR 12 (-1), vI v4] h (fun r2 h1 => ((r2 ≠ 0 → (Call d M_M_twosBy [vR 12 (-1), vI v4] h1 (fun r4 h3 => ((v2 = (-2) → (inI (v4 + 1) ∧ A_M_between_24 d Q p1 v4 r4 (v4 + 1) h3)) ∧ (v2 ≠ (-2) → ((v3 < r4 → (inI (v4 + 1) ∧ A_M_between_24 d Q p1 v4 r4 (v4 + 1) h3)) ∧ (r4 ≤ v3 → (inI (v4 + 1) ∧ A_M_between_24 d Q p1 v2 v3 (v4 + 1) h3)))))))) ∧ (r2 = 0 → (inI (v4 + 1) ∧ A_M_between_24 d Q p1 v2 v3 (v4 + 1) h1)))))))) : A_M_between_24 d Q p1 v2 v3 v4 h := by
  show AW d M_M_between Q 24 [some (vR 12 (-1)), some (vI p1), some (vI v2), some (vI v3), some (vI v4), none] [] h
  refine a_iload dX11_between_24 rfl ?_
  refine a_aload_n dX11_between_26 rfl ?_
  refine a_getI' (kz := 0) dX11_between_27 fl_M_130 sk_12 rfl rfl (rfl) ?_
  refine a_icmp_ge (tgt := 80) dX11_between_30 (by decide) (fun c => ?_) (fun c => ?_)
  · have hy := hy.1 c
    refine a_iload_n dX11_between_80 rfl ?_
    refine a_if_ne (tgt := 88) dX11_between_81 (by decide) (fun c => ?_) (fun c => ?_)
    · have hy := hy.1 c
      refine a_iload_n dX11_between_88 rfl ?_
      exact a_iret dX11_between_89 rfl hy
    · have hy := hy.2 (Decidable.not_not.mp c)
      refine a_iload_n dX11_between_84 rfl ?_
      refine a_goto (tgt := 89) dX11_between_85 (by decide) ?_
      exact a_iret dX11_between_89 rfl hy
  · have hy := hy.2 (Int.not_le.mp c)
    refine a_aload_n dX11_between_33 rfl ?_
    refine a_iload dX11_between_34 rfl ?_
    refine a_callVi (as := [vI v4]) (st := []) dX11_between_36 lk_M_282 sk_12 rfl rfl (Nat.le_of_ble_eq_true rfl) (Or.inr rfl) (Call.mono hy (fun r2 h1 _ hy => ?_))
    refine a_if_ne (tgt := 45) dX11_between_39 (by decide) (fun c => ?_) (fun c => ?_)
    · have hy := hy.1 c
      refine a_aload_n dX11_between_45 rfl ?_
      refine a_iload dX11_between_46 rfl ?_
      refine a_callVi (as := [vI v4]) (st := []) dX11_between_48 lk_M_329 sk_12 rfl rfl (Nat.le_of_ble_eq_true rfl) (Or.inl rfl) (Call.mono hy (fun r4 h3 _ hy => ?_))
      refine a_istore (ls2 := [some (vR 12 (-1)), some (vI p1), some (vI v2), some (vI v3), some (vI v4), some (vI r4)]) dX11_between_51 (Nat.le_of_ble_eq_true rfl) rfl ?_
      refine a_iload_n dX11_between_53 rfl ?_
      refine a_bipush (x := (-2)) dX11_between_54 (by decide) ⟨by decide, by decide⟩ ?_
      refine a_icmp_eq (tgt := 68) dX11_between_56 (by decide) (fun c => ?_) (fun c => ?_)
      · have hy := hy.1 c
        refine a_iload dX11_between_68 rfl ?_
        refine a_istore_n (i := 2) (ls2 := [some (vR 12 (-1)), some (vI p1), some (vI v4), some (vI v3), some (vI v4), some (vI r4)]) dX11_between_70 rfl (Nat.le_of_ble_eq_true rfl) rfl ?_
        refine a_iload dX11_between_71 rfl ?_
        refine a_istore_n (i := 3) (ls2 := [some (vR 12 (-1)), some (vI p1), some (vI v4), some (vI r4), some (vI v4), some (vI r4)]) dX11_between_73 rfl (Nat.le_of_ble_eq_true rfl) rfl ?_
        obtain ⟨c5, hy⟩ := hy
        refine a_iinc (y := v4 + 1) (ls2 := [some (vR 12 (-1)), some (vI p1), some (vI v4), some (vI r4), some (vI (v4 + 1)), some (vI r4)]) dX11_between_74 rfl rfl c5 rfl ?_
        refine a_goto (tgt := 24) dX11_between_77 (by decide) ?_
        refine a_mask [true, true, true, true, true, false] (ls2 := [some (vR 12 (-1)), some (vI p1), some (vI v4), some (vI r4), some (vI (v4 + 1)), none]) rfl rfl ?_
        exact hy
      · have hy := hy.2 (c)
        refine a_iload dX11_between_59 rfl ?_
        refine a_iload_n dX11_between_61 rfl ?_
        refine a_icmp_gt (tgt := 68) dX11_between_62 (by decide) (fun c => ?_) (fun c => ?_)
        · have hy := hy.1 c
          refine a_iload dX11_between_68 rfl ?_
          refine a_istore_n (i := 2) (ls2 := [some (vR 12 (-1)), some (vI p1), some (vI v4), some (vI v3), some (vI v4), some (vI r4)]) dX11_between_70 rfl (Nat.le_of_ble_eq_true rfl) rfl ?_
          refine a_iload dX11_between_71 rfl ?_
          refine a_istore_n (i := 3) (ls2 := [some (vR 12 (-1)), some (vI p1), some (vI v4), some (vI r4), some (vI v4), some (vI r4)]) dX11_between_73 rfl (Nat.le_of_ble_eq_true rfl) rfl ?_
          obtain ⟨c6, hy⟩ := hy
          refine a_iinc (y := v4 + 1) (ls2 := [some (vR 12 (-1)), some (vI p1), some (vI v4), some (vI r4), some (vI (v4 + 1)), some (vI r4)]) dX11_between_74 rfl rfl c6 rfl ?_
          refine a_goto (tgt := 24) dX11_between_77 (by decide) ?_
          refine a_mask [true, true, true, true, true, false] (ls2 := [some (vR 12 (-1)), some (vI p1), some (vI v4), some (vI r4), some (vI (v4 + 1)), none]) rfl rfl ?_
          exact hy
        · have hy := hy.2 (Int.not_lt.mp c)
          refine a_goto (tgt := 74) dX11_between_65 (by decide) ?_
          obtain ⟨c7, hy⟩ := hy
          refine a_iinc (y := v4 + 1) (ls2 := [some (vR 12 (-1)), some (vI p1), some (vI v2), some (vI v3), some (vI (v4 + 1)), some (vI r4)]) dX11_between_74 rfl rfl c7 rfl ?_
          refine a_goto (tgt := 24) dX11_between_77 (by decide) ?_
          refine a_mask [true, true, true, true, true, false] (ls2 := [some (vR 12 (-1)), some (vI p1), some (vI v2), some (vI v3), some (vI (v4 + 1)), none]) rfl rfl ?_
          exact hy
    · have hy := hy.2 (Decidable.not_not.mp c)
      refine a_goto (tgt := 74) dX11_between_42 (by decide) ?_
      obtain ⟨c8, hy⟩ := hy
      refine a_iinc (y := v4 + 1) (ls2 := [some (vR 12 (-1)), some (vI p1), some (vI v2), some (vI v3), some (vI (v4 + 1)), none]) dX11_between_74 rfl rfl c8 rfl ?_
      refine a_goto (tgt := 24) dX11_between_77 (by decide) ?_
      exact hy
theorem c_M_between {d : Nat} (d0 : Nat) (hd : d0 < d) {p1 : Int} {h : AH} {Q : Int → AH → Prop} (hy : Call d0 M_M_in [vI p1, vI 0, vI 1] h (fun r2 h1 => ((r2 ≠ 0 → (Call d0 M_M_laysWays [vR 12 (-1)] h1 (fun _ h3 => A_M_between_24 d0 Q p1 (-2) (-2) 0 h3))) ∧ (r2 = 0 → Q (-1) h1)))) : Call d M_M_between [vR 12 (-1), vI p1] h Q := by
  refine ⟨d0, hd, Big.of rfl (Nat.le_of_ble_eq_true rfl) ?_⟩
  show AW d0 M_M_between Q 0 [some (vR 12 (-1)), some (vI p1), none, none, none, none] [] h
  refine a_iload_n dX11_between_0 rfl ?_
  refine a_iconst (x := 0) dX11_between_1 rfl ⟨by decide, by decide⟩ ?_
  refine a_iconst (x := 1) dX11_between_2 rfl ⟨by decide, by decide⟩ ?_
  refine a_callSi (as := [vI p1, vI 0, vI 1]) (st := []) dX11_between_3 lk_M_139 rfl rfl (Nat.le_of_ble_eq_true rfl) (Or.inr rfl) (Call.mono hy (fun r2 h1 _ hy => ?_))
  refine a_if_ne (tgt := 11) dX11_between_6 (by decide) (fun c => ?_) (fun c => ?_)
  · have hy := hy.1 c
    refine a_aload_n dX11_between_11 rfl ?_
    refine a_callVv (as := []) (st := []) dX11_between_12 lk_M_306 sk_12 rfl rfl (Nat.le_of_ble_eq_true rfl) rfl (Call.mono hy (fun _ h3 _ hy => ?_))
    refine a_bipush (x := (-2)) dX11_between_15 (by decide) ⟨by decide, by decide⟩ ?_
    refine a_istore_n (i := 2) (ls2 := [some (vR 12 (-1)), some (vI p1), some (vI (-2)), none, none, none]) dX11_between_17 rfl (Nat.le_of_ble_eq_true rfl) rfl ?_
    refine a_bipush (x := (-2)) dX11_between_18 (by decide) ⟨by decide, by decide⟩ ?_
    refine a_istore_n (i := 3) (ls2 := [some (vR 12 (-1)), some (vI p1), some (vI (-2)), some (vI (-2)), none, none]) dX11_between_20 rfl (Nat.le_of_ble_eq_true rfl) rfl ?_
    refine a_iconst (x := 0) dX11_between_21 rfl ⟨by decide, by decide⟩ ?_
    refine a_istore (ls2 := [some (vR 12 (-1)), some (vI p1), some (vI (-2)), some (vI (-2)), some (vI 0), none]) dX11_between_22 (Nat.le_of_ble_eq_true rfl) rfl ?_
    exact hy
  · have hy := hy.2 (Decidable.not_not.mp c)
    refine a_iconst (x := (-1)) dX11_between_9 rfl ⟨by decide, by decide⟩ ?_
    exact a_iret dX11_between_10 rfl hy
def A_M_bits_4 (d : Nat) (Q : Int → AH → Prop) (p0 : Int) (v1 : Int) (v2 : Int) (h : AH) : Prop := AW d M_M_bits Q 4 [some (vI p0), some (vI v1), some (vI v2)] [] h
theorem s_M_bits_4 {d : Nat} {Q : Int → AH → Prop} {p0 : Int} {v1 : Int} {v2 : Int} {h : AH} (hy : ((14 ≤ v2 → Q v1 h) ∧ (v2 < 14 → (inI (v1 + (iand (ishr p0 v2) 1)) ∧ (inI (v2 + 1) ∧ A_M_bits_4 d Q p0 (v1 + (iand (ishr p0 v2) 1)) (v2 + 1) h))))) : A_M_bits_4 d Q p0 v1 v2 h := by
  show AW d M_M_bits Q 4 [some (vI p0), some (vI v1), some (vI v2)] [] h
  refine a_iload_n dX11_bits_4 rfl ?_
  refine a_bipush (x := 14) dX11_bits_5 (by decide) ⟨by decide, by decide⟩ ?_
  refine a_icmp_ge (tgt := 24) dX11_bits_7 (by decide) (fun c => ?_) (fun c => ?_)
  · have hy := hy.1 c
    refine a_iload_n dX11_bits_24 rfl ?_
    exact a_iret dX11_bits_25 rfl hy
  · have hy := hy.2 (Int.not_le.mp c)
    refine a_iload_n dX11_bits_10 rfl ?_
    refine a_iload_n dX11_bits_11 rfl ?_
    refine a_iload_n dX11_bits_12 rfl ?_
    refine a_ishr dX11_bits_13 ?_
    refine a_iconst (x := 1) dX11_bits_14 rfl ⟨by decide, by decide⟩ ?_
    refine a_iand dX11_bits_15 ?_
    obtain ⟨c1, hy⟩ := hy
    refine a_iadd dX11_bits_16 c1 ?_
    refine a_istore_n (i := 1) (ls2 := [some (vI p0), some (vI (v1 + (iand (ishr p0 v2) 1))), some (vI v2)]) dX11_bits_17 rfl (Nat.le_of_ble_eq_true rfl) rfl ?_
    obtain ⟨c2, hy⟩ := hy
    refine a_iinc (y := v2 + 1) (ls2 := [some (vI p0), some (vI (v1 + (iand (ishr p0 v2) 1))), some (vI (v2 + 1))]) dX11_bits_18 rfl rfl c2 rfl ?_
    refine a_goto (tgt := 4) dX11_bits_21 (by decide) ?_
    exact hy
theorem c_M_bits {d : Nat} (d0 : Nat) (hd : d0 < d) {p0 : Int} {h : AH} {Q : Int → AH → Prop} (hy : A_M_bits_4 d0 Q p0 0 0 h) : Call d M_M_bits [vI p0] h Q := by
  refine ⟨d0, hd, Big.of rfl (Nat.le_of_ble_eq_true rfl) ?_⟩
  show AW d0 M_M_bits Q 0 [some (vI p0), none, none] [] h
  refine a_iconst (x := 0) dX11_bits_0 rfl ⟨by decide, by decide⟩ ?_
  refine a_istore_n (i := 1) (ls2 := [some (vI p0), some (vI 0), none]) dX11_bits_1 rfl (Nat.le_of_ble_eq_true rfl) rfl ?_
  refine a_iconst (x := 0) dX11_bits_2 rfl ⟨by decide, by decide⟩ ?_
  refine a_istore_n (i := 2) (ls2 := [some (vI p0), some (vI 0), some (vI 0)]) dX11_bits_3 rfl (Nat.le_of_ble_eq_true rfl) rfl ?_
  exact hy
def A_M_canColumn_3 (d : Nat) (Q : Int → AH → Prop) (p1 : Int) (p2 : Int) (p3 : Int) (v4 : Int) (h : AH) : Prop := AW d M_M_canColumn Q 3 [some (vR 12 (-1)), some (vI p1), some (vI p2), some (vI p3), some (vI v4), none, none] [] h
def A_M_canColumn_24 (d : Nat) (Q : Int → AH → Prop) (p1 : Int) (p2 : Int) (p3 : Int) (v4 : Int) (v5 : Int) (v6 : Int) (h : AH) : Prop := AW d M_M_canColumn Q 24 [some (vR 12 (-1)), some (vI p1), some (vI p2), some (vI p3), some (vI v4), some (vI v5), some (vI v6)] [] h
def A_M_canColumn_71 (d : Nat) (Q : Int → AH → Prop) (p1 : Int) (p2 : Int) (p3 : Int) (v4 : Int) (v5 : Int) (h : AH) : Prop := AW d M_M_canColumn Q 71 [some (vR 12 (-1)), some (vI p1), some (vI p2), some (vI p3), some (vI v4), some (vI v5), none] [] h
theorem s_M_canColumn_3 {d : Nat} {Q : Int → AH → Prop} {p1 : Int} {p2 : Int} {p3 : Int} {v4 : Int} {h : AH} (hy : (((h.1 12 0) ≤ v4 → Q 0 h) ∧ (v4 < (h.1 12 0) → (Call d M_M_isOf [vR 12 (-1), vI v4, vI p1] h (fun r2 h1 => A_M_canColumn_24 d Q p1 p2 p3 v4 r2 0 h1))))) : A_M_canColumn_3 d Q p1 p2 p3 v4 h := by
  show AW d M_M_canColumn Q 3 [some (vR 12 (-1)), some (vI p1), some (vI p2), some (vI p3), some (vI v4), none, none] [] h
  refine a_iload dX11_canColumn_3 rfl ?_
  refine a_aload_n dX11_canColumn_5 rfl ?_
  refine a_getI' (kz := 0) dX11_canColumn_6 fl_M_130 sk_12 rfl rfl (rfl) ?_
  refine a_icmp_ge (tgt := 84) dX11_canColumn_9 (by decide) (fun c => ?_) (fun c => ?_)
  · have hy := hy.1 c
    refine a_iconst (x := 0) dX11_canColumn_84 rfl ⟨by decide, by decide⟩ ?_
    exact a_zret dX11_canColumn_85 rfl (Or.inl rfl) hy
  · have hy := hy.2 (Int.not_le.mp c)
    refine a_aload_n dX11_canColumn_12 rfl ?_
    refine a_iload dX11_canColumn_13 rfl ?_
    refine a_iload_n dX11_canColumn_15 rfl ?_
    refine a_callVi (as := [vI v4, vI p1]) (st := []) dX11_canColumn_16 lk_M_404 sk_12 rfl rfl (Nat.le_of_ble_eq_true rfl) (Or.inr rfl) (Call.mono hy (fun r2 h1 _ hy => ?_))
    refine a_istore (ls2 := [some (vR 12 (-1)), some (vI p1), some (vI p2), some (vI p3), some (vI v4), some (vI r2), none]) dX11_canColumn_19 (Nat.le_of_ble_eq_true rfl) rfl ?_
    refine a_iconst (x := 0) dX11_canColumn_21 rfl ⟨by decide, by decide⟩ ?_
    refine a_istore (ls2 := [some (vR 12 (-1)), some (vI p1), some (vI p2), some (vI p3), some (vI v4), some (vI r2), some (vI 0)]) dX11_canColumn_22 (Nat.le_of_ble_eq_true rfl) rfl ?_
    exact hy
theorem s_M_canColumn_24 {d : Nat} {Q : Int → AH → Prop} {p1 : Int} {p2 : Int} {p3 : Int} {v4 : Int} {v5 : Int} {v6 : Int} {h : AH} (hy : ((p3 ≤ v6 → A_M_canColumn_71 d Q p1 p2 p3 v4 v5 h) ∧ (v6 < p3 → ((v5 = 0 → A_M_canColumn_71 d Q p1 p2 p3 v4 v5 h) ∧ (v5 ≠ 0 → (Call d M_M_letter [vR 12 (-1), vI v4, vI v6] h (fun r2 h1 => inb v6 4 ∧ (Call d M_M_letter [vR 12 (-1), vI (h1.1 92 v6), vI p2] h1 (fun r5 h4 => inI (v6 + 1) ∧ A_M_canColumn_24 d Q p1 p2 p3 v4 (if r2 = r5 then (1 : Int) else 0) (v6 + 1) h4))))))))) : A_M_canColumn_24 d Q p1 p2 p3 v4 v5 v6 h := by
  show AW d M_M_canColumn Q 24 [some (vR 12 (-1)), some (vI p1), some (vI p2), some (vI p3), some (vI v4), some (vI v5), some (vI v6)] [] h
  refine a_iload dX11_canColumn_24 rfl ?_
  refine a_iload_n dX11_canColumn_26 rfl ?_
  refine a_icmp_ge (tgt := 71) dX11_canColumn_27 (by decide) (fun c => ?_) (fun c => ?_)
  · have hy := hy.1 c
    refine a_mask [true, true, true, true, true, true, false] (ls2 := [some (vR 12 (-1)), some (vI p1), some (vI p2), some (vI p3), some (vI v4), some (vI v5), none]) rfl rfl ?_
    exact hy
  · have hy := hy.2 (Int.not_le.mp c)
    refine a_iload dX11_canColumn_30 rfl ?_
    refine a_if_eq (tgt := 71) dX11_canColumn_32 (by decide) (fun c => ?_) (fun c => ?_)
    · have hy := hy.1 c
      refine a_mask [true, true, true, true, true, true, false] (ls2 := [some (vR 12 (-1)), some (vI p1), some (vI p2), some (vI p3), some (vI v4), some (vI v5), none]) rfl rfl ?_
      exact hy
    · have hy := hy.2 (c)
      refine a_aload_n dX11_canColumn_35 rfl ?_
      refine a_iload dX11_canColumn_36 rfl ?_
      refine a_iload dX11_canColumn_38 rfl ?_
      refine a_callVi (as := [vI v4, vI v6]) (st := []) dX11_canColumn_40 lk_M_262 sk_12 rfl rfl (Nat.le_of_ble_eq_true rfl) (Or.inl rfl) (Call.mono hy (fun r2 h1 _ hy => ?_))
      refine a_aload_n dX11_canColumn_43 rfl ?_
      refine a_aload_n dX11_canColumn_44 rfl ?_
      refine a_getR dX11_canColumn_45 fl_M_116 sk_12 rfl ?_
      refine a_iload dX11_canColumn_48 rfl ?_
      obtain ⟨c3, hy⟩ := hy
      refine a_iald' dX11_canColumn_50 sk_92 c3 (rfl) ?_
      refine a_iload_n dX11_canColumn_51 rfl ?_
      refine a_callVi (as := [vI (h1.1 92 v6), vI p2]) (st := [vI r2]) dX11_canColumn_52 lk_M_262 sk_12 rfl rfl (Nat.le_of_ble_eq_true rfl) (Or.inl rfl) (Call.mono hy (fun r5 h4 _ hy => ?_))
      have J : AW d M_M_canColumn Q 63 [some (vR 12 (-1)), some (vI p1), some (vI p2), some (vI p3), some (vI v4), some (vI v5), some (vI v6)] [vI (if r2 = r5 then (1 : Int) else 0)] h4 := by
        refine a_istore (ls2 := [some (vR 12 (-1)), some (vI p1), some (vI p2), some (vI p3), some (vI v4), some (vI (if r2 = r5 then (1 : Int) else 0)), some (vI v6)]) dX11_canColumn_63 (Nat.le_of_ble_eq_true rfl) rfl ?_
        obtain ⟨c6, hy⟩ := hy
        refine a_iinc (y := v6 + 1) (ls2 := [some (vR 12 (-1)), some (vI p1), some (vI p2), some (vI p3), some (vI v4), some (vI (if r2 = r5 then (1 : Int) else 0)), some (vI (v6 + 1))]) dX11_canColumn_65 rfl rfl c6 rfl ?_
        refine a_goto (tgt := 24) dX11_canColumn_68 (by decide) ?_
        exact hy
      refine a_icmp_ne (tgt := 62) dX11_canColumn_55 (by decide) (fun e7 => ?_) (fun e7 => ?_)
      · refine a_iconst (x := 0) dX11_canColumn_62 rfl ⟨by decide, by decide⟩ ?_
        exact a_cast (by first | rfl | simp only [if_neg e7]) (by first | rfl | simp only [if_neg e7]) J
      · refine a_iconst (x := 1) dX11_canColumn_58 rfl ⟨by decide, by decide⟩ ?_
        refine a_goto (tgt := 63) dX11_canColumn_59 (by decide) ?_
        exact a_cast (by first | rfl | simp only [if_pos (Decidable.not_not.mp e7)]) (by first | rfl | simp only [if_pos (Decidable.not_not.mp e7)]) J
theorem s_M_canColumn_71 {d : Nat} {Q : Int → AH → Prop} {p1 : Int} {p2 : Int} {p3 : Int} {v4 : Int} {v5 : Int} {h : AH} (hy : ((v5 = 0 → (inI (v4 + 1) ∧ A_M_canColumn_3 d Q p1 p2 p3 (v4 + 1) h)) ∧ (v5 ≠ 0 → Q 1 h))) : A_M_canColumn_71 d Q p1 p2 p3 v4 v5 h := by
  show AW d M_M_canColumn Q 71 [some (vR 12 (-1)), some (vI p1), some (vI p2), some (vI p3), some (vI v4), some (vI v5), none] [] h
  refine a_iload dX11_canColumn_71 rfl ?_
  refine a_if_eq (tgt := 78) dX11_canColumn_73 (by decide) (fun c => ?_) (fun c => ?_)
  · have hy := hy.1 c
    obtain ⟨c1, hy⟩ := hy
    refine a_iinc (y := v4 + 1) (ls2 := [some (vR 12 (-1)), some (vI p1), some (vI p2), some (vI p3), some (vI (v4 + 1)), some (vI v5), none]) dX11_canColumn_78 rfl rfl c1 rfl ?_
    refine a_goto (tgt := 3) dX11_canColumn_81 (by decide) ?_
    refine a_mask [true, true, true, true, true, false, true] (ls2 := [some (vR 12 (-1)), some (vI p1), some (vI p2), some (vI p3), some (vI (v4 + 1)), none, none]) rfl rfl ?_
    exact hy
  · have hy := hy.2 (c)
    refine a_iconst (x := 1) dX11_canColumn_76 rfl ⟨by decide, by decide⟩ ?_
    exact a_zret dX11_canColumn_77 rfl (Or.inr rfl) hy
theorem c_M_canColumn {d : Nat} (d0 : Nat) (hd : d0 < d) {p1 : Int} {p2 : Int} {p3 : Int} {h : AH} {Q : Int → AH → Prop} (hy : A_M_canColumn_3 d0 Q p1 p2 p3 0 h) : Call d M_M_canColumn [vR 12 (-1), vI p1, vI p2, vI p3] h Q := by
  refine ⟨d0, hd, Big.of rfl (Nat.le_of_ble_eq_true rfl) ?_⟩
  show AW d0 M_M_canColumn Q 0 [some (vR 12 (-1)), some (vI p1), some (vI p2), some (vI p3), none, none, none] [] h
  refine a_iconst (x := 0) dX11_canColumn_0 rfl ⟨by decide, by decide⟩ ?_
  refine a_istore (ls2 := [some (vR 12 (-1)), some (vI p1), some (vI p2), some (vI p3), some (vI 0), none, none]) dX11_canColumn_1 (Nat.le_of_ble_eq_true rfl) rfl ?_
  exact hy
def A_M_canRows_2 (d : Nat) (Q : Int → AH → Prop) (p1 : Int) (p2 : Int) (v3 : Int) (h : AH) : Prop := AW d M_M_canRows Q 2 [some (vR 12 (-1)), some (vI p1), some (vI p2), some (vI v3)] [] h
theorem s_M_canRows_2 {d : Nat} {Q : Int → AH → Prop} {p1 : Int} {p2 : Int} {v3 : Int} {h : AH} (hy : ((p1 ≤ v3 → Q 1 h) ∧ (v3 < p1 → (Call d M_M_canColumn [vR 12 (-1), vI p1, vI v3, vI p2] h (fun r2 h1 => ((r2 ≠ 0 → (inI (v3 + 1) ∧ A_M_canRows_2 d Q p1 p2 (v3 + 1) h1)) ∧ (r2 = 0 → Q 0 h1))))))) : A_M_canRows_2 d Q p1 p2 v3 h := by
  show AW d M_M_canRows Q 2 [some (vR 12 (-1)), some (vI p1), some (vI p2), some (vI v3)] [] h
  refine a_iload_n dX11_canRows_2 rfl ?_
  refine a_iload_n dX11_canRows_3 rfl ?_
  refine a_icmp_ge (tgt := 25) dX11_canRows_4 (by decide) (fun c => ?_) (fun c => ?_)
  · have hy := hy.1 c
    refine a_iconst (x := 1) dX11_canRows_25 rfl ⟨by decide, by decide⟩ ?_
    exact a_zret dX11_canRows_26 rfl (Or.inr rfl) hy
  · have hy := hy.2 (Int.not_le.mp c)
    refine a_aload_n dX11_canRows_7 rfl ?_
    refine a_iload_n dX11_canRows_8 rfl ?_
    refine a_iload_n dX11_canRows_9 rfl ?_
    refine a_iload_n dX11_canRows_10 rfl ?_
    refine a_callVi (as := [vI p1, vI v3, vI p2]) (st := []) dX11_canRows_11 lk_M_407 sk_12 rfl rfl (Nat.le_of_ble_eq_true rfl) (Or.inr rfl) (Call.mono hy (fun r2 h1 _ hy => ?_))
    refine a_if_ne (tgt := 19) dX11_canRows_14 (by decide) (fun c => ?_) (fun c => ?_)
    · have hy := hy.1 c
      obtain ⟨c3, hy⟩ := hy
      refine a_iinc (y := v3 + 1) (ls2 := [some (vR 12 (-1)), some (vI p1), some (vI p2), some (vI (v3 + 1))]) dX11_canRows_19 rfl rfl c3 rfl ?_
      refine a_goto (tgt := 2) dX11_canRows_22 (by decide) ?_
      exact hy
    · have hy := hy.2 (Decidable.not_not.mp c)
      refine a_iconst (x := 0) dX11_canRows_17 rfl ⟨by decide, by decide⟩ ?_
      exact a_zret dX11_canRows_18 rfl (Or.inl rfl) hy
theorem c_M_canRows {d : Nat} (d0 : Nat) (hd : d0 < d) {p1 : Int} {p2 : Int} {h : AH} {Q : Int → AH → Prop} (hy : A_M_canRows_2 d0 Q p1 p2 0 h) : Call d M_M_canRows [vR 12 (-1), vI p1, vI p2] h Q := by
  refine ⟨d0, hd, Big.of rfl (Nat.le_of_ble_eq_true rfl) ?_⟩
  show AW d0 M_M_canRows Q 0 [some (vR 12 (-1)), some (vI p1), some (vI p2), none] [] h
  refine a_iconst (x := 0) dX11_canRows_0 rfl ⟨by decide, by decide⟩ ?_
  refine a_istore_n (i := 3) (ls2 := [some (vR 12 (-1)), some (vI p1), some (vI p2), some (vI 0)]) dX11_canRows_1 rfl (Nat.le_of_ble_eq_true rfl) rfl ?_
  exact hy
def A_M_check_38 (d : Nat) (Q : Int → AH → Prop) (p1 : Int) (p2 : Int) (v3 : Int) (h : AH) : Prop := AW d M_M_check Q 38 [some (vR 12 (-1)), some (vI p1), some (vI p2), some (vI v3)] [] h
theorem s_M_check_38 {d : Nat} {Q : Int → AH → Prop} {p1 : Int} {p2 : Int} {v3 : Int} {h : AH} (hy : inb p1 40 ∧ (((h.1 58 p1) ≤ v3 → ((p2 ≤ (h.1 58 p1) → Q (-1) h) ∧ ((h.1 58 p1) < p2 → Q (h.1 58 p1) h))) ∧ (v3 < (h.1 58 p1) → ((v3 = p2 → Q v3 h) ∧ (v3 ≠ p2 → (Call d M_M_tapeNumber [vR 12 (-1), vI v3] h (fun r3 h2 => Call d M_M_letter [vR 12 (-1), vI p1, vI v3] h2 (fun r5 h4 => ((r3 = r5 → (inI (v3 + 1) ∧ A_M_check_38 d Q p1 p2 (v3 + 1) h4)) ∧ (r3 ≠ r5 → Q v3 h4)))))))))) : A_M_check_38 d Q p1 p2 v3 h := by
  show AW d M_M_check Q 38 [some (vR 12 (-1)), some (vI p1), some (vI p2), some (vI v3)] [] h
  refine a_iload_n dX11_check_38 rfl ?_
  refine a_aload_n dX11_check_39 rfl ?_
  refine a_getR dX11_check_40 fl_M_7 sk_12 rfl ?_
  refine a_iload_n dX11_check_43 rfl ?_
  obtain ⟨c1, hy⟩ := hy
  refine a_iald' dX11_check_44 sk_58 c1 (rfl) ?_
  refine a_icmp_ge (tgt := 75) dX11_check_45 (by decide) (fun c => ?_) (fun c => ?_)
  · have hy := hy.1 c
    refine a_aload_n dX11_check_75 rfl ?_
    refine a_getR dX11_check_76 fl_M_7 sk_12 rfl ?_
    refine a_iload_n dX11_check_79 rfl ?_
    refine a_iald' dX11_check_80 sk_58 c1 (rfl) ?_
    refine a_iload_n dX11_check_81 rfl ?_
    refine a_icmp_ge (tgt := 94) dX11_check_82 (by decide) (fun c => ?_) (fun c => ?_)
    · have hy := hy.1 c
      refine a_iconst (x := (-1)) dX11_check_94 rfl ⟨by decide, by decide⟩ ?_
      exact a_iret dX11_check_95 rfl hy
    · have hy := hy.2 (Int.not_le.mp c)
      refine a_aload_n dX11_check_85 rfl ?_
      refine a_getR dX11_check_86 fl_M_7 sk_12 rfl ?_
      refine a_iload_n dX11_check_89 rfl ?_
      refine a_iald' dX11_check_90 sk_58 c1 (rfl) ?_
      refine a_goto (tgt := 95) dX11_check_91 (by decide) ?_
      exact a_iret dX11_check_95 rfl hy
  · have hy := hy.2 (Int.not_le.mp c)
    refine a_iload_n dX11_check_48 rfl ?_
    refine a_iload_n dX11_check_49 rfl ?_
    refine a_icmp_eq (tgt := 67) dX11_check_50 (by decide) (fun c => ?_) (fun c => ?_)
    · have hy := hy.1 c
      refine a_iload_n dX11_check_67 rfl ?_
      exact a_iret dX11_check_68 rfl hy
    · have hy := hy.2 (c)
      refine a_aload_n dX11_check_53 rfl ?_
      refine a_iload_n dX11_check_54 rfl ?_
      refine a_callVi (as := [vI v3]) (st := []) dX11_check_55 lk_M_427 sk_12 rfl rfl (Nat.le_of_ble_eq_true rfl) (Or.inl rfl) (Call.mono hy (fun r3 h2 _ hy => ?_))
      refine a_aload_n dX11_check_58 rfl ?_
      refine a_iload_n dX11_check_59 rfl ?_
      refine a_iload_n dX11_check_60 rfl ?_
      refine a_callVi (as := [vI p1, vI v3]) (st := [vI r3]) dX11_check_61 lk_M_262 sk_12 rfl rfl (Nat.le_of_ble_eq_true rfl) (Or.inl rfl) (Call.mono hy (fun r5 h4 _ hy => ?_))
      refine a_icmp_eq (tgt := 69) dX11_check_64 (by decide) (fun c => ?_) (fun c => ?_)
      · have hy := hy.1 c
        obtain ⟨c6, hy⟩ := hy
        refine a_iinc (y := v3 + 1) (ls2 := [some (vR 12 (-1)), some (vI p1), some (vI p2), some (vI (v3 + 1))]) dX11_check_69 rfl rfl c6 rfl ?_
        refine a_goto (tgt := 38) dX11_check_72 (by decide) ?_
        exact hy
      · have hy := hy.2 (c)
        refine a_iload_n dX11_check_67 rfl ?_
        exact a_iret dX11_check_68 rfl hy
theorem c_M_check {d : Nat} (d0 : Nat) (hd : d0 < d) {p1 : Int} {p2 : Int} {h : AH} {Q : Int → AH → Prop} (hy : Call d0 M_M_isWord [vR 12 (-1), vI p1] h (fun r2 h1 => ((r2 = 0 → Q (-2) h1) ∧ (r2 ≠ 0 → (Call d0 M_M_in [vI p2, vI 0, vI 8] h1 (fun r4 h3 => ((r4 = 0 → Q (-2) h3) ∧ (r4 ≠ 0 → (inI (Int.tdiv (h3.1 12 11) 4) ∧ ((p2 ≤ (Int.tdiv (h3.1 12 11) 4) → A_M_check_38 d0 Q p1 p2 0 (wI h3 12 11 0)) ∧ ((Int.tdiv (h3.1 12 11) 4) < p2 → Q (-2) h3))))))))))) : Call d M_M_check [vR 12 (-1), vI p1, vI p2] h Q := by
  refine ⟨d0, hd, Big.of rfl (Nat.le_of_ble_eq_true rfl) ?_⟩
  show AW d0 M_M_check Q 0 [some (vR 12 (-1)), some (vI p1), some (vI p2), none] [] h
  refine a_aload_n dX11_check_0 rfl ?_
  refine a_iload_n dX11_check_1 rfl ?_
  refine a_callVi (as := [vI p1]) (st := []) dX11_check_2 lk_M_154 sk_12 rfl rfl (Nat.le_of_ble_eq_true rfl) (Or.inr rfl) (Call.mono hy (fun r2 h1 _ hy => ?_))
  refine a_if_eq (tgt := 28) dX11_check_5 (by decide) (fun c => ?_) (fun c => ?_)
  · have hy := hy.1 c
    refine a_bipush (x := (-2)) dX11_check_28 (by decide) ⟨by decide, by decide⟩ ?_
    exact a_iret dX11_check_30 rfl hy
  · have hy := hy.2 (c)
    refine a_iload_n dX11_check_8 rfl ?_
    refine a_iconst (x := 0) dX11_check_9 rfl ⟨by decide, by decide⟩ ?_
    refine a_bipush (x := 8) dX11_check_10 (by decide) ⟨by decide, by decide⟩ ?_
    refine a_callSi (as := [vI p2, vI 0, vI 8]) (st := []) dX11_check_12 lk_M_139 rfl rfl (Nat.le_of_ble_eq_true rfl) (Or.inr rfl) (Call.mono hy (fun r4 h3 _ hy => ?_))
    refine a_if_eq (tgt := 28) dX11_check_15 (by decide) (fun c => ?_) (fun c => ?_)
    · have hy := hy.1 c
      refine a_bipush (x := (-2)) dX11_check_28 (by decide) ⟨by decide, by decide⟩ ?_
      exact a_iret dX11_check_30 rfl hy
    · have hy := hy.2 (c)
      refine a_iload_n dX11_check_18 rfl ?_
      refine a_aload_n dX11_check_19 rfl ?_
      refine a_getI' (kz := 11) dX11_check_20 fl_M_133 sk_12 rfl rfl (rfl) ?_
      refine a_iconst (x := 4) dX11_check_23 rfl ⟨by decide, by decide⟩ ?_
      obtain ⟨c5, hy⟩ := hy
      refine a_idiv dX11_check_24 (by decide) c5 ?_
      refine a_icmp_le (tgt := 31) dX11_check_25 (by decide) (fun c => ?_) (fun c => ?_)
      · have hy := hy.1 c
        refine a_aload_n dX11_check_31 rfl ?_
        refine a_iconst (x := 0) dX11_check_32 rfl ⟨by decide, by decide⟩ ?_
        refine a_putI (kz := 11) dX11_check_33 fp_M_133 sk_12 rfl rfl ?_
        refine a_iconst (x := 0) dX11_check_36 rfl ⟨by decide, by decide⟩ ?_
        refine a_istore_n (i := 3) (ls2 := [some (vR 12 (-1)), some (vI p1), some (vI p2), some (vI 0)]) dX11_check_37 rfl (Nat.le_of_ble_eq_true rfl) rfl ?_
        exact hy
      · have hy := hy.2 (Int.not_le.mp c)
        refine a_bipush (x := (-2)) dX11_check_28 (by decide) ⟨by decide, by decide⟩ ?_
        exact a_iret dX11_check_30 rfl hy
def A_M_clear_53 (d : Nat) (Q : Int → AH → Prop) (p1 : Int) (p2 : Int) (p3 : Int) (v4 : Int) (h : AH) : Prop := AW d M_M_clear Q 53 [some (vR 12 (-1)), some (vI p1), some (vI p2), some (vI p3), some (vI v4), none] [] h
def A_M_clear_142 (d : Nat) (Q : Int → AH → Prop) (p1 : Int) (p3 : Int) (v4 : Int) (v5 : Int) (h : AH) : Prop := AW d M_M_clear Q 142 [some (vR 12 (-1)), some (vI p1), none, some (vI p3), some (vI v4), some (vI v5)] [] h
def A_M_clear_70 (d : Nat) (Q : Int → AH → Prop) (p1 : Int) (p2 : Int) (p3 : Int) (v4 : Int) (v5 : Int) (h : AH) : Prop := AW d M_M_clear Q 70 [some (vR 12 (-1)), some (vI p1), some (vI p2), some (vI p3), some (vI v4), some (vI v5)] [] h
theorem s_M_clear_53 {d : Nat} {Q : Int → AH → Prop} {p1 : Int} {p2 : Int} {p3 : Int} {v4 : Int} {h : AH} (hy : ((p1 ≤ v4 → A_M_clear_142 d Q p1 p3 0 1 h) ∧ (v4 < p1 → (inb v4 14 ∧ A_M_clear_70 d Q p1 p2 p3 v4 0 (wI h 91 v4 0))))) : A_M_clear_53 d Q p1 p2 p3 v4 h := by
  show AW d M_M_clear Q 53 [some (vR 12 (-1)), some (vI p1), some (vI p2), some (vI p3), some (vI v4), none] [] h
  refine a_iload dX11_clear_53 rfl ?_
  refine a_iload_n dX11_clear_55 rfl ?_
  refine a_icmp_ge (tgt := 136) dX11_clear_56 (by decide) (fun c => ?_) (fun c => ?_)
  · have hy := hy.1 c
    refine a_iconst (x := 0) dX11_clear_136 rfl ⟨by decide, by decide⟩ ?_
    refine a_istore (ls2 := [some (vR 12 (-1)), some (vI p1), some (vI p2), some (vI p3), some (vI 0), none]) dX11_clear_137 (Nat.le_of_ble_eq_true rfl) rfl ?_
    refine a_iconst (x := 1) dX11_clear_139 rfl ⟨by decide, by decide⟩ ?_
    refine a_istore (ls2 := [some (vR 12 (-1)), some (vI p1), some (vI p2), some (vI p3), some (vI 0), some (vI 1)]) dX11_clear_140 (Nat.le_of_ble_eq_true rfl) rfl ?_
    refine a_mask [true, true, false, true, true, true] (ls2 := [some (vR 12 (-1)), some (vI p1), none, some (vI p3), some (vI 0), some (vI 1)]) rfl rfl ?_
    exact hy
  · have hy := hy.2 (Int.not_le.mp c)
    refine a_aload_n dX11_clear_59 rfl ?_
    refine a_getR dX11_clear_60 fl_M_113 sk_12 rfl ?_
    refine a_iload dX11_clear_63 rfl ?_
    refine a_iconst (x := 0) dX11_clear_65 rfl ⟨by decide, by decide⟩ ?_
    obtain ⟨c1, hy⟩ := hy
    refine a_iast dX11_clear_66 sk_91 c1 ?_
    refine a_iconst (x := 0) dX11_clear_67 rfl ⟨by decide, by decide⟩ ?_
    refine a_istore (ls2 := [some (vR 12 (-1)), some (vI p1), some (vI p2), some (vI p3), some (vI v4), some (vI 0)]) dX11_clear_68 (Nat.le_of_ble_eq_true rfl) rfl ?_
    exact hy
theorem s_M_clear_142 {d : Nat} {Q : Int → AH → Prop} {p1 : Int} {p3 : Int} {v4 : Int} {v5 : Int} {h : AH} (hy : (((ishl 1 p1) ≤ v5 → ((p3 ≠ 0 → Q v4 h) ∧ (p3 = 0 → (Call d M_M_bits [vI v4] h (fun r2 h1 => Q r2 h1))))) ∧ (v5 < (ishl 1 p1) → (Call d M_M_bits [vI v5] h (fun r4 h3 => Call d M_M_bits [vI v4] h3 (fun r6 h5 => ((r4 ≤ r6 → (inI (v5 + 1) ∧ A_M_clear_142 d Q p1 p3 v4 (v5 + 1) h5)) ∧ (r6 < r4 → (Call d M_M_isClear [vR 12 (-1), vI v5, vI p1] h5 (fun r9 h8 => ((r9 = 0 → (inI (v5 + 1) ∧ A_M_clear_142 d Q p1 p3 v4 (v5 + 1) h8)) ∧ (r9 ≠ 0 → (inI (v5 + 1) ∧ A_M_clear_142 d Q p1 p3 v5 (v5 + 1) h8))))))))))))) : A_M_clear_142 d Q p1 p3 v4 v5 h := by
  show AW d M_M_clear Q 142 [some (vR 12 (-1)), some (vI p1), none, some (vI p3), some (vI v4), some (vI v5)] [] h
  refine a_iload dX11_clear_142 rfl ?_
  refine a_iconst (x := 1) dX11_clear_144 rfl ⟨by decide, by decide⟩ ?_
  refine a_iload_n dX11_clear_145 rfl ?_
  refine a_ishl dX11_clear_146 ?_
  refine a_icmp_ge (tgt := 183) dX11_clear_147 (by decide) (fun c => ?_) (fun c => ?_)
  · have hy := hy.1 c
    refine a_iload_n dX11_clear_183 rfl ?_
    refine a_if_ne (tgt := 195) dX11_clear_184 (by decide) (fun c => ?_) (fun c => ?_)
    · have hy := hy.1 c
      refine a_iload dX11_clear_195 rfl ?_
      exact a_iret dX11_clear_197 rfl hy
    · have hy := hy.2 (Decidable.not_not.mp c)
      refine a_iload dX11_clear_187 rfl ?_
      refine a_callSi (as := [vI v4]) (st := []) dX11_clear_189 lk_M_395 rfl rfl (Nat.le_of_ble_eq_true rfl) (Or.inl rfl) (Call.mono hy (fun r2 h1 _ hy => ?_))
      refine a_goto (tgt := 197) dX11_clear_192 (by decide) ?_
      exact a_iret dX11_clear_197 rfl hy
  · have hy := hy.2 (Int.not_le.mp c)
    refine a_iload dX11_clear_150 rfl ?_
    refine a_callSi (as := [vI v5]) (st := []) dX11_clear_152 lk_M_395 rfl rfl (Nat.le_of_ble_eq_true rfl) (Or.inl rfl) (Call.mono hy (fun r4 h3 _ hy => ?_))
    refine a_iload dX11_clear_155 rfl ?_
    refine a_callSi (as := [vI v4]) (st := [vI r4]) dX11_clear_157 lk_M_395 rfl rfl (Nat.le_of_ble_eq_true rfl) (Or.inl rfl) (Call.mono hy (fun r6 h5 _ hy => ?_))
    refine a_icmp_le (tgt := 177) dX11_clear_160 (by decide) (fun c => ?_) (fun c => ?_)
    · have hy := hy.1 c
      obtain ⟨c7, hy⟩ := hy
      refine a_iinc (y := v5 + 1) (ls2 := [some (vR 12 (-1)), some (vI p1), none, some (vI p3), some (vI v4), some (vI (v5 + 1))]) dX11_clear_177 rfl rfl c7 rfl ?_
      refine a_goto (tgt := 142) dX11_clear_180 (by decide) ?_
      exact hy
    · have hy := hy.2 (Int.not_le.mp c)
      refine a_aload_n dX11_clear_163 rfl ?_
      refine a_iload dX11_clear_164 rfl ?_
      refine a_iload_n dX11_clear_166 rfl ?_
      refine a_callVi (as := [vI v5, vI p1]) (st := []) dX11_clear_167 lk_M_398 sk_12 rfl rfl (Nat.le_of_ble_eq_true rfl) (Or.inr rfl) (Call.mono hy (fun r9 h8 _ hy => ?_))
      refine a_if_eq (tgt := 177) dX11_clear_170 (by decide) (fun c => ?_) (fun c => ?_)
      · have hy := hy.1 c
        obtain ⟨c10, hy⟩ := hy
        refine a_iinc (y := v5 + 1) (ls2 := [some (vR 12 (-1)), some (vI p1), none, some (vI p3), some (vI v4), some (vI (v5 + 1))]) dX11_clear_177 rfl rfl c10 rfl ?_
        refine a_goto (tgt := 142) dX11_clear_180 (by decide) ?_
        exact hy
      · have hy := hy.2 (c)
        refine a_iload dX11_clear_173 rfl ?_
        refine a_istore (ls2 := [some (vR 12 (-1)), some (vI p1), none, some (vI p3), some (vI v5), some (vI v5)]) dX11_clear_175 (Nat.le_of_ble_eq_true rfl) rfl ?_
        obtain ⟨c11, hy⟩ := hy
        refine a_iinc (y := v5 + 1) (ls2 := [some (vR 12 (-1)), some (vI p1), none, some (vI p3), some (vI v5), some (vI (v5 + 1))]) dX11_clear_177 rfl rfl c11 rfl ?_
        refine a_goto (tgt := 142) dX11_clear_180 (by decide) ?_
        exact hy
theorem s_M_clear_70 {d : Nat} {Q : Int → AH → Prop} {p1 : Int} {p2 : Int} {p3 : Int} {v4 : Int} {v5 : Int} {h : AH} (hy : ((p1 ≤ v5 → (inI (v4 + 1) ∧ A_M_clear_53 d Q p1 p2 p3 (v4 + 1) h)) ∧ (v5 < p1 → ((v5 = v4 → (inI (v5 + 1) ∧ A_M_clear_70 d Q p1 p2 p3 v4 (v5 + 1) h)) ∧ (v5 ≠ v4 → (inb v4 14 ∧ (inb v5 14 ∧ (Call d M_M_farBetween [vR 12 (-1), vI (h.1 88 v4), vI (h.1 88 v5)] h (fun r6 h5 => ((p2 ≤ r6 → (inI (v5 + 1) ∧ A_M_clear_70 d Q p1 p2 p3 v4 (v5 + 1) h5)) ∧ (r6 < p2 → (inI (v5 + 1) ∧ A_M_clear_70 d Q p1 p2 p3 v4 (v5 + 1) (wI h5 91 v4 (ior (h5.1 91 v4) (ishl 1 v5))))))))))))))) : A_M_clear_70 d Q p1 p2 p3 v4 v5 h := by
  show AW d M_M_clear Q 70 [some (vR 12 (-1)), some (vI p1), some (vI p2), some (vI p3), some (vI v4), some (vI v5)] [] h
  refine a_iload dX11_clear_70 rfl ?_
  refine a_iload_n dX11_clear_72 rfl ?_
  refine a_icmp_ge (tgt := 130) dX11_clear_73 (by decide) (fun c => ?_) (fun c => ?_)
  · have hy := hy.1 c
    obtain ⟨c1, hy⟩ := hy
    refine a_iinc (y := v4 + 1) (ls2 := [some (vR 12 (-1)), some (vI p1), some (vI p2), some (vI p3), some (vI (v4 + 1)), some (vI v5)]) dX11_clear_130 rfl rfl c1 rfl ?_
    refine a_goto (tgt := 53) dX11_clear_133 (by decide) ?_
    refine a_mask [true, true, true, true, true, false] (ls2 := [some (vR 12 (-1)), some (vI p1), some (vI p2), some (vI p3), some (vI (v4 + 1)), none]) rfl rfl ?_
    exact hy
  · have hy := hy.2 (Int.not_le.mp c)
    refine a_iload dX11_clear_76 rfl ?_
    refine a_iload dX11_clear_78 rfl ?_
    refine a_icmp_eq (tgt := 124) dX11_clear_80 (by decide) (fun c => ?_) (fun c => ?_)
    · have hy := hy.1 c
      obtain ⟨c2, hy⟩ := hy
      refine a_iinc (y := v5 + 1) (ls2 := [some (vR 12 (-1)), some (vI p1), some (vI p2), some (vI p3), some (vI v4), some (vI (v5 + 1))]) dX11_clear_124 rfl rfl c2 rfl ?_
      refine a_goto (tgt := 70) dX11_clear_127 (by decide) ?_
      exact hy
    · have hy := hy.2 (c)
      refine a_aload_n dX11_clear_83 rfl ?_
      refine a_aload_n dX11_clear_84 rfl ?_
      refine a_getR dX11_clear_85 fl_M_103 sk_12 rfl ?_
      refine a_iload dX11_clear_88 rfl ?_
      obtain ⟨c3, hy⟩ := hy
      refine a_iald' dX11_clear_90 sk_88 c3 (rfl) ?_
      refine a_aload_n dX11_clear_91 rfl ?_
      refine a_getR dX11_clear_92 fl_M_103 sk_12 rfl ?_
      refine a_iload dX11_clear_95 rfl ?_
      obtain ⟨c4, hy⟩ := hy
      refine a_iald' dX11_clear_97 sk_88 c4 (rfl) ?_
      refine a_callVi (as := [vI (h.1 88 v4), vI (h.1 88 v5)]) (st := []) dX11_clear_98 lk_M_392 sk_12 rfl rfl (Nat.le_of_ble_eq_true rfl) (Or.inl rfl) (Call.mono hy (fun r6 h5 _ hy => ?_))
      refine a_iload_n dX11_clear_101 rfl ?_
      refine a_icmp_ge (tgt := 124) dX11_clear_102 (by decide) (fun c => ?_) (fun c => ?_)
      · have hy := hy.1 c
        obtain ⟨c7, hy⟩ := hy
        refine a_iinc (y := v5 + 1) (ls2 := [some (vR 12 (-1)), some (vI p1), some (vI p2), some (vI p3), some (vI v4), some (vI (v5 + 1))]) dX11_clear_124 rfl rfl c7 rfl ?_
        refine a_goto (tgt := 70) dX11_clear_127 (by decide) ?_
        exact hy
      · have hy := hy.2 (Int.not_le.mp c)
        refine a_aload_n dX11_clear_105 rfl ?_
        refine a_getR dX11_clear_106 fl_M_113 sk_12 rfl ?_
        refine a_iload dX11_clear_109 rfl ?_
        refine a_aload_n dX11_clear_111 rfl ?_
        refine a_getR dX11_clear_112 fl_M_113 sk_12 rfl ?_
        refine a_iload dX11_clear_115 rfl ?_
        refine a_iald' dX11_clear_117 sk_91 c3 (rfl) ?_
        refine a_iconst (x := 1) dX11_clear_118 rfl ⟨by decide, by decide⟩ ?_
        refine a_iload dX11_clear_119 rfl ?_
        refine a_ishl dX11_clear_121 ?_
        refine a_ior dX11_clear_122 ?_
        refine a_iast dX11_clear_123 sk_91 c3 ?_
        obtain ⟨c8, hy⟩ := hy
        refine a_iinc (y := v5 + 1) (ls2 := [some (vR 12 (-1)), some (vI p1), some (vI p2), some (vI p3), some (vI v4), some (vI (v5 + 1))]) dX11_clear_124 rfl rfl c8 rfl ?_
        refine a_goto (tgt := 70) dX11_clear_127 (by decide) ?_
        exact hy
theorem c_M_clear {d : Nat} (d0 : Nat) (hd : d0 < d) {p1 : Int} {p2 : Int} {p3 : Int} {h : AH} {Q : Int → AH → Prop} (hy : Call d0 M_M_in [vI p1, vI 1, vI 14] h (fun r2 h1 => ((r2 = 0 → Q (-1) h1) ∧ (r2 ≠ 0 → (Call d0 M_M_in [vI p2, vI 1, vI 9] h1 (fun r4 h3 => ((r4 = 0 → Q (-1) h3) ∧ (r4 ≠ 0 → (Call d0 M_M_in [vI p3, vI 0, vI 1] h3 (fun r6 h5 => ((r6 = 0 → Q (-1) h5) ∧ (r6 ≠ 0 → ((p1 ≤ (h5.1 12 11) → (Call d0 M_M_takesWords [vR 12 (-1), vI p1] h5 (fun r8 h7 => ((r8 ≠ 0 → A_M_clear_53 d0 Q p1 p2 p3 0 h7) ∧ (r8 = 0 → Q (-3) h7))))) ∧ ((h5.1 12 11) < p1 → Q (-1) h5)))))))))))))) : Call d M_M_clear [vR 12 (-1), vI p1, vI p2, vI p3] h Q := by
  refine ⟨d0, hd, Big.of rfl (Nat.le_of_ble_eq_true rfl) ?_⟩
  show AW d0 M_M_clear Q 0 [some (vR 12 (-1)), some (vI p1), some (vI p2), some (vI p3), none, none] [] h
  refine a_iload_n dX11_clear_0 rfl ?_
  refine a_iconst (x := 1) dX11_clear_1 rfl ⟨by decide, by decide⟩ ?_
  refine a_bipush (x := 14) dX11_clear_2 (by decide) ⟨by decide, by decide⟩ ?_
  refine a_callSi (as := [vI p1, vI 1, vI 14]) (st := []) dX11_clear_4 lk_M_139 rfl rfl (Nat.le_of_ble_eq_true rfl) (Or.inr rfl) (Call.mono hy (fun r2 h1 _ hy => ?_))
  refine a_if_eq (tgt := 37) dX11_clear_7 (by decide) (fun c => ?_) (fun c => ?_)
  · have hy := hy.1 c
    refine a_iconst (x := (-1)) dX11_clear_37 rfl ⟨by decide, by decide⟩ ?_
    exact a_iret dX11_clear_38 rfl hy
  · have hy := hy.2 (c)
    refine a_iload_n dX11_clear_10 rfl ?_
    refine a_iconst (x := 1) dX11_clear_11 rfl ⟨by decide, by decide⟩ ?_
    refine a_bipush (x := 9) dX11_clear_12 (by decide) ⟨by decide, by decide⟩ ?_
    refine a_callSi (as := [vI p2, vI 1, vI 9]) (st := []) dX11_clear_14 lk_M_139 rfl rfl (Nat.le_of_ble_eq_true rfl) (Or.inr rfl) (Call.mono hy (fun r4 h3 _ hy => ?_))
    refine a_if_eq (tgt := 37) dX11_clear_17 (by decide) (fun c => ?_) (fun c => ?_)
    · have hy := hy.1 c
      refine a_iconst (x := (-1)) dX11_clear_37 rfl ⟨by decide, by decide⟩ ?_
      exact a_iret dX11_clear_38 rfl hy
    · have hy := hy.2 (c)
      refine a_iload_n dX11_clear_20 rfl ?_
      refine a_iconst (x := 0) dX11_clear_21 rfl ⟨by decide, by decide⟩ ?_
      refine a_iconst (x := 1) dX11_clear_22 rfl ⟨by decide, by decide⟩ ?_
      refine a_callSi (as := [vI p3, vI 0, vI 1]) (st := []) dX11_clear_23 lk_M_139 rfl rfl (Nat.le_of_ble_eq_true rfl) (Or.inr rfl) (Call.mono hy (fun r6 h5 _ hy => ?_))
      refine a_if_eq (tgt := 37) dX11_clear_26 (by decide) (fun c => ?_) (fun c => ?_)
      · have hy := hy.1 c
        refine a_iconst (x := (-1)) dX11_clear_37 rfl ⟨by decide, by decide⟩ ?_
        exact a_iret dX11_clear_38 rfl hy
      · have hy := hy.2 (c)
        refine a_iload_n dX11_clear_29 rfl ?_
        refine a_aload_n dX11_clear_30 rfl ?_
        refine a_getI' (kz := 11) dX11_clear_31 fl_M_133 sk_12 rfl rfl (rfl) ?_
        refine a_icmp_le (tgt := 39) dX11_clear_34 (by decide) (fun c => ?_) (fun c => ?_)
        · have hy := hy.1 c
          refine a_aload_n dX11_clear_39 rfl ?_
          refine a_iload_n dX11_clear_40 rfl ?_
          refine a_callVi (as := [vI p1]) (st := []) dX11_clear_41 lk_M_377 sk_12 rfl rfl (Nat.le_of_ble_eq_true rfl) (Or.inr rfl) (Call.mono hy (fun r8 h7 _ hy => ?_))
          refine a_if_ne (tgt := 50) dX11_clear_44 (by decide) (fun c => ?_) (fun c => ?_)
          · have hy := hy.1 c
            refine a_iconst (x := 0) dX11_clear_50 rfl ⟨by decide, by decide⟩ ?_
            refine a_istore (ls2 := [some (vR 12 (-1)), some (vI p1), some (vI p2), some (vI p3), some (vI 0), none]) dX11_clear_51 (Nat.le_of_ble_eq_true rfl) rfl ?_
            exact hy
          · have hy := hy.2 (Decidable.not_not.mp c)
            refine a_bipush (x := (-3)) dX11_clear_47 (by decide) ⟨by decide, by decide⟩ ?_
            exact a_iret dX11_clear_49 rfl hy
        · have hy := hy.2 (Int.not_le.mp c)
          refine a_iconst (x := (-1)) dX11_clear_37 rfl ⟨by decide, by decide⟩ ?_
          exact a_iret dX11_clear_38 rfl hy
def A_M_closesSums_0 (d : Nat) (Q : Int → AH → Prop) (p1 : Int) (h : AH) : Prop := AW d M_M_closesSums Q 0 [some (vR 12 (-1)), some (vI p1)] [] h
def A_M_closesSums_17 (d : Nat) (Q : Int → AH → Prop) (p1 : Int) (h : AH) : Prop := AW d M_M_closesSums Q 17 [some (vR 12 (-1)), some (vI p1)] [] h
def A_M_closesSums_37 (d : Nat) (Q : Int → AH → Prop) (p1 : Int) (h : AH) : Prop := AW d M_M_closesSums Q 37 [some (vR 12 (-1)), some (vI p1)] [] h
theorem s_M_closesSums_0 {d : Nat} {Q : Int → AH → Prop} {p1 : Int} {h : AH} (hy : Call d M_M_top [vR 12 (-1)] h (fun r2 h1 => ((r2 < 4 → A_M_closesSums_17 d Q p1 h1) ∧ (4 ≤ r2 → (Call d M_M_top [vR 12 (-1)] h1 (fun r4 h3 => ((r4 ≤ 6 → A_M_closesSums_37 d Q p1 h3) ∧ (6 < r4 → A_M_closesSums_17 d Q p1 h3)))))))) : A_M_closesSums_0 d Q p1 h := by
  show AW d M_M_closesSums Q 0 [some (vR 12 (-1)), some (vI p1)] [] h
  refine a_aload_n dX11_closesSums_0 rfl ?_
  refine a_callVi (as := []) (st := []) dX11_closesSums_1 lk_M_194 sk_12 rfl rfl (Nat.le_of_ble_eq_true rfl) (Or.inl rfl) (Call.mono hy (fun r2 h1 _ hy => ?_))
  refine a_iconst (x := 4) dX11_closesSums_4 rfl ⟨by decide, by decide⟩ ?_
  refine a_icmp_lt (tgt := 17) dX11_closesSums_5 (by decide) (fun c => ?_) (fun c => ?_)
  · have hy := hy.1 c
    exact hy
  · have hy := hy.2 (Int.not_lt.mp c)
    refine a_aload_n dX11_closesSums_8 rfl ?_
    refine a_callVi (as := []) (st := []) dX11_closesSums_9 lk_M_194 sk_12 rfl rfl (Nat.le_of_ble_eq_true rfl) (Or.inl rfl) (Call.mono hy (fun r4 h3 _ hy => ?_))
    refine a_bipush (x := 6) dX11_closesSums_12 (by decide) ⟨by decide, by decide⟩ ?_
    refine a_icmp_le (tgt := 37) dX11_closesSums_14 (by decide) (fun c => ?_) (fun c => ?_)
    · have hy := hy.1 c
      exact hy
    · have hy := hy.2 (Int.not_le.mp c)
      exact hy
theorem s_M_closesSums_17 {d : Nat} {Q : Int → AH → Prop} {p1 : Int} {h : AH} (hy : ((p1 = 0 → Q 0 h) ∧ (p1 ≠ 0 → (Call d M_M_top [vR 12 (-1)] h (fun r2 h1 => ((r2 = 2 → A_M_closesSums_37 d Q p1 h1) ∧ (r2 ≠ 2 → (Call d M_M_top [vR 12 (-1)] h1 (fun r4 h3 => ((r4 ≠ 3 → Q 0 h3) ∧ (r4 = 3 → A_M_closesSums_37 d Q p1 h3))))))))))) : A_M_closesSums_17 d Q p1 h := by
  show AW d M_M_closesSums Q 17 [some (vR 12 (-1)), some (vI p1)] [] h
  refine a_iload_n dX11_closesSums_17 rfl ?_
  refine a_if_eq (tgt := 59) dX11_closesSums_18 (by decide) (fun c => ?_) (fun c => ?_)
  · have hy := hy.1 c
    exact a_vret dX11_closesSums_59 rfl hy
  · have hy := hy.2 (c)
    refine a_aload_n dX11_closesSums_21 rfl ?_
    refine a_callVi (as := []) (st := []) dX11_closesSums_22 lk_M_194 sk_12 rfl rfl (Nat.le_of_ble_eq_true rfl) (Or.inl rfl) (Call.mono hy (fun r2 h1 _ hy => ?_))
    refine a_iconst (x := 2) dX11_closesSums_25 rfl ⟨by decide, by decide⟩ ?_
    refine a_icmp_eq (tgt := 37) dX11_closesSums_26 (by decide) (fun c => ?_) (fun c => ?_)
    · have hy := hy.1 c
      exact hy
    · have hy := hy.2 (c)
      refine a_aload_n dX11_closesSums_29 rfl ?_
      refine a_callVi (as := []) (st := []) dX11_closesSums_30 lk_M_194 sk_12 rfl rfl (Nat.le_of_ble_eq_true rfl) (Or.inl rfl) (Call.mono hy (fun r4 h3 _ hy => ?_))
      refine a_iconst (x := 3) dX11_closesSums_33 rfl ⟨by decide, by decide⟩ ?_
      refine a_icmp_ne (tgt := 59) dX11_closesSums_34 (by decide) (fun c => ?_) (fun c => ?_)
      · have hy := hy.1 c
        exact a_vret dX11_closesSums_59 rfl hy
      · have hy := hy.2 (Decidable.not_not.mp c)
        exact hy
theorem s_M_closesSums_37 {d : Nat} {Q : Int → AH → Prop} {p1 : Int} {h : AH} (hy : Call d M_M_top [vR 12 (-1)] h (fun r2 h1 => Call d M_M_notes [vR 12 (-1), vI r2, vI 0] h1 (fun _ h3 => inI ((h3.1 12 17) - 1) ∧ A_M_closesSums_0 d Q p1 (wI h3 12 17 ((h3.1 12 17) - 1))))) : A_M_closesSums_37 d Q p1 h := by
  show AW d M_M_closesSums Q 37 [some (vR 12 (-1)), some (vI p1)] [] h
  refine a_aload_n dX11_closesSums_37 rfl ?_
  refine a_aload_n dX11_closesSums_38 rfl ?_
  refine a_callVi (as := []) (st := [vR 12 (-1)]) dX11_closesSums_39 lk_M_194 sk_12 rfl rfl (Nat.le_of_ble_eq_true rfl) (Or.inl rfl) (Call.mono hy (fun r2 h1 _ hy => ?_))
  refine a_iconst (x := 0) dX11_closesSums_42 rfl ⟨by decide, by decide⟩ ?_
  refine a_callVv (as := [vI r2, vI 0]) (st := []) dX11_closesSums_43 lk_M_197 sk_12 rfl rfl (Nat.le_of_ble_eq_true rfl) rfl (Call.mono hy (fun _ h3 _ hy => ?_))
  refine a_aload_n dX11_closesSums_46 rfl ?_
  refine a_aload_n dX11_closesSums_47 rfl ?_
  refine a_getI' (kz := 17) dX11_closesSums_48 fl_M_191 sk_12 rfl rfl (rfl) ?_
  refine a_iconst (x := 1) dX11_closesSums_51 rfl ⟨by decide, by decide⟩ ?_
  obtain ⟨c4, hy⟩ := hy
  refine a_isub dX11_closesSums_52 c4 ?_
  refine a_putI (kz := 17) dX11_closesSums_53 fp_M_191 sk_12 rfl rfl ?_
  refine a_goto (tgt := 0) dX11_closesSums_56 (by decide) ?_
  exact hy
theorem c_M_closesSums {d : Nat} (d0 : Nat) (hd : d0 < d) {p1 : Int} {h : AH} {Q : Int → AH → Prop} (hy : A_M_closesSums_0 d0 Q p1 h) : Call d M_M_closesSums [vR 12 (-1), vI p1] h Q := by
  refine ⟨d0, hd, Big.of rfl (Nat.le_of_ble_eq_true rfl) ?_⟩
  show AW d0 M_M_closesSums Q 0 [some (vR 12 (-1)), some (vI p1)] [] h
  exact hy
def A_M_comes_3 (d : Nat) (Q : Int → AH → Prop) (p1 : Int) (p2 : Int) (p3 : Int) (v4 : Int) (h : AH) : Prop := AW d M_M_comes Q 3 [some (vR 12 (-1)), some (vI p1), some (vI p2), some (vI p3), some (vI v4), none, none] [] h
def A_M_comes_39 (d : Nat) (Q : Int → AH → Prop) (p2 : Int) (p3 : Int) (v4 : Int) (h : AH) : Prop := AW d M_M_comes Q 39 [some (vR 12 (-1)), none, some (vI p2), some (vI p3), some (vI v4), none, none] [] h
def A_M_comes_50 (d : Nat) (Q : Int → AH → Prop) (p2 : Int) (p3 : Int) (v4 : Int) (v5 : Int) (h : AH) : Prop := AW d M_M_comes Q 50 [some (vR 12 (-1)), none, some (vI p2), some (vI p3), some (vI v4), some (vI v5), none] [] h
def A_M_comes_62 (d : Nat) (Q : Int → AH → Prop) (p2 : Int) (p3 : Int) (v4 : Int) (v5 : Int) (v6 : Int) (h : AH) : Prop := AW d M_M_comes Q 62 [some (vR 12 (-1)), none, some (vI p2), some (vI p3), some (vI v4), some (vI v5), some (vI v6)] [] h
theorem s_M_comes_3 {d : Nat} {Q : Int → AH → Prop} {p1 : Int} {p2 : Int} {p3 : Int} {v4 : Int} {h : AH} (hy : (((h.1 12 0) ≤ v4 → A_M_comes_39 d Q p2 p3 1 h) ∧ (v4 < (h.1 12 0) → (inb v4 40 ∧ ((if v4 = p1 then (1 : Int) else 0) = 0 ∨ (if v4 = p1 then (1 : Int) else 0) = 1) ∧ (inI (v4 + 1) ∧ A_M_comes_3 d Q p1 p2 p3 (v4 + 1) (wI h 83 v4 (if v4 = p1 then (1 : Int) else 0))))))) : A_M_comes_3 d Q p1 p2 p3 v4 h := by
  show AW d M_M_comes Q 3 [some (vR 12 (-1)), some (vI p1), some (vI p2), some (vI p3), some (vI v4), none, none] [] h
  refine a_iload dX11_comes_3 rfl ?_
  refine a_aload_n dX11_comes_5 rfl ?_
  refine a_getI' (kz := 0) dX11_comes_6 fl_M_130 sk_12 rfl rfl (rfl) ?_
  refine a_icmp_ge (tgt := 36) dX11_comes_9 (by decide) (fun c => ?_) (fun c => ?_)
  · have hy := hy.1 c
    refine a_iconst (x := 1) dX11_comes_36 rfl ⟨by decide, by decide⟩ ?_
    refine a_istore (ls2 := [some (vR 12 (-1)), some (vI p1), some (vI p2), some (vI p3), some (vI 1), none, none]) dX11_comes_37 (Nat.le_of_ble_eq_true rfl) rfl ?_
    refine a_mask [true, false, true, true, true, true, true] (ls2 := [some (vR 12 (-1)), none, some (vI p2), some (vI p3), some (vI 1), none, none]) rfl rfl ?_
    exact hy
  · have hy := hy.2 (Int.not_le.mp c)
    refine a_aload_n dX11_comes_12 rfl ?_
    refine a_getR dX11_comes_13 fl_M_88 sk_12 rfl ?_
    refine a_iload dX11_comes_16 rfl ?_
    refine a_iload dX11_comes_18 rfl ?_
    refine a_iload_n dX11_comes_20 rfl ?_
    have J : AW d M_M_comes Q 29 [some (vR 12 (-1)), some (vI p1), some (vI p2), some (vI p3), some (vI v4), none, none] [vI (if v4 = p1 then (1 : Int) else 0), vI v4, vR 83 (-1)] h := by
      obtain ⟨c1, hy⟩ := hy
      obtain ⟨c2, hy⟩ := hy
      refine a_zast dX11_comes_29 sk_83 c1 c2 ?_
      obtain ⟨c3, hy⟩ := hy
      refine a_iinc (y := v4 + 1) (ls2 := [some (vR 12 (-1)), some (vI p1), some (vI p2), some (vI p3), some (vI (v4 + 1)), none, none]) dX11_comes_30 rfl rfl c3 rfl ?_
      refine a_goto (tgt := 3) dX11_comes_33 (by decide) ?_
      exact hy
    refine a_icmp_ne (tgt := 28) dX11_comes_21 (by decide) (fun e4 => ?_) (fun e4 => ?_)
    · refine a_iconst (x := 0) dX11_comes_28 rfl ⟨by decide, by decide⟩ ?_
      exact a_cast (by first | rfl | simp only [if_neg e4]) (by first | rfl | simp only [if_neg e4]) J
    · refine a_iconst (x := 1) dX11_comes_24 rfl ⟨by decide, by decide⟩ ?_
      refine a_goto (tgt := 29) dX11_comes_25 (by decide) ?_
      exact a_cast (by first | rfl | simp only [if_pos (Decidable.not_not.mp e4)]) (by first | rfl | simp only [if_pos (Decidable.not_not.mp e4)]) J
theorem s_M_comes_39 {d : Nat} {Q : Int → AH → Prop} {p2 : Int} {p3 : Int} {v4 : Int} {h : AH} (hy : ((v4 = 0 → (inb p2 40 ∧ (((h.1 83 p2) = 0 ∨ (h.1 83 p2) = 1) ∧ Q (h.1 83 p2) h))) ∧ (v4 ≠ 0 → A_M_comes_50 d Q p2 p3 0 0 h))) : A_M_comes_39 d Q p2 p3 v4 h := by
  show AW d M_M_comes Q 39 [some (vR 12 (-1)), none, some (vI p2), some (vI p3), some (vI v4), none, none] [] h
  refine a_iload dX11_comes_39 rfl ?_
  refine a_if_eq (tgt := 137) dX11_comes_41 (by decide) (fun c => ?_) (fun c => ?_)
  · have hy := hy.1 c
    refine a_aload_n dX11_comes_137 rfl ?_
    refine a_getR dX11_comes_138 fl_M_88 sk_12 rfl ?_
    refine a_iload_n dX11_comes_141 rfl ?_
    obtain ⟨c1, hy⟩ := hy
    refine a_zald' dX11_comes_142 sk_83 c1 (rfl) ?_
    obtain ⟨c2, hy⟩ := hy
    exact a_zret dX11_comes_143 rfl c2 hy
  · have hy := hy.2 (c)
    refine a_iconst (x := 0) dX11_comes_44 rfl ⟨by decide, by decide⟩ ?_
    refine a_istore (ls2 := [some (vR 12 (-1)), none, some (vI p2), some (vI p3), some (vI 0), none, none]) dX11_comes_45 (Nat.le_of_ble_eq_true rfl) rfl ?_
    refine a_iconst (x := 0) dX11_comes_47 rfl ⟨by decide, by decide⟩ ?_
    refine a_istore (ls2 := [some (vR 12 (-1)), none, some (vI p2), some (vI p3), some (vI 0), some (vI 0), none]) dX11_comes_48 (Nat.le_of_ble_eq_true rfl) rfl ?_
    exact hy
theorem s_M_comes_50 {d : Nat} {Q : Int → AH → Prop} {p2 : Int} {p3 : Int} {v4 : Int} {v5 : Int} {h : AH} (hy : (((h.1 12 0) ≤ v5 → A_M_comes_39 d Q p2 p3 v4 h) ∧ (v5 < (h.1 12 0) → A_M_comes_62 d Q p2 p3 v4 v5 0 h))) : A_M_comes_50 d Q p2 p3 v4 v5 h := by
  show AW d M_M_comes Q 50 [some (vR 12 (-1)), none, some (vI p2), some (vI p3), some (vI v4), some (vI v5), none] [] h
  refine a_iload dX11_comes_50 rfl ?_
  refine a_aload_n dX11_comes_52 rfl ?_
  refine a_getI' (kz := 0) dX11_comes_53 fl_M_130 sk_12 rfl rfl (rfl) ?_
  refine a_icmp_ge (tgt := 134) dX11_comes_56 (by decide) (fun c => ?_) (fun c => ?_)
  · have hy := hy.1 c
    refine a_goto (tgt := 39) dX11_comes_134 (by decide) ?_
    refine a_mask [true, true, true, true, true, false, true] (ls2 := [some (vR 12 (-1)), none, some (vI p2), some (vI p3), some (vI v4), none, none]) rfl rfl ?_
    exact hy
  · have hy := hy.2 (Int.not_le.mp c)
    refine a_iconst (x := 0) dX11_comes_59 rfl ⟨by decide, by decide⟩ ?_
    refine a_istore (ls2 := [some (vR 12 (-1)), none, some (vI p2), some (vI p3), some (vI v4), some (vI v5), some (vI 0)]) dX11_comes_60 (Nat.le_of_ble_eq_true rfl) rfl ?_
    exact hy
theorem s_M_comes_62 {d : Nat} {Q : Int → AH → Prop} {p2 : Int} {p3 : Int} {v4 : Int} {v5 : Int} {v6 : Int} {h : AH} (hy : (((h.1 12 0) ≤ v6 → (inI (v5 + 1) ∧ A_M_comes_50 d Q p2 p3 v4 (v5 + 1) h)) ∧ (v6 < (h.1 12 0) → (inb v5 40 ∧ (((h.1 83 v5) = 0 → (inI (v5 + 1) ∧ A_M_comes_50 d Q p2 p3 v4 (v5 + 1) h)) ∧ ((h.1 83 v5) ≠ 0 → (inb v6 40 ∧ (((h.1 83 v6) ≠ 0 → (inI (v6 + 1) ∧ A_M_comes_62 d Q p2 p3 v4 v5 (v6 + 1) h)) ∧ ((h.1 83 v6) = 0 → ((v6 = p3 → (inI (v6 + 1) ∧ A_M_comes_62 d Q p2 p3 v4 v5 (v6 + 1) h)) ∧ (v6 ≠ p3 → (Call d M_M_isStep [vR 12 (-1), vI v5, vI v6] h (fun r8 h7 => ((r8 ≠ 0 → (inI (v6 + 1) ∧ A_M_comes_62 d Q p2 p3 1 v5 (v6 + 1) (wI h7 83 v6 1))) ∧ (r8 = 0 → (inI (v6 + 1) ∧ A_M_comes_62 d Q p2 p3 v4 v5 (v6 + 1) h7)))))))))))))))) : A_M_comes_62 d Q p2 p3 v4 v5 v6 h := by
  show AW d M_M_comes Q 62 [some (vR 12 (-1)), none, some (vI p2), some (vI p3), some (vI v4), some (vI v5), some (vI v6)] [] h
  refine a_iload dX11_comes_62 rfl ?_
  refine a_aload_n dX11_comes_64 rfl ?_
  refine a_getI' (kz := 0) dX11_comes_65 fl_M_130 sk_12 rfl rfl (rfl) ?_
  refine a_icmp_ge (tgt := 128) dX11_comes_68 (by decide) (fun c => ?_) (fun c => ?_)
  · have hy := hy.1 c
    obtain ⟨c1, hy⟩ := hy
    refine a_iinc (y := v5 + 1) (ls2 := [some (vR 12 (-1)), none, some (vI p2), some (vI p3), some (vI v4), some (vI (v5 + 1)), some (vI v6)]) dX11_comes_128 rfl rfl c1 rfl ?_
    refine a_goto (tgt := 50) dX11_comes_131 (by decide) ?_
    refine a_mask [true, true, true, true, true, true, false] (ls2 := [some (vR 12 (-1)), none, some (vI p2), some (vI p3), some (vI v4), some (vI (v5 + 1)), none]) rfl rfl ?_
    exact hy
  · have hy := hy.2 (Int.not_le.mp c)
    refine a_aload_n dX11_comes_71 rfl ?_
    refine a_getR dX11_comes_72 fl_M_88 sk_12 rfl ?_
    refine a_iload dX11_comes_75 rfl ?_
    obtain ⟨c2, hy⟩ := hy
    refine a_zald' dX11_comes_77 sk_83 c2 (rfl) ?_
    refine a_if_eq (tgt := 128) dX11_comes_78 (by decide) (fun c => ?_) (fun c => ?_)
    · have hy := hy.1 c
      obtain ⟨c3, hy⟩ := hy
      refine a_iinc (y := v5 + 1) (ls2 := [some (vR 12 (-1)), none, some (vI p2), some (vI p3), some (vI v4), some (vI (v5 + 1)), some (vI v6)]) dX11_comes_128 rfl rfl c3 rfl ?_
      refine a_goto (tgt := 50) dX11_comes_131 (by decide) ?_
      refine a_mask [true, true, true, true, true, true, false] (ls2 := [some (vR 12 (-1)), none, some (vI p2), some (vI p3), some (vI v4), some (vI (v5 + 1)), none]) rfl rfl ?_
      exact hy
    · have hy := hy.2 (c)
      refine a_aload_n dX11_comes_81 rfl ?_
      refine a_getR dX11_comes_82 fl_M_88 sk_12 rfl ?_
      refine a_iload dX11_comes_85 rfl ?_
      obtain ⟨c4, hy⟩ := hy
      refine a_zald' dX11_comes_87 sk_83 c4 (rfl) ?_
      refine a_if_ne (tgt := 122) dX11_comes_88 (by decide) (fun c => ?_) (fun c => ?_)
      · have hy := hy.1 c
        obtain ⟨c5, hy⟩ := hy
        refine a_iinc (y := v6 + 1) (ls2 := [some (vR 12 (-1)), none, some (vI p2), some (vI p3), some (vI v4), some (vI v5), some (vI (v6 + 1))]) dX11_comes_122 rfl rfl c5 rfl ?_
        refine a_goto (tgt := 62) dX11_comes_125 (by decide) ?_
        exact hy
      · have hy := hy.2 (Decidable.not_not.mp c)
        refine a_iload dX11_comes_91 rfl ?_
        refine a_iload_n dX11_comes_93 rfl ?_
        refine a_icmp_eq (tgt := 122) dX11_comes_94 (by decide) (fun c => ?_) (fun c => ?_)
        · have hy := hy.1 c
          obtain ⟨c6, hy⟩ := hy
          refine a_iinc (y := v6 + 1) (ls2 := [some (vR 12 (-1)), none, some (vI p2), some (vI p3), some (vI v4), some (vI v5), some (vI (v6 + 1))]) dX11_comes_122 rfl rfl c6 rfl ?_
          refine a_goto (tgt := 62) dX11_comes_125 (by decide) ?_
          exact hy
        · have hy := hy.2 (c)
          refine a_aload_n dX11_comes_97 rfl ?_
          refine a_iload dX11_comes_98 rfl ?_
          refine a_iload dX11_comes_100 rfl ?_
          refine a_callVi (as := [vI v5, vI v6]) (st := []) dX11_comes_102 lk_M_294 sk_12 rfl rfl (Nat.le_of_ble_eq_true rfl) (Or.inr rfl) (Call.mono hy (fun r8 h7 _ hy => ?_))
          refine a_if_ne (tgt := 111) dX11_comes_105 (by decide) (fun c => ?_) (fun c => ?_)
          · have hy := hy.1 c
            refine a_aload_n dX11_comes_111 rfl ?_
            refine a_getR dX11_comes_112 fl_M_88 sk_12 rfl ?_
            refine a_iload dX11_comes_115 rfl ?_
            refine a_iconst (x := 1) dX11_comes_117 rfl ⟨by decide, by decide⟩ ?_
            refine a_zast dX11_comes_118 sk_83 c4 (Or.inr rfl) ?_
            refine a_iconst (x := 1) dX11_comes_119 rfl ⟨by decide, by decide⟩ ?_
            refine a_istore (ls2 := [some (vR 12 (-1)), none, some (vI p2), some (vI p3), some (vI 1), some (vI v5), some (vI v6)]) dX11_comes_120 (Nat.le_of_ble_eq_true rfl) rfl ?_
            obtain ⟨c9, hy⟩ := hy
            refine a_iinc (y := v6 + 1) (ls2 := [some (vR 12 (-1)), none, some (vI p2), some (vI p3), some (vI 1), some (vI v5), some (vI (v6 + 1))]) dX11_comes_122 rfl rfl c9 rfl ?_
            refine a_goto (tgt := 62) dX11_comes_125 (by decide) ?_
            exact hy
          · have hy := hy.2 (Decidable.not_not.mp c)
            refine a_goto (tgt := 122) dX11_comes_108 (by decide) ?_
            obtain ⟨c10, hy⟩ := hy
            refine a_iinc (y := v6 + 1) (ls2 := [some (vR 12 (-1)), none, some (vI p2), some (vI p3), some (vI v4), some (vI v5), some (vI (v6 + 1))]) dX11_comes_122 rfl rfl c10 rfl ?_
            refine a_goto (tgt := 62) dX11_comes_125 (by decide) ?_
            exact hy
theorem c_M_comes {d : Nat} (d0 : Nat) (hd : d0 < d) {p1 : Int} {p2 : Int} {p3 : Int} {h : AH} {Q : Int → AH → Prop} (hy : A_M_comes_3 d0 Q p1 p2 p3 0 h) : Call d M_M_comes [vR 12 (-1), vI p1, vI p2, vI p3] h Q := by
  refine ⟨d0, hd, Big.of rfl (Nat.le_of_ble_eq_true rfl) ?_⟩
  show AW d0 M_M_comes Q 0 [some (vR 12 (-1)), some (vI p1), some (vI p2), some (vI p3), none, none, none] [] h
  refine a_iconst (x := 0) dX11_comes_0 rfl ⟨by decide, by decide⟩ ?_
  refine a_istore (ls2 := [some (vR 12 (-1)), some (vI p1), some (vI p2), some (vI p3), some (vI 0), none, none]) dX11_comes_1 (Nat.le_of_ble_eq_true rfl) rfl ?_
  exact hy
def A_M_comesTo_16 (d : Nat) (Q : Int → AH → Prop) (p2 : Int) (v3 : Int) (v4 : Int) (v5 : Int) (h : AH) : Prop := AW d M_M_comesTo Q 16 [some (vR 12 (-1)), none, some (vI p2), some (vI v3), some (vI v4), some (vI v5), none, none] [] h
def A_M_comesTo_63 (d : Nat) (Q : Int → AH → Prop) (p2 : Int) (v3 : Int) (v4 : Int) (v5 : Int) (v6 : Int) (v7 : Int) (h : AH) : Prop := AW d M_M_comesTo Q 63 [some (vR 12 (-1)), none, some (vI p2), some (vI v3), some (vI v4), some (vI v5), some (vI v6), some (vI v7)] [] h
def A_M_comesTo_135 (d : Nat) (Q : Int → AH → Prop) (p2 : Int) (v3 : Int) (v4 : Int) (v5 : Int) (v6 : Int) (v7 : Int) (h : AH) : Prop := AW d M_M_comesTo Q 135 [some (vR 12 (-1)), none, some (vI p2), some (vI v3), some (vI v4), some (vI v5), some (vI v6), some (vI v7)] [] h
def A_M_comesTo_192 (d : Nat) (Q : Int → AH → Prop) (p2 : Int) (v3 : Int) (v4 : Int) (v5 : Int) (v6 : Int) (h : AH) : Prop := AW d M_M_comesTo Q 192 [some (vR 12 (-1)), none, some (vI p2), some (vI v3), some (vI v4), some (vI v5), some (vI v6), none] [] h
def A_M_comesTo_203 (d : Nat) (Q : Int → AH → Prop) (p2 : Int) (v3 : Int) (v4 : Int) (v5 : Int) (v6 : Int) (h : AH) : Prop := AW d M_M_comesTo Q 203 [some (vR 12 (-1)), none, some (vI p2), some (vI v3), some (vI v4), some (vI v5), some (vI v6), none] [] h
def A_M_comesTo_85 (d : Nat) (Q : Int → AH → Prop) (p2 : Int) (v3 : Int) (v4 : Int) (v5 : Int) (s1 : Int) (s2 : Int) (h : AH) : Prop := AW d M_M_comesTo Q 85 [some (vR 12 (-1)), none, some (vI p2), some (vI v3), some (vI v4), some (vI v5), none, none] [vI s2, vI s1, vR 76 (-1)] h
theorem s_M_comesTo_16 {d : Nat} {Q : Int → AH → Prop} {p2 : Int} {v3 : Int} {v4 : Int} {v5 : Int} {h : AH} (hy : ((p2 ≤ v5 → Q (h.1 76 0) h) ∧ (v5 < p2 → (inb v5 180 ∧ (inI (Int.tdiv (h.1 71 v5) 1048576) ∧ (inI (v5 + 1) ∧ (((Int.tdiv (h.1 71 v5) 1048576) = 0 → A_M_comesTo_63 d Q p2 v3 v4 (v5 + 1) (Int.tdiv (h.1 71 v5) 1048576) (Int.tmod (h.1 71 v5) 1048576) h) ∧ ((Int.tdiv (h.1 71 v5) 1048576) ≠ 0 → (((Int.tdiv (h.1 71 v5) 1048576) ≠ 1 → (((Int.tdiv (h.1 71 v5) 1048576) ≠ 10 → (((Int.tdiv (h.1 71 v5) 1048576) = 11 → A_M_comesTo_135 d Q p2 v3 v4 (v5 + 1) (Int.tdiv (h.1 71 v5) 1048576) (Int.tmod (h.1 71 v5) 1048576) h) ∧ ((Int.tdiv (h.1 71 v5) 1048576) ≠ 11 → (((Int.tdiv (h.1 71 v5) 1048576) ≠ 12 → (inI (v3 - 1) ∧ (((Int.tdiv (h.1 71 v5) 1048576) = 5 → A_M_comesTo_192 d Q p2 (v3 - 1) v4 (v5 + 1) (Int.tdiv (h.1 71 v5) 1048576) h) ∧ ((Int.tdiv (h.1 71 v5) 1048576) ≠ 5 → (((Int.tdiv (h.1 71 v5) 1048576) ≠ 6 → A_M_comesTo_203 d Q p2 (v3 - 1) v4 (v5 + 1) (Int.tdiv (h.1 71 v5) 1048576) h) ∧ ((Int.tdiv (h.1 71 v5) 1048576) = 6 → A_M_comesTo_192 d Q p2 (v3 - 1) v4 (v5 + 1) (Int.tdiv (h.1 71 v5) 1048576) h)))))) ∧ ((Int.tdiv (h.1 71 v5) 1048576) = 12 → A_M_comesTo_135 d Q p2 v3 v4 (v5 + 1) (Int.tdiv (h.1 71 v5) 1048576) (Int.tmod (h.1 71 v5) 1048576) h))))) ∧ ((Int.tdiv (h.1 71 v5) 1048576) = 10 → (inI (v3 - 1) ∧ (inb (v3 - 1) 180 ∧ (inI (1 - (h.1 76 (v3 - 1))) ∧ A_M_comesTo_16 d Q p2 v3 v4 (v5 + 1) (wI h 76 (v3 - 1) (1 - (h.1 76 (v3 - 1)))))))))) ∧ ((Int.tdiv (h.1 71 v5) 1048576) = 1 → A_M_comesTo_63 d Q p2 v3 v4 (v5 + 1) (Int.tdiv (h.1 71 v5) 1048576) (Int.tmod (h.1 71 v5) 1048576) h)))))))))) : A_M_comesTo_16 d Q p2 v3 v4 v5 h := by
  show AW d M_M_comesTo Q 16 [some (vR 12 (-1)), none, some (vI p2), some (vI v3), some (vI v4), some (vI v5), none, none] [] h
  refine a_iload dX11_comesTo_16 rfl ?_
  refine a_iload_n dX11_comesTo_18 rfl ?_
  refine a_icmp_ge (tgt := 233) dX11_comesTo_19 (by decide) (fun c => ?_) (fun c => ?_)
  · have hy := hy.1 c
    refine a_aload_n dX11_comesTo_233 rfl ?_
    refine a_getR dX11_comesTo_234 fl_M_66 sk_12 rfl ?_
    refine a_iconst (x := 0) dX11_comesTo_237 rfl ⟨by decide, by decide⟩ ?_
    refine a_iald' dX11_comesTo_238 sk_76 ⟨by decide, by decide⟩ (rfl) ?_
    exact a_iret dX11_comesTo_239 rfl hy
  · have hy := hy.2 (Int.not_le.mp c)
    refine a_aload_n dX11_comesTo_22 rfl ?_
    refine a_getR dX11_comesTo_23 fl_M_51 sk_12 rfl ?_
    refine a_iload dX11_comesTo_26 rfl ?_
    obtain ⟨c1, hy⟩ := hy
    refine a_iald' dX11_comesTo_28 sk_71 c1 (rfl) ?_
    refine a_ldc (x := 1048576) dX11_comesTo_29 kc_M_187 ⟨by decide, by decide⟩ ?_
    obtain ⟨c2, hy⟩ := hy
    refine a_idiv dX11_comesTo_31 (by decide) c2 ?_
    refine a_istore (ls2 := [some (vR 12 (-1)), none, some (vI p2), some (vI v3), some (vI v4), some (vI v5), some (vI (Int.tdiv (h.1 71 v5) 1048576)), none]) dX11_comesTo_32 (Nat.le_of_ble_eq_true rfl) rfl ?_
    refine a_aload_n dX11_comesTo_34 rfl ?_
    refine a_getR dX11_comesTo_35 fl_M_51 sk_12 rfl ?_
    refine a_iload dX11_comesTo_38 rfl ?_
    refine a_iald' dX11_comesTo_40 sk_71 c1 (rfl) ?_
    refine a_ldc (x := 1048576) dX11_comesTo_41 kc_M_187 ⟨by decide, by decide⟩ ?_
    refine a_irem dX11_comesTo_43 (by decide) ?_
    refine a_istore (ls2 := [some (vR 12 (-1)), none, some (vI p2), some (vI v3), some (vI v4), some (vI v5), some (vI (Int.tdiv (h.1 71 v5) 1048576)), some (vI (Int.tmod (h.1 71 v5) 1048576))]) dX11_comesTo_44 (Nat.le_of_ble_eq_true rfl) rfl ?_
    refine a_iload dX11_comesTo_46 rfl ?_
    refine a_iconst (x := 1) dX11_comesTo_48 rfl ⟨by decide, by decide⟩ ?_
    obtain ⟨c3, hy⟩ := hy
    refine a_iadd dX11_comesTo_49 c3 ?_
    refine a_istore (ls2 := [some (vR 12 (-1)), none, some (vI p2), some (vI v3), some (vI v4), some (vI (v5 + 1)), some (vI (Int.tdiv (h.1 71 v5) 1048576)), some (vI (Int.tmod (h.1 71 v5) 1048576))]) dX11_comesTo_50 (Nat.le_of_ble_eq_true rfl) rfl ?_
    refine a_iload dX11_comesTo_52 rfl ?_
    refine a_if_eq (tgt := 63) dX11_comesTo_54 (by decide) (fun c => ?_) (fun c => ?_)
    · have hy := hy.1 c
      exact hy
    · have hy := hy.2 (c)
      refine a_iload dX11_comesTo_57 rfl ?_
      refine a_iconst (x := 1) dX11_comesTo_59 rfl ⟨by decide, by decide⟩ ?_
      refine a_icmp_ne (tgt := 93) dX11_comesTo_60 (by decide) (fun c => ?_) (fun c => ?_)
      · have hy := hy.1 c
        refine a_iload dX11_comesTo_93 rfl ?_
        refine a_bipush (x := 10) dX11_comesTo_95 (by decide) ⟨by decide, by decide⟩ ?_
        refine a_icmp_ne (tgt := 121) dX11_comesTo_97 (by decide) (fun c => ?_) (fun c => ?_)
        · have hy := hy.1 c
          refine a_iload dX11_comesTo_121 rfl ?_
          refine a_bipush (x := 11) dX11_comesTo_123 (by decide) ⟨by decide, by decide⟩ ?_
          refine a_icmp_eq (tgt := 135) dX11_comesTo_125 (by decide) (fun c => ?_) (fun c => ?_)
          · have hy := hy.1 c
            exact hy
          · have hy := hy.2 (c)
            refine a_iload dX11_comesTo_128 rfl ?_
            refine a_bipush (x := 12) dX11_comesTo_130 (by decide) ⟨by decide, by decide⟩ ?_
            refine a_icmp_ne (tgt := 175) dX11_comesTo_132 (by decide) (fun c => ?_) (fun c => ?_)
            · have hy := hy.1 c
              refine a_iload_n dX11_comesTo_175 rfl ?_
              refine a_iconst (x := 1) dX11_comesTo_176 rfl ⟨by decide, by decide⟩ ?_
              obtain ⟨c4, hy⟩ := hy
              refine a_isub dX11_comesTo_177 c4 ?_
              refine a_istore_n (i := 3) (ls2 := [some (vR 12 (-1)), none, some (vI p2), some (vI (v3 - 1)), some (vI v4), some (vI (v5 + 1)), some (vI (Int.tdiv (h.1 71 v5) 1048576)), some (vI (Int.tmod (h.1 71 v5) 1048576))]) dX11_comesTo_178 rfl (Nat.le_of_ble_eq_true rfl) rfl ?_
              refine a_iload dX11_comesTo_179 rfl ?_
              refine a_iconst (x := 5) dX11_comesTo_181 rfl ⟨by decide, by decide⟩ ?_
              refine a_icmp_eq (tgt := 192) dX11_comesTo_182 (by decide) (fun c => ?_) (fun c => ?_)
              · have hy := hy.1 c
                refine a_mask [true, true, true, true, true, true, true, false] (ls2 := [some (vR 12 (-1)), none, some (vI p2), some (vI (v3 - 1)), some (vI v4), some (vI (v5 + 1)), some (vI (Int.tdiv (h.1 71 v5) 1048576)), none]) rfl rfl ?_
                exact hy
              · have hy := hy.2 (c)
                refine a_iload dX11_comesTo_185 rfl ?_
                refine a_bipush (x := 6) dX11_comesTo_187 (by decide) ⟨by decide, by decide⟩ ?_
                refine a_icmp_ne (tgt := 203) dX11_comesTo_189 (by decide) (fun c => ?_) (fun c => ?_)
                · have hy := hy.1 c
                  refine a_mask [true, true, true, true, true, true, true, false] (ls2 := [some (vR 12 (-1)), none, some (vI p2), some (vI (v3 - 1)), some (vI v4), some (vI (v5 + 1)), some (vI (Int.tdiv (h.1 71 v5) 1048576)), none]) rfl rfl ?_
                  exact hy
                · have hy := hy.2 (Decidable.not_not.mp c)
                  refine a_mask [true, true, true, true, true, true, true, false] (ls2 := [some (vR 12 (-1)), none, some (vI p2), some (vI (v3 - 1)), some (vI v4), some (vI (v5 + 1)), some (vI (Int.tdiv (h.1 71 v5) 1048576)), none]) rfl rfl ?_
                  exact hy
            · have hy := hy.2 (Decidable.not_not.mp c)
              exact hy
        · have hy := hy.2 (Decidable.not_not.mp c)
          refine a_aload_n dX11_comesTo_100 rfl ?_
          refine a_getR dX11_comesTo_101 fl_M_66 sk_12 rfl ?_
          refine a_iload_n dX11_comesTo_104 rfl ?_
          refine a_iconst (x := 1) dX11_comesTo_105 rfl ⟨by decide, by decide⟩ ?_
          obtain ⟨c5, hy⟩ := hy
          refine a_isub dX11_comesTo_106 c5 ?_
          refine a_iconst (x := 1) dX11_comesTo_107 rfl ⟨by decide, by decide⟩ ?_
          refine a_aload_n dX11_comesTo_108 rfl ?_
          refine a_getR dX11_comesTo_109 fl_M_66 sk_12 rfl ?_
          refine a_iload_n dX11_comesTo_112 rfl ?_
          refine a_iconst (x := 1) dX11_comesTo_113 rfl ⟨by decide, by decide⟩ ?_
          refine a_isub dX11_comesTo_114 c5 ?_
          obtain ⟨c6, hy⟩ := hy
          refine a_iald' dX11_comesTo_115 sk_76 c6 (rfl) ?_
          obtain ⟨c7, hy⟩ := hy
          refine a_isub dX11_comesTo_116 c7 ?_
          refine a_iast dX11_comesTo_117 sk_76 c6 ?_
          refine a_goto (tgt := 230) dX11_comesTo_118 (by decide) ?_
          refine a_goto (tgt := 16) dX11_comesTo_230 (by decide) ?_
          refine a_mask [true, true, true, true, true, true, false, false] (ls2 := [some (vR 12 (-1)), none, some (vI p2), some (vI v3), some (vI v4), some (vI (v5 + 1)), none, none]) rfl rfl ?_
          exact hy
      · have hy := hy.2 (Decidable.not_not.mp c)
        exact hy
theorem s_M_comesTo_63 {d : Nat} {Q : Int → AH → Prop} {p2 : Int} {v3 : Int} {v4 : Int} {v5 : Int} {v6 : Int} {v7 : Int} {h : AH} (hy : ((v6 ≠ 0 → (inb v7 9 ∧ A_M_comesTo_85 d Q p2 v3 v4 v5 v3 (h.1 77 v7) h)) ∧ (v6 = 0 → A_M_comesTo_85 d Q p2 v3 v4 v5 v3 v7 h))) : A_M_comesTo_63 d Q p2 v3 v4 v5 v6 v7 h := by
  show AW d M_M_comesTo Q 63 [some (vR 12 (-1)), none, some (vI p2), some (vI v3), some (vI v4), some (vI v5), some (vI v6), some (vI v7)] [] h
  refine a_aload_n dX11_comesTo_63 rfl ?_
  refine a_getR dX11_comesTo_64 fl_M_66 sk_12 rfl ?_
  refine a_iload_n dX11_comesTo_67 rfl ?_
  refine a_iload dX11_comesTo_68 rfl ?_
  refine a_if_ne (tgt := 78) dX11_comesTo_70 (by decide) (fun c => ?_) (fun c => ?_)
  · have hy := hy.1 c
    refine a_aload_n dX11_comesTo_78 rfl ?_
    refine a_getR dX11_comesTo_79 fl_M_69 sk_12 rfl ?_
    refine a_iload dX11_comesTo_82 rfl ?_
    obtain ⟨c1, hy⟩ := hy
    refine a_iald' dX11_comesTo_84 sk_77 c1 (rfl) ?_
    refine a_mask [true, true, true, true, true, true, false, false] (ls2 := [some (vR 12 (-1)), none, some (vI p2), some (vI v3), some (vI v4), some (vI v5), none, none]) rfl rfl ?_
    exact hy
  · have hy := hy.2 (Decidable.not_not.mp c)
    refine a_iload dX11_comesTo_73 rfl ?_
    refine a_goto (tgt := 85) dX11_comesTo_75 (by decide) ?_
    refine a_mask [true, true, true, true, true, true, false, false] (ls2 := [some (vR 12 (-1)), none, some (vI p2), some (vI v3), some (vI v4), some (vI v5), none, none]) rfl rfl ?_
    exact hy
theorem s_M_comesTo_135 {d : Nat} {Q : Int → AH → Prop} {p2 : Int} {v3 : Int} {v4 : Int} {v5 : Int} {v6 : Int} {v7 : Int} {h : AH} (hy : inI (v3 - 1) ∧ (inb (v3 - 1) 180 ∧ (((h.1 76 (v3 - 1)) ≠ (if v6 = 12 then (1 : Int) else 0) → A_M_comesTo_16 d Q p2 (v3 - 1) v4 v5 h) ∧ ((h.1 76 (v3 - 1)) = (if v6 = 12 then (1 : Int) else 0) → (inI (v4 + v7) ∧ A_M_comesTo_16 d Q p2 v3 v4 (v4 + v7) h))))) : A_M_comesTo_135 d Q p2 v3 v4 v5 v6 v7 h := by
  show AW d M_M_comesTo Q 135 [some (vR 12 (-1)), none, some (vI p2), some (vI v3), some (vI v4), some (vI v5), some (vI v6), some (vI v7)] [] h
  refine a_aload_n dX11_comesTo_135 rfl ?_
  refine a_getR dX11_comesTo_136 fl_M_66 sk_12 rfl ?_
  refine a_iload_n dX11_comesTo_139 rfl ?_
  refine a_iconst (x := 1) dX11_comesTo_140 rfl ⟨by decide, by decide⟩ ?_
  obtain ⟨c1, hy⟩ := hy
  refine a_isub dX11_comesTo_141 c1 ?_
  obtain ⟨c2, hy⟩ := hy
  refine a_iald' dX11_comesTo_142 sk_76 c2 (rfl) ?_
  refine a_iload dX11_comesTo_143 rfl ?_
  refine a_bipush (x := 12) dX11_comesTo_145 (by decide) ⟨by decide, by decide⟩ ?_
  have J : AW d M_M_comesTo Q 155 [some (vR 12 (-1)), none, some (vI p2), some (vI v3), some (vI v4), some (vI v5), some (vI v6), some (vI v7)] [vI (if v6 = 12 then (1 : Int) else 0), vI (h.1 76 (v3 - 1))] h := by
    refine a_icmp_ne (tgt := 168) dX11_comesTo_155 (by decide) (fun c => ?_) (fun c => ?_)
    · have hy := hy.1 c
      refine a_iload_n dX11_comesTo_168 rfl ?_
      refine a_iconst (x := 1) dX11_comesTo_169 rfl ⟨by decide, by decide⟩ ?_
      refine a_isub dX11_comesTo_170 c1 ?_
      refine a_istore_n (i := 3) (ls2 := [some (vR 12 (-1)), none, some (vI p2), some (vI (v3 - 1)), some (vI v4), some (vI v5), some (vI v6), some (vI v7)]) dX11_comesTo_171 rfl (Nat.le_of_ble_eq_true rfl) rfl ?_
      refine a_goto (tgt := 230) dX11_comesTo_172 (by decide) ?_
      refine a_goto (tgt := 16) dX11_comesTo_230 (by decide) ?_
      refine a_mask [true, true, true, true, true, true, false, false] (ls2 := [some (vR 12 (-1)), none, some (vI p2), some (vI (v3 - 1)), some (vI v4), some (vI v5), none, none]) rfl rfl ?_
      exact hy
    · have hy := hy.2 (Decidable.not_not.mp c)
      refine a_iload dX11_comesTo_158 rfl ?_
      refine a_iload dX11_comesTo_160 rfl ?_
      obtain ⟨c3, hy⟩ := hy
      refine a_iadd dX11_comesTo_162 c3 ?_
      refine a_istore (ls2 := [some (vR 12 (-1)), none, some (vI p2), some (vI v3), some (vI v4), some (vI (v4 + v7)), some (vI v6), some (vI v7)]) dX11_comesTo_163 (Nat.le_of_ble_eq_true rfl) rfl ?_
      refine a_goto (tgt := 230) dX11_comesTo_165 (by decide) ?_
      refine a_goto (tgt := 16) dX11_comesTo_230 (by decide) ?_
      refine a_mask [true, true, true, true, true, true, false, false] (ls2 := [some (vR 12 (-1)), none, some (vI p2), some (vI v3), some (vI v4), some (vI (v4 + v7)), none, none]) rfl rfl ?_
      exact hy
  refine a_icmp_ne (tgt := 154) dX11_comesTo_147 (by decide) (fun e4 => ?_) (fun e4 => ?_)
  · refine a_iconst (x := 0) dX11_comesTo_154 rfl ⟨by decide, by decide⟩ ?_
    exact a_cast (by first | rfl | simp only [if_neg e4]) (by first | rfl | simp only [if_neg e4]) J
  · refine a_iconst (x := 1) dX11_comesTo_150 rfl ⟨by decide, by decide⟩ ?_
    refine a_goto (tgt := 155) dX11_comesTo_151 (by decide) ?_
    exact a_cast (by first | rfl | simp only [if_pos (Decidable.not_not.mp e4)]) (by first | rfl | simp only [if_pos (Decidable.not_not.mp e4)]) J
theorem s_M_comesTo_192 {d : Nat} {Q : Int → AH → Prop} {p2 : Int} {v3 : Int} {v4 : Int} {v5 : Int} {v6 : Int} {h : AH} (hy : inb v3 180 ∧ (((h.1 76 v3) ≠ 0 → A_M_comesTo_203 d Q p2 v3 v4 v5 v6 h) ∧ ((h.1 76 v3) = 0 → Q 0 h))) : A_M_comesTo_192 d Q p2 v3 v4 v5 v6 h := by
  show AW d M_M_comesTo Q 192 [some (vR 12 (-1)), none, some (vI p2), some (vI v3), some (vI v4), some (vI v5), some (vI v6), none] [] h
  refine a_aload_n dX11_comesTo_192 rfl ?_
  refine a_getR dX11_comesTo_193 fl_M_66 sk_12 rfl ?_
  refine a_iload_n dX11_comesTo_196 rfl ?_
  obtain ⟨c1, hy⟩ := hy
  refine a_iald' dX11_comesTo_197 sk_76 c1 (rfl) ?_
  refine a_if_ne (tgt := 203) dX11_comesTo_198 (by decide) (fun c => ?_) (fun c => ?_)
  · have hy := hy.1 c
    exact hy
  · have hy := hy.2 (Decidable.not_not.mp c)
    refine a_iconst (x := 0) dX11_comesTo_201 rfl ⟨by decide, by decide⟩ ?_
    exact a_iret dX11_comesTo_202 rfl hy
theorem s_M_comesTo_203 {d : Nat} {Q : Int → AH → Prop} {p2 : Int} {v3 : Int} {v4 : Int} {v5 : Int} {v6 : Int} {h : AH} (hy : inI (v3 - 1) ∧ (inb (v3 - 1) 180 ∧ (inb v3 180 ∧ (Call d M_M_reckon [vI v6, vI (h.1 76 (v3 - 1)), vI (h.1 76 v3)] h (fun r5 h4 => A_M_comesTo_16 d Q p2 v3 v4 v5 (wI h4 76 (v3 - 1) r5)))))) : A_M_comesTo_203 d Q p2 v3 v4 v5 v6 h := by
  show AW d M_M_comesTo Q 203 [some (vR 12 (-1)), none, some (vI p2), some (vI v3), some (vI v4), some (vI v5), some (vI v6), none] [] h
  refine a_aload_n dX11_comesTo_203 rfl ?_
  refine a_getR dX11_comesTo_204 fl_M_66 sk_12 rfl ?_
  refine a_iload_n dX11_comesTo_207 rfl ?_
  refine a_iconst (x := 1) dX11_comesTo_208 rfl ⟨by decide, by decide⟩ ?_
  obtain ⟨c1, hy⟩ := hy
  refine a_isub dX11_comesTo_209 c1 ?_
  refine a_iload dX11_comesTo_210 rfl ?_
  refine a_aload_n dX11_comesTo_212 rfl ?_
  refine a_getR dX11_comesTo_213 fl_M_66 sk_12 rfl ?_
  refine a_iload_n dX11_comesTo_216 rfl ?_
  refine a_iconst (x := 1) dX11_comesTo_217 rfl ⟨by decide, by decide⟩ ?_
  refine a_isub dX11_comesTo_218 c1 ?_
  obtain ⟨c2, hy⟩ := hy
  refine a_iald' dX11_comesTo_219 sk_76 c2 (rfl) ?_
  refine a_aload_n dX11_comesTo_220 rfl ?_
  refine a_getR dX11_comesTo_221 fl_M_66 sk_12 rfl ?_
  refine a_iload_n dX11_comesTo_224 rfl ?_
  obtain ⟨c3, hy⟩ := hy
  refine a_iald' dX11_comesTo_225 sk_76 c3 (rfl) ?_
  refine a_callSi (as := [vI v6, vI (h.1 76 (v3 - 1)), vI (h.1 76 v3)]) (st := [vI (v3 - 1), vR 76 (-1)]) dX11_comesTo_226 lk_M_254 rfl rfl (Nat.le_of_ble_eq_true rfl) (Or.inl rfl) (Call.mono hy (fun r5 h4 _ hy => ?_))
  refine a_iast dX11_comesTo_229 sk_76 c2 ?_
  refine a_goto (tgt := 16) dX11_comesTo_230 (by decide) ?_
  refine a_mask [true, true, true, true, true, true, false, true] (ls2 := [some (vR 12 (-1)), none, some (vI p2), some (vI v3), some (vI v4), some (vI v5), none, none]) rfl rfl ?_
  exact hy
theorem s_M_comesTo_85 {d : Nat} {Q : Int → AH → Prop} {p2 : Int} {v3 : Int} {v4 : Int} {v5 : Int} {s1 : Int} {s2 : Int} {h : AH} (hy : inb s1 180 ∧ (inI (v3 + 1) ∧ A_M_comesTo_16 d Q p2 (v3 + 1) v4 v5 (wI h 76 s1 s2))) : A_M_comesTo_85 d Q p2 v3 v4 v5 s1 s2 h := by
  show AW d M_M_comesTo Q 85 [some (vR 12 (-1)), none, some (vI p2), some (vI v3), some (vI v4), some (vI v5), none, none] [vI s2, vI s1, vR 76 (-1)] h
  obtain ⟨c1, hy⟩ := hy
  refine a_iast dX11_comesTo_85 sk_76 c1 ?_
  refine a_iload_n dX11_comesTo_86 rfl ?_
  refine a_iconst (x := 1) dX11_comesTo_87 rfl ⟨by decide, by decide⟩ ?_
  obtain ⟨c2, hy⟩ := hy
  refine a_iadd dX11_comesTo_88 c2 ?_
  refine a_istore_n (i := 3) (ls2 := [some (vR 12 (-1)), none, some (vI p2), some (vI (v3 + 1)), some (vI v4), some (vI v5), none, none]) dX11_comesTo_89 rfl (Nat.le_of_ble_eq_true rfl) rfl ?_
  refine a_goto (tgt := 230) dX11_comesTo_90 (by decide) ?_
  refine a_goto (tgt := 16) dX11_comesTo_230 (by decide) ?_
  exact hy
theorem c_M_comesTo {d : Nat} (d0 : Nat) (hd : d0 < d) {p1 : Int} {p2 : Int} {h : AH} {Q : Int → AH → Prop} (hy : inI (Int.tdiv p1 180) ∧ (inI (180 * (Int.tdiv p1 180)) ∧ A_M_comesTo_16 d0 Q p2 0 (180 * (Int.tdiv p1 180)) p1 h)) : Call d M_M_comesTo [vR 12 (-1), vI p1, vI p2] h Q := by
  refine ⟨d0, hd, Big.of rfl (Nat.le_of_ble_eq_true rfl) ?_⟩
  show AW d0 M_M_comesTo Q 0 [some (vR 12 (-1)), some (vI p1), some (vI p2), none, none, none, none, none] [] h
  refine a_iconst (x := 0) dX11_comesTo_0 rfl ⟨by decide, by decide⟩ ?_
  refine a_istore_n (i := 3) (ls2 := [some (vR 12 (-1)), some (vI p1), some (vI p2), some (vI 0), none, none, none, none]) dX11_comesTo_1 rfl (Nat.le_of_ble_eq_true rfl) rfl ?_
  refine a_sipush (x := 180) dX11_comesTo_2 (by decide) ⟨by decide, by decide⟩ ?_
  refine a_iload_n dX11_comesTo_5 rfl ?_
  refine a_sipush (x := 180) dX11_comesTo_6 (by decide) ⟨by decide, by decide⟩ ?_
  obtain ⟨c1, hy⟩ := hy
  refine a_idiv dX11_comesTo_9 (by decide) c1 ?_
  obtain ⟨c2, hy⟩ := hy
  refine a_imul dX11_comesTo_10 c2 ?_
  refine a_istore (ls2 := [some (vR 12 (-1)), some (vI p1), some (vI p2), some (vI 0), some (vI (180 * (Int.tdiv p1 180))), none, none, none]) dX11_comesTo_11 (Nat.le_of_ble_eq_true rfl) rfl ?_
  refine a_iload_n dX11_comesTo_13 rfl ?_
  refine a_istore (ls2 := [some (vR 12 (-1)), some (vI p1), some (vI p2), some (vI 0), some (vI (180 * (Int.tdiv p1 180))), some (vI p1), none, none]) dX11_comesTo_14 (Nat.le_of_ble_eq_true rfl) rfl ?_
  refine a_mask [true, false, true, true, true, true, true, true] (ls2 := [some (vR 12 (-1)), none, some (vI p2), some (vI 0), some (vI (180 * (Int.tdiv p1 180))), some (vI p1), none, none]) rfl rfl ?_
  exact hy
def A_M_costOf_4 (d : Nat) (Q : Int → AH → Prop) (v1 : Int) (v2 : Int) (h : AH) : Prop := AW d M_M_costOf Q 4 [some (vR 12 (-1)), some (vI v1), some (vI v2), none] [] h
def A_M_costOf_28 (d : Nat) (Q : Int → AH → Prop) (v1 : Int) (v2 : Int) (h : AH) : Prop := AW d M_M_costOf Q 28 [some (vR 12 (-1)), some (vI v1), some (vI v2), none] [] h
theorem s_M_costOf_4 {d : Nat} {Q : Int → AH → Prop} {v1 : Int} {v2 : Int} {h : AH} (hy : (((h.1 12 20) ≤ v2 → ((v1 ≠ (-1) → Q v1 h) ∧ (v1 = (-1) → Q 1 h))) ∧ (v2 < (h.1 12 20) → (inb v2 12 ∧ (((h.1 72 v2) ≠ 99 → A_M_costOf_28 d Q v1 v2 h) ∧ ((h.1 72 v2) = 99 → ((v1 ≠ (-1) → (inI (v2 + 1) ∧ A_M_costOf_4 d Q v1 (v2 + 1) h)) ∧ (v1 = (-1) → A_M_costOf_28 d Q v1 v2 h)))))))) : A_M_costOf_4 d Q v1 v2 h := by
  show AW d M_M_costOf Q 4 [some (vR 12 (-1)), some (vI v1), some (vI v2), none] [] h
  refine a_iload_n dX11_costOf_4 rfl ?_
  refine a_aload_n dX11_costOf_5 rfl ?_
  refine a_getI' (kz := 20) dX11_costOf_6 fl_M_251 sk_12 rfl rfl (rfl) ?_
  refine a_icmp_ge (tgt := 110) dX11_costOf_9 (by decide) (fun c => ?_) (fun c => ?_)
  · have hy := hy.1 c
    refine a_iload_n dX11_costOf_110 rfl ?_
    refine a_iconst (x := (-1)) dX11_costOf_111 rfl ⟨by decide, by decide⟩ ?_
    refine a_icmp_ne (tgt := 119) dX11_costOf_112 (by decide) (fun c => ?_) (fun c => ?_)
    · have hy := hy.1 c
      refine a_iload_n dX11_costOf_119 rfl ?_
      exact a_iret dX11_costOf_120 rfl hy
    · have hy := hy.2 (Decidable.not_not.mp c)
      refine a_iconst (x := 1) dX11_costOf_115 rfl ⟨by decide, by decide⟩ ?_
      refine a_goto (tgt := 120) dX11_costOf_116 (by decide) ?_
      exact a_iret dX11_costOf_120 rfl hy
  · have hy := hy.2 (Int.not_le.mp c)
    refine a_aload_n dX11_costOf_12 rfl ?_
    refine a_getR dX11_costOf_13 fl_M_54 sk_12 rfl ?_
    refine a_iload_n dX11_costOf_16 rfl ?_
    obtain ⟨c1, hy⟩ := hy
    refine a_iald' dX11_costOf_17 sk_72 c1 (rfl) ?_
    refine a_bipush (x := 99) dX11_costOf_18 (by decide) ⟨by decide, by decide⟩ ?_
    refine a_icmp_ne (tgt := 28) dX11_costOf_20 (by decide) (fun c => ?_) (fun c => ?_)
    · have hy := hy.1 c
      exact hy
    · have hy := hy.2 (Decidable.not_not.mp c)
      refine a_iload_n dX11_costOf_23 rfl ?_
      refine a_iconst (x := (-1)) dX11_costOf_24 rfl ⟨by decide, by decide⟩ ?_
      refine a_icmp_ne (tgt := 104) dX11_costOf_25 (by decide) (fun c => ?_) (fun c => ?_)
      · have hy := hy.1 c
        obtain ⟨c2, hy⟩ := hy
        refine a_iinc (y := v2 + 1) (ls2 := [some (vR 12 (-1)), some (vI v1), some (vI (v2 + 1)), none]) dX11_costOf_104 rfl rfl c2 rfl ?_
        refine a_goto (tgt := 4) dX11_costOf_107 (by decide) ?_
        exact hy
      · have hy := hy.2 (Decidable.not_not.mp c)
        exact hy
theorem s_M_costOf_28 {d : Nat} {Q : Int → AH → Prop} {v1 : Int} {v2 : Int} {h : AH} (hy : inb v2 12 ∧ (Call d M_M_comesTo [vR 12 (-1), vI (h.1 74 v2), vI (h.1 75 v2)] h (fun r3 h2 => ((r3 = 1 → (((h2.1 72 v2) ≠ 110 → (Call d M_M_comesTo [vR 12 (-1), vI (h2.1 73 v2), vI (h2.1 74 v2)] h2 (fun r5 h4 => inI (v2 + 1) ∧ A_M_costOf_4 d Q (if 1 ≤ r5 then (if r5 ≤ 99 then (r5 : Int) else 99 : Int) else 1) (v2 + 1) h4))) ∧ ((h2.1 72 v2) = 110 → Q 1000000000 h2))) ∧ (r3 ≠ 1 → (inI (v2 + 1) ∧ A_M_costOf_4 d Q v1 (v2 + 1) h2)))))) : A_M_costOf_28 d Q v1 v2 h := by
  show AW d M_M_costOf Q 28 [some (vR 12 (-1)), some (vI v1), some (vI v2), none] [] h
  refine a_aload_n dX11_costOf_28 rfl ?_
  refine a_aload_n dX11_costOf_29 rfl ?_
  refine a_getR dX11_costOf_30 fl_M_60 sk_12 rfl ?_
  refine a_iload_n dX11_costOf_33 rfl ?_
  obtain ⟨c1, hy⟩ := hy
  refine a_iald' dX11_costOf_34 sk_74 c1 (rfl) ?_
  refine a_aload_n dX11_costOf_35 rfl ?_
  refine a_getR dX11_costOf_36 fl_M_63 sk_12 rfl ?_
  refine a_iload_n dX11_costOf_39 rfl ?_
  refine a_iald' dX11_costOf_40 sk_75 c1 (rfl) ?_
  refine a_callVi (as := [vI (h.1 74 v2), vI (h.1 75 v2)]) (st := []) dX11_costOf_41 lk_M_258 sk_12 rfl rfl (Nat.le_of_ble_eq_true rfl) (Or.inl rfl) (Call.mono hy (fun r3 h2 _ hy => ?_))
  refine a_iconst (x := 1) dX11_costOf_44 rfl ⟨by decide, by decide⟩ ?_
  refine a_icmp_eq (tgt := 51) dX11_costOf_45 (by decide) (fun c => ?_) (fun c => ?_)
  · have hy := hy.1 c
    refine a_aload_n dX11_costOf_51 rfl ?_
    refine a_getR dX11_costOf_52 fl_M_54 sk_12 rfl ?_
    refine a_iload_n dX11_costOf_55 rfl ?_
    refine a_iald' dX11_costOf_56 sk_72 c1 (rfl) ?_
    refine a_bipush (x := 110) dX11_costOf_57 (by decide) ⟨by decide, by decide⟩ ?_
    refine a_icmp_ne (tgt := 65) dX11_costOf_59 (by decide) (fun c => ?_) (fun c => ?_)
    · have hy := hy.1 c
      refine a_aload_n dX11_costOf_65 rfl ?_
      refine a_aload_n dX11_costOf_66 rfl ?_
      refine a_getR dX11_costOf_67 fl_M_57 sk_12 rfl ?_
      refine a_iload_n dX11_costOf_70 rfl ?_
      refine a_iald' dX11_costOf_71 sk_73 c1 (rfl) ?_
      refine a_aload_n dX11_costOf_72 rfl ?_
      refine a_getR dX11_costOf_73 fl_M_60 sk_12 rfl ?_
      refine a_iload_n dX11_costOf_76 rfl ?_
      refine a_iald' dX11_costOf_77 sk_74 c1 (rfl) ?_
      refine a_callVi (as := [vI (h2.1 73 v2), vI (h2.1 74 v2)]) (st := []) dX11_costOf_78 lk_M_258 sk_12 rfl rfl (Nat.le_of_ble_eq_true rfl) (Or.inl rfl) (Call.mono hy (fun r5 h4 _ hy => ?_))
      refine a_istore_n (i := 3) (ls2 := [some (vR 12 (-1)), some (vI v1), some (vI v2), some (vI r5)]) dX11_costOf_81 rfl (Nat.le_of_ble_eq_true rfl) rfl ?_
      refine a_iload_n dX11_costOf_82 rfl ?_
      refine a_iconst (x := 1) dX11_costOf_83 rfl ⟨by decide, by decide⟩ ?_
      have J : AW d M_M_costOf Q 103 [some (vR 12 (-1)), some (vI v1), some (vI v2), some (vI r5)] [vI (if 1 ≤ r5 then (if r5 ≤ 99 then (r5 : Int) else 99 : Int) else 1)] h4 := by
        refine a_istore_n (i := 1) (ls2 := [some (vR 12 (-1)), some (vI (if 1 ≤ r5 then (if r5 ≤ 99 then (r5 : Int) else 99 : Int) else 1)), some (vI v2), some (vI r5)]) dX11_costOf_103 rfl (Nat.le_of_ble_eq_true rfl) rfl ?_
        obtain ⟨c6, hy⟩ := hy
        refine a_iinc (y := v2 + 1) (ls2 := [some (vR 12 (-1)), some (vI (if 1 ≤ r5 then (if r5 ≤ 99 then (r5 : Int) else 99 : Int) else 1)), some (vI (v2 + 1)), some (vI r5)]) dX11_costOf_104 rfl rfl c6 rfl ?_
        refine a_goto (tgt := 4) dX11_costOf_107 (by decide) ?_
        refine a_mask [true, true, true, false] (ls2 := [some (vR 12 (-1)), some (vI (if 1 ≤ r5 then (if r5 ≤ 99 then (r5 : Int) else 99 : Int) else 1)), some (vI (v2 + 1)), none]) rfl rfl ?_
        exact hy
      refine a_icmp_ge (tgt := 91) dX11_costOf_84 (by decide) (fun e7 => ?_) (fun e7 => ?_)
      · refine a_iload_n dX11_costOf_91 rfl ?_
        refine a_bipush (x := 99) dX11_costOf_92 (by decide) ⟨by decide, by decide⟩ ?_
        refine a_icmp_le (tgt := 102) dX11_costOf_94 (by decide) (fun e8 => ?_) (fun e8 => ?_)
        · refine a_iload_n dX11_costOf_102 rfl ?_
          exact a_cast (by first | rfl | simp only [if_pos e7, if_pos e8]) (by first | rfl | simp only [if_pos e7, if_pos e8]) J
        · refine a_bipush (x := 99) dX11_costOf_97 (by decide) ⟨by decide, by decide⟩ ?_
          refine a_goto (tgt := 103) dX11_costOf_99 (by decide) ?_
          exact a_cast (by first | rfl | simp only [if_pos e7, if_neg e8]) (by first | rfl | simp only [if_pos e7, if_neg e8]) J
      · refine a_iconst (x := 1) dX11_costOf_87 rfl ⟨by decide, by decide⟩ ?_
        refine a_goto (tgt := 103) dX11_costOf_88 (by decide) ?_
        exact a_cast (by first | rfl | simp only [if_neg e7]) (by first | rfl | simp only [if_neg e7]) J
    · have hy := hy.2 (Decidable.not_not.mp c)
      refine a_ldc (x := 1000000000) dX11_costOf_62 kc_M_129 ⟨by decide, by decide⟩ ?_
      exact a_iret dX11_costOf_64 rfl hy
  · have hy := hy.2 (c)
    refine a_goto (tgt := 104) dX11_costOf_48 (by decide) ?_
    obtain ⟨c9, hy⟩ := hy
    refine a_iinc (y := v2 + 1) (ls2 := [some (vR 12 (-1)), some (vI v1), some (vI (v2 + 1)), none]) dX11_costOf_104 rfl rfl c9 rfl ?_
    refine a_goto (tgt := 4) dX11_costOf_107 (by decide) ?_
    exact hy
theorem c_M_costOf {d : Nat} (d0 : Nat) (hd : d0 < d)  {h : AH} {Q : Int → AH → Prop} (hy : A_M_costOf_4 d0 Q (-1) 0 h) : Call d M_M_costOf [vR 12 (-1)] h Q := by
  refine ⟨d0, hd, Big.of rfl (Nat.le_of_ble_eq_true rfl) ?_⟩
  show AW d0 M_M_costOf Q 0 [some (vR 12 (-1)), none, none, none] [] h
  refine a_iconst (x := (-1)) dX11_costOf_0 rfl ⟨by decide, by decide⟩ ?_
  refine a_istore_n (i := 1) (ls2 := [some (vR 12 (-1)), some (vI (-1)), none, none]) dX11_costOf_1 rfl (Nat.le_of_ble_eq_true rfl) rfl ?_
  refine a_iconst (x := 0) dX11_costOf_2 rfl ⟨by decide, by decide⟩ ?_
  refine a_istore_n (i := 2) (ls2 := [some (vR 12 (-1)), some (vI (-1)), some (vI 0), none]) dX11_costOf_3 rfl (Nat.le_of_ble_eq_true rfl) rfl ?_
  exact hy
theorem c_M_count {d : Nat} (d0 : Nat) (hd : d0 < d) {p1 : Int} {h : AH} {Q : Int → AH → Prop} (hy : ((p1 = 0 → Q (h.1 12 0) h) ∧ (p1 = 1 → (Call d0 M_M_usedMany [vR 12 (-1)] h (fun r2 h1 => Q r2 h1))) ∧ (p1 = 2 → Q (h.1 12 20) h) ∧ (p1 = 3 → Q (h.1 12 11) h) ∧ (p1 = 4 → Q (h.1 12 1) h) ∧ (p1 = 5 → Q (h.1 12 2) h) ∧ ((p1 < 0 ∨ 5 < p1) → (inI (19 + (h.1 12 0)) ∧ (Call d0 M_M_in [vI p1, vI 20, vI (19 + (h.1 12 0))] h (fun r5 h4 => ((r5 = 0 → (inI (59 + (h4.1 12 0)) ∧ (Call d0 M_M_in [vI p1, vI 60, vI (59 + (h4.1 12 0))] h4 (fun r8 h7 => ((r8 = 0 → (inI (99 + (h7.1 12 0)) ∧ (Call d0 M_M_in [vI p1, vI 100, vI (99 + (h7.1 12 0))] h7 (fun r11 h10 => ((r11 = 0 → Q (-1) h10) ∧ (r11 ≠ 0 → (inI (p1 - 100) ∧ (Call d0 M_M_isUsed [vR 12 (-1), vI (p1 - 100)] h10 (fun r14 h13 => ((r14 = 0 → Q 0 h13) ∧ (r14 ≠ 0 → Q 1 h13))))))))))) ∧ (r8 ≠ 0 → (inI (p1 - 60) ∧ (inb (p1 - 60) 40 ∧ Q (h7.1 60 (p1 - 60)) h7)))))))) ∧ (r5 ≠ 0 → (inI (p1 - 20) ∧ (inb (p1 - 20) 40 ∧ Q (h4.1 58 (p1 - 20)) h4)))))))))) : Call d M_M_count [vR 12 (-1), vI p1] h Q := by
  refine ⟨d0, hd, Big.of rfl (Nat.le_of_ble_eq_true rfl) ?_⟩
  show AW d0 M_M_count Q 0 [some (vR 12 (-1)), some (vI p1)] [] h
  refine a_iload_n dX11_count_0 rfl ?_
  obtain ⟨hy0, hy1, hy2, hy3, hy4, hy5, hyd⟩ := hy
  by_cases e0 : p1 = 0
  · have hy := hy0 e0
    refine a_tsw (i := 0) (tgt := 40) dX11_count_1 (e0.trans (by decide)) (by decide) rfl (by decide) ?_
    refine a_aload_n dX11_count_40 rfl ?_
    refine a_getI' (kz := 0) dX11_count_41 fl_M_130 sk_12 rfl rfl (rfl) ?_
    exact a_iret dX11_count_44 rfl hy
  by_cases e1 : p1 = 1
  · have hy := hy1 e1
    refine a_tsw (i := 1) (tgt := 45) dX11_count_1 (e1.trans (by decide)) (by decide) rfl (by decide) ?_
    refine a_aload_n dX11_count_45 rfl ?_
    refine a_callVi (as := []) (st := []) dX11_count_46 lk_M_430 sk_12 rfl rfl (Nat.le_of_ble_eq_true rfl) (Or.inl rfl) (Call.mono hy (fun r2 h1 _ hy => ?_))
    exact a_iret dX11_count_49 rfl hy
  by_cases e2 : p1 = 2
  · have hy := hy2 e2
    refine a_tsw (i := 2) (tgt := 50) dX11_count_1 (e2.trans (by decide)) (by decide) rfl (by decide) ?_
    refine a_aload_n dX11_count_50 rfl ?_
    refine a_getI' (kz := 20) dX11_count_51 fl_M_251 sk_12 rfl rfl (rfl) ?_
    exact a_iret dX11_count_54 rfl hy
  by_cases e3 : p1 = 3
  · have hy := hy3 e3
    refine a_tsw (i := 3) (tgt := 55) dX11_count_1 (e3.trans (by decide)) (by decide) rfl (by decide) ?_
    refine a_aload_n dX11_count_55 rfl ?_
    refine a_getI' (kz := 11) dX11_count_56 fl_M_133 sk_12 rfl rfl (rfl) ?_
    exact a_iret dX11_count_59 rfl hy
  by_cases e4 : p1 = 4
  · have hy := hy4 e4
    refine a_tsw (i := 4) (tgt := 60) dX11_count_1 (e4.trans (by decide)) (by decide) rfl (by decide) ?_
    refine a_aload_n dX11_count_60 rfl ?_
    refine a_getI' (kz := 1) dX11_count_61 fl_M_122 sk_12 rfl rfl (rfl) ?_
    exact a_iret dX11_count_64 rfl hy
  by_cases e5 : p1 = 5
  · have hy := hy5 e5
    refine a_tsw (i := 5) (tgt := 65) dX11_count_1 (e5.trans (by decide)) (by decide) rfl (by decide) ?_
    refine a_aload_n dX11_count_65 rfl ?_
    refine a_getI' (kz := 2) dX11_count_66 fl_M_126 sk_12 rfl rfl (rfl) ?_
    exact a_iret dX11_count_69 rfl hy
  have ed : (p1 < 0 ∨ 5 < p1) := by omega
  have hy := hyd ed
  refine a_tswD (tgt := 70) dX11_count_1 ed (by decide) ?_
  refine a_iload_n dX11_count_70 rfl ?_
  refine a_bipush (x := 20) dX11_count_71 (by decide) ⟨by decide, by decide⟩ ?_
  refine a_bipush (x := 19) dX11_count_73 (by decide) ⟨by decide, by decide⟩ ?_
  refine a_aload_n dX11_count_75 rfl ?_
  refine a_getI' (kz := 0) dX11_count_76 fl_M_130 sk_12 rfl rfl (rfl) ?_
  obtain ⟨c3, hy⟩ := hy
  refine a_iadd dX11_count_79 c3 ?_
  refine a_callSi (as := [vI p1, vI 20, vI (19 + (h.1 12 0))]) (st := []) dX11_count_80 lk_M_139 rfl rfl (Nat.le_of_ble_eq_true rfl) (Or.inr rfl) (Call.mono hy (fun r5 h4 _ hy => ?_))
  refine a_if_eq (tgt := 96) dX11_count_83 (by decide) (fun c => ?_) (fun c => ?_)
  · have hy := hy.1 c
    refine a_iload_n dX11_count_96 rfl ?_
    refine a_bipush (x := 60) dX11_count_97 (by decide) ⟨by decide, by decide⟩ ?_
    refine a_bipush (x := 59) dX11_count_99 (by decide) ⟨by decide, by decide⟩ ?_
    refine a_aload_n dX11_count_101 rfl ?_
    refine a_getI' (kz := 0) dX11_count_102 fl_M_130 sk_12 rfl rfl (rfl) ?_
    obtain ⟨c6, hy⟩ := hy
    refine a_iadd dX11_count_105 c6 ?_
    refine a_callSi (as := [vI p1, vI 60, vI (59 + (h4.1 12 0))]) (st := []) dX11_count_106 lk_M_139 rfl rfl (Nat.le_of_ble_eq_true rfl) (Or.inr rfl) (Call.mono hy (fun r8 h7 _ hy => ?_))
    refine a_if_eq (tgt := 122) dX11_count_109 (by decide) (fun c => ?_) (fun c => ?_)
    · have hy := hy.1 c
      refine a_iload_n dX11_count_122 rfl ?_
      refine a_bipush (x := 100) dX11_count_123 (by decide) ⟨by decide, by decide⟩ ?_
      refine a_bipush (x := 99) dX11_count_125 (by decide) ⟨by decide, by decide⟩ ?_
      refine a_aload_n dX11_count_127 rfl ?_
      refine a_getI' (kz := 0) dX11_count_128 fl_M_130 sk_12 rfl rfl (rfl) ?_
      obtain ⟨c9, hy⟩ := hy
      refine a_iadd dX11_count_131 c9 ?_
      refine a_callSi (as := [vI p1, vI 100, vI (99 + (h7.1 12 0))]) (st := []) dX11_count_132 lk_M_139 rfl rfl (Nat.le_of_ble_eq_true rfl) (Or.inr rfl) (Call.mono hy (fun r11 h10 _ hy => ?_))
      refine a_if_eq (tgt := 157) dX11_count_135 (by decide) (fun c => ?_) (fun c => ?_)
      · have hy := hy.1 c
        refine a_iconst (x := (-1)) dX11_count_157 rfl ⟨by decide, by decide⟩ ?_
        exact a_iret dX11_count_158 rfl hy
      · have hy := hy.2 (c)
        refine a_aload_n dX11_count_138 rfl ?_
        refine a_iload_n dX11_count_139 rfl ?_
        refine a_bipush (x := 100) dX11_count_140 (by decide) ⟨by decide, by decide⟩ ?_
        obtain ⟨c12, hy⟩ := hy
        refine a_isub dX11_count_142 c12 ?_
        refine a_callVi (as := [vI (p1 - 100)]) (st := []) dX11_count_143 lk_M_282 sk_12 rfl rfl (Nat.le_of_ble_eq_true rfl) (Or.inr rfl) (Call.mono hy (fun r14 h13 _ hy => ?_))
        refine a_if_eq (tgt := 153) dX11_count_146 (by decide) (fun c => ?_) (fun c => ?_)
        · have hy := hy.1 c
          refine a_iconst (x := 0) dX11_count_153 rfl ⟨by decide, by decide⟩ ?_
          refine a_goto (tgt := 158) dX11_count_154 (by decide) ?_
          exact a_iret dX11_count_158 rfl hy
        · have hy := hy.2 (c)
          refine a_iconst (x := 1) dX11_count_149 rfl ⟨by decide, by decide⟩ ?_
          refine a_goto (tgt := 158) dX11_count_150 (by decide) ?_
          exact a_iret dX11_count_158 rfl hy
    · have hy := hy.2 (c)
      refine a_aload_n dX11_count_112 rfl ?_
      refine a_getR dX11_count_113 fl_M_16 sk_12 rfl ?_
      refine a_iload_n dX11_count_116 rfl ?_
      refine a_bipush (x := 60) dX11_count_117 (by decide) ⟨by decide, by decide⟩ ?_
      obtain ⟨c15, hy⟩ := hy
      refine a_isub dX11_count_119 c15 ?_
      obtain ⟨c16, hy⟩ := hy
      refine a_iald' dX11_count_120 sk_60 c16 (rfl) ?_
      exact a_iret dX11_count_121 rfl hy
  · have hy := hy.2 (c)
    refine a_aload_n dX11_count_86 rfl ?_
    refine a_getR dX11_count_87 fl_M_7 sk_12 rfl ?_
    refine a_iload_n dX11_count_90 rfl ?_
    refine a_bipush (x := 20) dX11_count_91 (by decide) ⟨by decide, by decide⟩ ?_
    obtain ⟨c17, hy⟩ := hy
    refine a_isub dX11_count_93 c17 ?_
    obtain ⟨c18, hy⟩ := hy
    refine a_iald' dX11_count_94 sk_58 c18 (rfl) ?_
    exact a_iret dX11_count_95 rfl hy

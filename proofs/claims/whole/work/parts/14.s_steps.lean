def A_Steps_alikeAhead_2 (d : Nat) (Q : Int → AH → Prop) (r0 : Int) (r1 : Int) (p2 : Int) (v3 : Int) (h : AH) : Prop := AW d M_Steps_alikeAhead Q 2 [some (vR 14 r0), some (vR 14 r1), some (vI p2), some (vI v3)] [] h
theorem s_Steps_alikeAhead_2 {d : Nat} {Q : Int → AH → Prop} {r0 : Int} {r1 : Int} {p2 : Int} {v3 : Int} {h : AH} (hy : ((p2 ≤ v3 → Q v3 h) ∧ (v3 < p2 → ((8 ≤ v3 → Q v3 h) ∧ (v3 < 8 → (inb v3 8 ∧ inb r0 40 ∧ (inb r1 40 ∧ (((h.2.2 14 r0 v3) ≠ (h.2.2 14 r1 v3) → Q v3 h) ∧ ((h.2.2 14 r0 v3) = (h.2.2 14 r1 v3) → (inI (v3 + 1) ∧ A_Steps_alikeAhead_2 d Q r0 r1 p2 (v3 + 1) h)))))))))) : A_Steps_alikeAhead_2 d Q r0 r1 p2 v3 h := by
  show AW d M_Steps_alikeAhead Q 2 [some (vR 14 r0), some (vR 14 r1), some (vI p2), some (vI v3)] [] h
  refine a_iload_n dX5_alikeAhead_2 rfl ?_
  refine a_iload_n dX5_alikeAhead_3 rfl ?_
  refine a_icmp_ge (tgt := 28) dX5_alikeAhead_4 (by decide) (fun c => ?_) (fun c => ?_)
  · have hy := hy.1 c
    refine a_iload_n dX5_alikeAhead_28 rfl ?_
    exact a_iret dX5_alikeAhead_29 rfl hy
  · have hy := hy.2 (Int.not_le.mp c)
    refine a_iload_n dX5_alikeAhead_7 rfl ?_
    refine a_bipush (x := 8) dX5_alikeAhead_8 (by decide) ⟨by decide, by decide⟩ ?_
    refine a_icmp_ge (tgt := 28) dX5_alikeAhead_10 (by decide) (fun c => ?_) (fun c => ?_)
    · have hy := hy.1 c
      refine a_iload_n dX5_alikeAhead_28 rfl ?_
      exact a_iret dX5_alikeAhead_29 rfl hy
    · have hy := hy.2 (Int.not_le.mp c)
      refine a_aload_n dX5_alikeAhead_13 rfl ?_
      refine a_iload_n dX5_alikeAhead_14 rfl ?_
      obtain ⟨c1, hy⟩ := hy
      obtain ⟨c2, hy⟩ := hy
      refine a_ialdR' dX5_alikeAhead_15 sk_14 (inb_ne c2) c1 (rfl) ?_
      refine a_aload_n dX5_alikeAhead_16 rfl ?_
      refine a_iload_n dX5_alikeAhead_17 rfl ?_
      obtain ⟨c3, hy⟩ := hy
      refine a_ialdR' dX5_alikeAhead_18 sk_14 (inb_ne c3) c1 (rfl) ?_
      refine a_icmp_ne (tgt := 28) dX5_alikeAhead_19 (by decide) (fun c => ?_) (fun c => ?_)
      · have hy := hy.1 c
        refine a_iload_n dX5_alikeAhead_28 rfl ?_
        exact a_iret dX5_alikeAhead_29 rfl hy
      · have hy := hy.2 (Decidable.not_not.mp c)
        obtain ⟨c4, hy⟩ := hy
        refine a_iinc (y := v3 + 1) (ls2 := [some (vR 14 r0), some (vR 14 r1), some (vI p2), some (vI (v3 + 1))]) dX5_alikeAhead_22 rfl rfl c4 rfl ?_
        refine a_goto (tgt := 2) dX5_alikeAhead_25 (by decide) ?_
        exact hy
theorem c_Steps_alikeAhead {d : Nat} (d0 : Nat) (hd : d0 < d) {r0 : Int} {r1 : Int} {p2 : Int} {h : AH} {Q : Int → AH → Prop} (hy : A_Steps_alikeAhead_2 d0 Q r0 r1 p2 0 h) : Call d M_Steps_alikeAhead [vR 14 r0, vR 14 r1, vI p2] h Q := by
  refine ⟨d0, hd, Big.of rfl (Nat.le_of_ble_eq_true rfl) ?_⟩
  show AW d0 M_Steps_alikeAhead Q 0 [some (vR 14 r0), some (vR 14 r1), some (vI p2), none] [] h
  refine a_iconst (x := 0) dX5_alikeAhead_0 rfl ⟨by decide, by decide⟩ ?_
  refine a_istore_n (i := 3) (ls2 := [some (vR 14 r0), some (vR 14 r1), some (vI p2), some (vI 0)]) dX5_alikeAhead_1 rfl (Nat.le_of_ble_eq_true rfl) rfl ?_
  exact hy
def A_Steps_alikeBehind_29 (d : Nat) (Q : Int → AH → Prop) (p1 : Int) (p2 : Int) (p3 : Int) (v4 : Int) (v5 : Int) (v6 : Int) (h : AH) : Prop := AW d M_Steps_alikeBehind Q 29 [some (vR 6 (-1)), some (vI p1), some (vI p2), some (vI p3), some (vI v4), some (vI v5), some (vI v6)] [] h
theorem s_Steps_alikeBehind_29 {d : Nat} {Q : Int → AH → Prop} {p1 : Int} {p2 : Int} {p3 : Int} {v4 : Int} {v5 : Int} {v6 : Int} {h : AH} (hy : ((p3 ≤ v6 → Q v6 h) ∧ (v6 < p3 → ((v4 < v6 → Q v6 h) ∧ (v6 ≤ v4 → ((v5 < v6 → Q v6 h) ∧ (v6 ≤ v5 → (inb p1 40 ∧ (inI (v4 - v6) ∧ (inb (v4 - v6) 8 ∧ (inb p2 40 ∧ (inI (v5 - v6) ∧ (inb (v5 - v6) 8 ∧ (((h.2.2 14 p1 (v4 - v6)) ≠ (h.2.2 14 p2 (v5 - v6)) → Q v6 h) ∧ ((h.2.2 14 p1 (v4 - v6)) = (h.2.2 14 p2 (v5 - v6)) → (inI (v6 + 1) ∧ A_Steps_alikeBehind_29 d Q p1 p2 p3 v4 v5 (v6 + 1) h)))))))))))))))) : A_Steps_alikeBehind_29 d Q p1 p2 p3 v4 v5 v6 h := by
  show AW d M_Steps_alikeBehind Q 29 [some (vR 6 (-1)), some (vI p1), some (vI p2), some (vI p3), some (vI v4), some (vI v5), some (vI v6)] [] h
  refine a_iload dX5_alikeBehind_29 rfl ?_
  refine a_iload_n dX5_alikeBehind_31 rfl ?_
  refine a_icmp_ge (tgt := 88) dX5_alikeBehind_32 (by decide) (fun c => ?_) (fun c => ?_)
  · have hy := hy.1 c
    refine a_iload dX5_alikeBehind_88 rfl ?_
    exact a_iret dX5_alikeBehind_90 rfl hy
  · have hy := hy.2 (Int.not_le.mp c)
    refine a_iload dX5_alikeBehind_35 rfl ?_
    refine a_iload dX5_alikeBehind_37 rfl ?_
    refine a_icmp_gt (tgt := 88) dX5_alikeBehind_39 (by decide) (fun c => ?_) (fun c => ?_)
    · have hy := hy.1 c
      refine a_iload dX5_alikeBehind_88 rfl ?_
      exact a_iret dX5_alikeBehind_90 rfl hy
    · have hy := hy.2 (Int.not_lt.mp c)
      refine a_iload dX5_alikeBehind_42 rfl ?_
      refine a_iload dX5_alikeBehind_44 rfl ?_
      refine a_icmp_gt (tgt := 88) dX5_alikeBehind_46 (by decide) (fun c => ?_) (fun c => ?_)
      · have hy := hy.1 c
        refine a_iload dX5_alikeBehind_88 rfl ?_
        exact a_iret dX5_alikeBehind_90 rfl hy
      · have hy := hy.2 (Int.not_lt.mp c)
        refine a_aload_n dX5_alikeBehind_49 rfl ?_
        refine a_getR dX5_alikeBehind_50 fl_Steps_39 sk_6 rfl ?_
        refine a_getR dX5_alikeBehind_53 fl_Steps_67 sk_2 rfl ?_
        refine a_iload_n dX5_alikeBehind_56 rfl ?_
        obtain ⟨c1, hy⟩ := hy
        refine a_aald dX5_alikeBehind_57 sk_14 c1 ?_
        refine a_iload dX5_alikeBehind_58 rfl ?_
        refine a_iload dX5_alikeBehind_60 rfl ?_
        obtain ⟨c2, hy⟩ := hy
        refine a_isub dX5_alikeBehind_62 c2 ?_
        obtain ⟨c3, hy⟩ := hy
        refine a_ialdR' dX5_alikeBehind_63 sk_14 (inb_ne c1) c3 (rfl) ?_
        refine a_aload_n dX5_alikeBehind_64 rfl ?_
        refine a_getR dX5_alikeBehind_65 fl_Steps_39 sk_6 rfl ?_
        refine a_getR dX5_alikeBehind_68 fl_Steps_67 sk_2 rfl ?_
        refine a_iload_n dX5_alikeBehind_71 rfl ?_
        obtain ⟨c4, hy⟩ := hy
        refine a_aald dX5_alikeBehind_72 sk_14 c4 ?_
        refine a_iload dX5_alikeBehind_73 rfl ?_
        refine a_iload dX5_alikeBehind_75 rfl ?_
        obtain ⟨c5, hy⟩ := hy
        refine a_isub dX5_alikeBehind_77 c5 ?_
        obtain ⟨c6, hy⟩ := hy
        refine a_ialdR' dX5_alikeBehind_78 sk_14 (inb_ne c4) c6 (rfl) ?_
        refine a_icmp_ne (tgt := 88) dX5_alikeBehind_79 (by decide) (fun c => ?_) (fun c => ?_)
        · have hy := hy.1 c
          refine a_iload dX5_alikeBehind_88 rfl ?_
          exact a_iret dX5_alikeBehind_90 rfl hy
        · have hy := hy.2 (Decidable.not_not.mp c)
          obtain ⟨c7, hy⟩ := hy
          refine a_iinc (y := v6 + 1) (ls2 := [some (vR 6 (-1)), some (vI p1), some (vI p2), some (vI p3), some (vI v4), some (vI v5), some (vI (v6 + 1))]) dX5_alikeBehind_82 rfl rfl c7 rfl ?_
          refine a_goto (tgt := 29) dX5_alikeBehind_85 (by decide) ?_
          exact hy
theorem c_Steps_alikeBehind {d : Nat} (d0 : Nat) (hd : d0 < d) {p1 : Int} {p2 : Int} {p3 : Int} {h : AH} {Q : Int → AH → Prop} (hy : inb p1 40 ∧ (inI ((h.1 15 p1) - 1) ∧ (inb p2 40 ∧ (inI ((h.1 15 p2) - 1) ∧ A_Steps_alikeBehind_29 d0 Q p1 p2 p3 ((h.1 15 p1) - 1) ((h.1 15 p2) - 1) 0 h)))) : Call d M_Steps_alikeBehind [vR 6 (-1), vI p1, vI p2, vI p3] h Q := by
  refine ⟨d0, hd, Big.of rfl (Nat.le_of_ble_eq_true rfl) ?_⟩
  show AW d0 M_Steps_alikeBehind Q 0 [some (vR 6 (-1)), some (vI p1), some (vI p2), some (vI p3), none, none, none] [] h
  refine a_aload_n dX5_alikeBehind_0 rfl ?_
  refine a_getR dX5_alikeBehind_1 fl_Steps_39 sk_6 rfl ?_
  refine a_getR dX5_alikeBehind_4 fl_Steps_56 sk_2 rfl ?_
  refine a_iload_n dX5_alikeBehind_7 rfl ?_
  obtain ⟨c1, hy⟩ := hy
  refine a_iald' dX5_alikeBehind_8 sk_15 c1 (rfl) ?_
  refine a_iconst (x := 1) dX5_alikeBehind_9 rfl ⟨by decide, by decide⟩ ?_
  obtain ⟨c2, hy⟩ := hy
  refine a_isub dX5_alikeBehind_10 c2 ?_
  refine a_istore (ls2 := [some (vR 6 (-1)), some (vI p1), some (vI p2), some (vI p3), some (vI ((h.1 15 p1) - 1)), none, none]) dX5_alikeBehind_11 (Nat.le_of_ble_eq_true rfl) rfl ?_
  refine a_aload_n dX5_alikeBehind_13 rfl ?_
  refine a_getR dX5_alikeBehind_14 fl_Steps_39 sk_6 rfl ?_
  refine a_getR dX5_alikeBehind_17 fl_Steps_56 sk_2 rfl ?_
  refine a_iload_n dX5_alikeBehind_20 rfl ?_
  obtain ⟨c3, hy⟩ := hy
  refine a_iald' dX5_alikeBehind_21 sk_15 c3 (rfl) ?_
  refine a_iconst (x := 1) dX5_alikeBehind_22 rfl ⟨by decide, by decide⟩ ?_
  obtain ⟨c4, hy⟩ := hy
  refine a_isub dX5_alikeBehind_23 c4 ?_
  refine a_istore (ls2 := [some (vR 6 (-1)), some (vI p1), some (vI p2), some (vI p3), some (vI ((h.1 15 p1) - 1)), some (vI ((h.1 15 p2) - 1)), none]) dX5_alikeBehind_24 (Nat.le_of_ble_eq_true rfl) rfl ?_
  refine a_iconst (x := 0) dX5_alikeBehind_26 rfl ⟨by decide, by decide⟩ ?_
  refine a_istore (ls2 := [some (vR 6 (-1)), some (vI p1), some (vI p2), some (vI p3), some (vI ((h.1 15 p1) - 1)), some (vI ((h.1 15 p2) - 1)), some (vI 0)]) dX5_alikeBehind_27 (Nat.le_of_ble_eq_true rfl) rfl ?_
  exact hy
theorem c_Steps_costOf {d : Nat} (d0 : Nat) (hd : d0 < d) {p1 : Int} {p2 : Int} {h : AH} {Q : Int → AH → Prop} (hy : Call d0 M_Words_has [vR 2 (-1), vI p1] h (fun r2 h1 => ((r2 = 0 → Q 0 h1) ∧ (r2 ≠ 0 → (Call d0 M_Words_has [vR 2 (-1), vI p2] h1 (fun r4 h3 => ((r4 = 0 → Q 0 h3) ∧ (r4 ≠ 0 → (inb p1 40 ∧ (inb p2 40 ∧ Q (h3.2.2 33 p1 p2) h3)))))))))) : Call d M_Steps_costOf [vR 6 (-1), vI p1, vI p2] h Q := by
  refine ⟨d0, hd, Big.of rfl (Nat.le_of_ble_eq_true rfl) ?_⟩
  show AW d0 M_Steps_costOf Q 0 [some (vR 6 (-1)), some (vI p1), some (vI p2)] [] h
  refine a_aload_n dX5_costOf_0 rfl ?_
  refine a_getR dX5_costOf_1 fl_Steps_39 sk_6 rfl ?_
  refine a_iload_n dX5_costOf_4 rfl ?_
  refine a_callVi (as := [vI p1]) (st := []) dX5_costOf_5 lk_Steps_118 sk_2 rfl rfl (Nat.le_of_ble_eq_true rfl) (Or.inr rfl) (Call.mono hy (fun r2 h1 _ hy => ?_))
  refine a_if_eq (tgt := 33) dX5_costOf_8 (by decide) (fun c => ?_) (fun c => ?_)
  · have hy := hy.1 c
    refine a_iconst (x := 0) dX5_costOf_33 rfl ⟨by decide, by decide⟩ ?_
    exact a_iret dX5_costOf_34 rfl hy
  · have hy := hy.2 (c)
    refine a_aload_n dX5_costOf_11 rfl ?_
    refine a_getR dX5_costOf_12 fl_Steps_39 sk_6 rfl ?_
    refine a_iload_n dX5_costOf_15 rfl ?_
    refine a_callVi (as := [vI p2]) (st := []) dX5_costOf_16 lk_Steps_118 sk_2 rfl rfl (Nat.le_of_ble_eq_true rfl) (Or.inr rfl) (Call.mono hy (fun r4 h3 _ hy => ?_))
    refine a_if_eq (tgt := 33) dX5_costOf_19 (by decide) (fun c => ?_) (fun c => ?_)
    · have hy := hy.1 c
      refine a_iconst (x := 0) dX5_costOf_33 rfl ⟨by decide, by decide⟩ ?_
      exact a_iret dX5_costOf_34 rfl hy
    · have hy := hy.2 (c)
      refine a_aload_n dX5_costOf_22 rfl ?_
      refine a_getR dX5_costOf_23 fl_Steps_22 sk_6 rfl ?_
      refine a_iload_n dX5_costOf_26 rfl ?_
      obtain ⟨c5, hy⟩ := hy
      refine a_aald dX5_costOf_27 sk_33 c5 ?_
      refine a_iload_n dX5_costOf_28 rfl ?_
      obtain ⟨c6, hy⟩ := hy
      refine a_ialdR' dX5_costOf_29 sk_33 (inb_ne c5) c6 (rfl) ?_
      refine a_goto (tgt := 34) dX5_costOf_30 (by decide) ?_
      exact a_iret dX5_costOf_34 rfl hy
def A_Steps_findChange_52 (d : Nat) (Q : Int → AH → Prop) (p1 : Int) (p2 : Int) (v3 : Int) (h : AH) : Prop := AW d M_Steps_findChange Q 52 [some (vR 6 (-1)), some (vI p1), some (vI p2), some (vI v3)] [] h
theorem s_Steps_findChange_52 {d : Nat} {Q : Int → AH → Prop} {p1 : Int} {p2 : Int} {v3 : Int} {h : AH} (hy : Call d M_Steps_findChangeOfLength [vR 6 (-1), vI p1, vI p2, vI v3] h (fun _ h1 => Q 0 h1)) : A_Steps_findChange_52 d Q p1 p2 v3 h := by
  show AW d M_Steps_findChange Q 52 [some (vR 6 (-1)), some (vI p1), some (vI p2), some (vI v3)] [] h
  refine a_aload_n dX5_findChange_52 rfl ?_
  refine a_iload_n dX5_findChange_53 rfl ?_
  refine a_iload_n dX5_findChange_54 rfl ?_
  refine a_iload_n dX5_findChange_55 rfl ?_
  refine a_callVv (as := [vI p1, vI p2, vI v3]) (st := []) dX5_findChange_56 lk_Steps_63 sk_6 rfl rfl (Nat.le_of_ble_eq_true rfl) rfl (Call.mono hy (fun _ h1 _ hy => ?_))
  exact a_vret dX5_findChange_59 rfl hy
theorem c_Steps_findChange {d : Nat} (d0 : Nat) (hd : d0 < d) {p1 : Int} {p2 : Int} {h : AH} {Q : Int → AH → Prop} (hy : inb p1 40 ∧ (inb p2 40 ∧ (inI ((h.1 15 p2) - (h.1 15 p1)) ∧ ((((h.1 15 p2) - (h.1 15 p1)) ≠ 0 → ((((h.1 15 p2) - (h.1 15 p1)) = 1 → A_Steps_findChange_52 d0 Q p1 p2 ((h.1 15 p2) - (h.1 15 p1)) (wR h 30 p1 p2 (-1))) ∧ (((h.1 15 p2) - (h.1 15 p1)) ≠ 1 → ((((h.1 15 p2) - (h.1 15 p1)) ≠ (-1) → Q 0 (wR h 30 p1 p2 (-1))) ∧ (((h.1 15 p2) - (h.1 15 p1)) = (-1) → A_Steps_findChange_52 d0 Q p1 p2 ((h.1 15 p2) - (h.1 15 p1)) (wR h 30 p1 p2 (-1))))))) ∧ (((h.1 15 p2) - (h.1 15 p1)) = 0 → (Call d0 M_Steps_findChangeOfLike [vR 6 (-1), vI p1, vI p2] (wR h 30 p1 p2 (-1)) (fun _ h4 => Q 0 h4))))))) : Call d M_Steps_findChange [vR 6 (-1), vI p1, vI p2] h Q := by
  refine ⟨d0, hd, Big.of rfl (Nat.le_of_ble_eq_true rfl) ?_⟩
  show AW d0 M_Steps_findChange Q 0 [some (vR 6 (-1)), some (vI p1), some (vI p2), none] [] h
  refine a_aload_n dX5_findChange_0 rfl ?_
  refine a_getR dX5_findChange_1 fl_Steps_11 sk_6 rfl ?_
  refine a_iload_n dX5_findChange_4 rfl ?_
  obtain ⟨c1, hy⟩ := hy
  refine a_aald dX5_findChange_5 sk_30 c1 ?_
  refine a_iload_n dX5_findChange_6 rfl ?_
  refine a_iconst (x := (-1)) dX5_findChange_7 rfl ⟨by decide, by decide⟩ ?_
  obtain ⟨c2, hy⟩ := hy
  refine a_iastR dX5_findChange_8 sk_30 (inb_ne c1) c2 ?_
  refine a_aload_n dX5_findChange_9 rfl ?_
  refine a_getR dX5_findChange_10 fl_Steps_39 sk_6 rfl ?_
  refine a_getR dX5_findChange_13 fl_Steps_56 sk_2 rfl ?_
  refine a_iload_n dX5_findChange_16 rfl ?_
  refine a_iald' dX5_findChange_17 sk_15 c2 (rfl) ?_
  refine a_aload_n dX5_findChange_18 rfl ?_
  refine a_getR dX5_findChange_19 fl_Steps_39 sk_6 rfl ?_
  refine a_getR dX5_findChange_22 fl_Steps_56 sk_2 rfl ?_
  refine a_iload_n dX5_findChange_25 rfl ?_
  refine a_iald' dX5_findChange_26 sk_15 c1 (rfl) ?_
  obtain ⟨c3, hy⟩ := hy
  refine a_isub dX5_findChange_27 c3 ?_
  refine a_istore_n (i := 3) (ls2 := [some (vR 6 (-1)), some (vI p1), some (vI p2), some (vI ((h.1 15 p2) - (h.1 15 p1)))]) dX5_findChange_28 rfl (Nat.le_of_ble_eq_true rfl) rfl ?_
  refine a_iload_n dX5_findChange_29 rfl ?_
  refine a_if_ne (tgt := 42) dX5_findChange_30 (by decide) (fun c => ?_) (fun c => ?_)
  · have hy := hy.1 c
    refine a_iload_n dX5_findChange_42 rfl ?_
    refine a_iconst (x := 1) dX5_findChange_43 rfl ⟨by decide, by decide⟩ ?_
    refine a_icmp_eq (tgt := 52) dX5_findChange_44 (by decide) (fun c => ?_) (fun c => ?_)
    · have hy := hy.1 c
      exact hy
    · have hy := hy.2 (c)
      refine a_iload_n dX5_findChange_47 rfl ?_
      refine a_iconst (x := (-1)) dX5_findChange_48 rfl ⟨by decide, by decide⟩ ?_
      refine a_icmp_ne (tgt := 59) dX5_findChange_49 (by decide) (fun c => ?_) (fun c => ?_)
      · have hy := hy.1 c
        exact a_vret dX5_findChange_59 rfl hy
      · have hy := hy.2 (Decidable.not_not.mp c)
        exact hy
  · have hy := hy.2 (Decidable.not_not.mp c)
    refine a_aload_n dX5_findChange_33 rfl ?_
    refine a_iload_n dX5_findChange_34 rfl ?_
    refine a_iload_n dX5_findChange_35 rfl ?_
    refine a_callVv (as := [vI p1, vI p2]) (st := []) dX5_findChange_36 lk_Steps_60 sk_6 rfl rfl (Nat.le_of_ble_eq_true rfl) rfl (Call.mono hy (fun _ h4 _ hy => ?_))
    refine a_goto (tgt := 59) dX5_findChange_39 (by decide) ?_
    exact a_vret dX5_findChange_59 rfl hy
theorem c_Steps_findChangeOfLength {d : Nat} (d0 : Nat) (hd : d0 < d) {p1 : Int} {p2 : Int} {p3 : Int} {h : AH} {Q : Int → AH → Prop} (hy : inb p1 40 ∧ (inb p2 40 ∧ (1 ≤ d0 ∧ (Call d0 M_Steps_alikeAhead [vR 14 p1, vR 14 p2, vI (min (h.1 15 p1) (h.1 15 p2))] h (fun r5 h4 => Call d0 M_Steps_alikeBehind [vR 6 (-1), vI p1, vI p2, vI (min (h.1 15 p1) (h.1 15 p2))] h4 (fun r7 h6 => inI ((min (h.1 15 p1) (h.1 15 p2)) - r7) ∧ ((r5 < ((min (h.1 15 p1) (h.1 15 p2)) - r7) → Q 0 h6) ∧ (((min (h.1 15 p1) (h.1 15 p2)) - r7) ≤ r5 → (Call d0 M_Steps_setChange [vR 6 (-1), vI p1, vI p2, vI (if p3 = 1 then (1 : Int) else 2), vI ((min (h.1 15 p1) (h.1 15 p2)) - r7), vI r5] h6 (fun _ h9 => Q 0 h9)))))))))) : Call d M_Steps_findChangeOfLength [vR 6 (-1), vI p1, vI p2, vI p3] h Q := by
  refine ⟨d0, hd, Big.of rfl (Nat.le_of_ble_eq_true rfl) ?_⟩
  show AW d0 M_Steps_findChangeOfLength Q 0 [some (vR 6 (-1)), some (vI p1), some (vI p2), some (vI p3), none, none, none] [] h
  refine a_aload_n dX5_findChangeOfLength_0 rfl ?_
  refine a_getR dX5_findChangeOfLength_1 fl_Steps_39 sk_6 rfl ?_
  refine a_getR dX5_findChangeOfLength_4 fl_Steps_56 sk_2 rfl ?_
  refine a_iload_n dX5_findChangeOfLength_7 rfl ?_
  obtain ⟨c1, hy⟩ := hy
  refine a_iald' dX5_findChangeOfLength_8 sk_15 c1 (rfl) ?_
  refine a_aload_n dX5_findChangeOfLength_9 rfl ?_
  refine a_getR dX5_findChangeOfLength_10 fl_Steps_39 sk_6 rfl ?_
  refine a_getR dX5_findChangeOfLength_13 fl_Steps_56 sk_2 rfl ?_
  refine a_iload_n dX5_findChangeOfLength_16 rfl ?_
  obtain ⟨c2, hy⟩ := hy
  refine a_iald' dX5_findChangeOfLength_17 sk_15 c2 (rfl) ?_
  obtain ⟨c3, hy⟩ := hy
  refine a_mmin' dX5_findChangeOfLength_18 ml_Steps_82 c3 (Nat.le_of_ble_eq_true rfl) ?_
  refine a_istore (ls2 := [some (vR 6 (-1)), some (vI p1), some (vI p2), some (vI p3), some (vI (min (h.1 15 p1) (h.1 15 p2))), none, none]) dX5_findChangeOfLength_21 (Nat.le_of_ble_eq_true rfl) rfl ?_
  refine a_aload_n dX5_findChangeOfLength_23 rfl ?_
  refine a_getR dX5_findChangeOfLength_24 fl_Steps_39 sk_6 rfl ?_
  refine a_getR dX5_findChangeOfLength_27 fl_Steps_67 sk_2 rfl ?_
  refine a_iload_n dX5_findChangeOfLength_30 rfl ?_
  refine a_aald dX5_findChangeOfLength_31 sk_14 c1 ?_
  refine a_aload_n dX5_findChangeOfLength_32 rfl ?_
  refine a_getR dX5_findChangeOfLength_33 fl_Steps_39 sk_6 rfl ?_
  refine a_getR dX5_findChangeOfLength_36 fl_Steps_67 sk_2 rfl ?_
  refine a_iload_n dX5_findChangeOfLength_39 rfl ?_
  refine a_aald dX5_findChangeOfLength_40 sk_14 c2 ?_
  refine a_iload dX5_findChangeOfLength_41 rfl ?_
  refine a_callSi (as := [vR 14 p1, vR 14 p2, vI (min (h.1 15 p1) (h.1 15 p2))]) (st := []) dX5_findChangeOfLength_43 lk_Steps_70 rfl rfl (Nat.le_of_ble_eq_true rfl) (Or.inl rfl) (Call.mono hy (fun r5 h4 _ hy => ?_))
  refine a_istore (ls2 := [some (vR 6 (-1)), some (vI p1), some (vI p2), some (vI p3), some (vI (min (h.1 15 p1) (h.1 15 p2))), some (vI r5), none]) dX5_findChangeOfLength_46 (Nat.le_of_ble_eq_true rfl) rfl ?_
  refine a_iload dX5_findChangeOfLength_48 rfl ?_
  refine a_aload_n dX5_findChangeOfLength_50 rfl ?_
  refine a_iload_n dX5_findChangeOfLength_51 rfl ?_
  refine a_iload_n dX5_findChangeOfLength_52 rfl ?_
  refine a_iload dX5_findChangeOfLength_53 rfl ?_
  refine a_callVi (as := [vI p1, vI p2, vI (min (h.1 15 p1) (h.1 15 p2))]) (st := [vI (min (h.1 15 p1) (h.1 15 p2))]) dX5_findChangeOfLength_55 lk_Steps_74 sk_6 rfl rfl (Nat.le_of_ble_eq_true rfl) (Or.inl rfl) (Call.mono hy (fun r7 h6 _ hy => ?_))
  obtain ⟨c8, hy⟩ := hy
  refine a_isub dX5_findChangeOfLength_58 c8 ?_
  refine a_istore (ls2 := [some (vR 6 (-1)), some (vI p1), some (vI p2), some (vI p3), some (vI (min (h.1 15 p1) (h.1 15 p2))), some (vI r5), some (vI ((min (h.1 15 p1) (h.1 15 p2)) - r7))]) dX5_findChangeOfLength_59 (Nat.le_of_ble_eq_true rfl) rfl ?_
  refine a_iload dX5_findChangeOfLength_61 rfl ?_
  refine a_iload dX5_findChangeOfLength_63 rfl ?_
  refine a_icmp_gt (tgt := 88) dX5_findChangeOfLength_65 (by decide) (fun c => ?_) (fun c => ?_)
  · have hy := hy.1 c
    exact a_vret dX5_findChangeOfLength_88 rfl hy
  · have hy := hy.2 (Int.not_lt.mp c)
    refine a_aload_n dX5_findChangeOfLength_68 rfl ?_
    refine a_iload_n dX5_findChangeOfLength_69 rfl ?_
    refine a_iload_n dX5_findChangeOfLength_70 rfl ?_
    refine a_iload_n dX5_findChangeOfLength_71 rfl ?_
    refine a_iconst (x := 1) dX5_findChangeOfLength_72 rfl ⟨by decide, by decide⟩ ?_
    have J : AW d0 M_Steps_findChangeOfLength Q 81 [some (vR 6 (-1)), some (vI p1), some (vI p2), some (vI p3), some (vI (min (h.1 15 p1) (h.1 15 p2))), some (vI r5), some (vI ((min (h.1 15 p1) (h.1 15 p2)) - r7))] [vI (if p3 = 1 then (1 : Int) else 2), vI p2, vI p1, vR 6 (-1)] h6 := by
      refine a_iload dX5_findChangeOfLength_81 rfl ?_
      refine a_iload dX5_findChangeOfLength_83 rfl ?_
      refine a_callVv (as := [vI p1, vI p2, vI (if p3 = 1 then (1 : Int) else 2), vI ((min (h.1 15 p1) (h.1 15 p2)) - r7), vI r5]) (st := []) dX5_findChangeOfLength_85 lk_Steps_78 sk_6 rfl rfl (Nat.le_of_ble_eq_true rfl) rfl (Call.mono hy (fun _ h9 _ hy => ?_))
      exact a_vret dX5_findChangeOfLength_88 rfl hy
    refine a_icmp_ne (tgt := 80) dX5_findChangeOfLength_73 (by decide) (fun e10 => ?_) (fun e10 => ?_)
    · refine a_iconst (x := 2) dX5_findChangeOfLength_80 rfl ⟨by decide, by decide⟩ ?_
      exact a_cast (by first | rfl | simp only [if_neg e10]) (by first | rfl | simp only [if_neg e10]) J
    · refine a_iconst (x := 1) dX5_findChangeOfLength_76 rfl ⟨by decide, by decide⟩ ?_
      refine a_goto (tgt := 81) dX5_findChangeOfLength_77 (by decide) ?_
      exact a_cast (by first | rfl | simp only [if_pos (Decidable.not_not.mp e10)]) (by first | rfl | simp only [if_pos (Decidable.not_not.mp e10)]) J
theorem c_Steps_findChangeOfLike {d : Nat} (d0 : Nat) (hd : d0 < d) {p1 : Int} {p2 : Int} {h : AH} {Q : Int → AH → Prop} (hy : inb p1 40 ∧ (inb p2 40 ∧ (Call d0 M_Steps_alikeAhead [vR 14 p1, vR 14 p2, vI (h.1 15 p1)] h (fun r4 h3 => inI ((h.1 15 p1) - 1) ∧ (Call d0 M_Steps_alikeBehind [vR 6 (-1), vI p1, vI p2, vI (h.1 15 p1)] h3 (fun r7 h6 => inI (((h.1 15 p1) - 1) - r7) ∧ ((r4 ≠ (((h.1 15 p1) - 1) - r7) → (inI (r4 + 1) ∧ (((r4 + 1) ≠ (((h.1 15 p1) - 1) - r7) → Q 0 h6) ∧ ((r4 + 1) = (((h.1 15 p1) - 1) - r7) → (inb r4 8 ∧ (inb (((h.1 15 p1) - 1) - r7) 8 ∧ (((h6.2.2 14 p1 r4) ≠ (h6.2.2 14 p2 (((h.1 15 p1) - 1) - r7)) → Q 0 h6) ∧ ((h6.2.2 14 p1 r4) = (h6.2.2 14 p2 (((h.1 15 p1) - 1) - r7)) → (((h6.2.2 14 p1 (((h.1 15 p1) - 1) - r7)) ≠ (h6.2.2 14 p2 r4) → Q 0 h6) ∧ ((h6.2.2 14 p1 (((h.1 15 p1) - 1) - r7)) = (h6.2.2 14 p2 r4) → (Call d0 M_Steps_setChange [vR 6 (-1), vI p1, vI p2, vI 3, vI r4, vI r4] h6 (fun _ h12 => Q 0 h12)))))))))))) ∧ (r4 = (((h.1 15 p1) - 1) - r7) → (Call d0 M_Steps_setChange [vR 6 (-1), vI p1, vI p2, vI 0, vI r4, vI r4] h6 (fun _ h13 => Q 0 h13)))))))))) : Call d M_Steps_findChangeOfLike [vR 6 (-1), vI p1, vI p2] h Q := by
  refine ⟨d0, hd, Big.of rfl (Nat.le_of_ble_eq_true rfl) ?_⟩
  show AW d0 M_Steps_findChangeOfLike Q 0 [some (vR 6 (-1)), some (vI p1), some (vI p2), none, none, none, none, none] [] h
  refine a_aload_n dX5_findChangeOfLike_0 rfl ?_
  refine a_getR dX5_findChangeOfLike_1 fl_Steps_39 sk_6 rfl ?_
  refine a_getR dX5_findChangeOfLike_4 fl_Steps_67 sk_2 rfl ?_
  refine a_iload_n dX5_findChangeOfLike_7 rfl ?_
  obtain ⟨c1, hy⟩ := hy
  refine a_aald dX5_findChangeOfLike_8 sk_14 c1 ?_
  refine a_astore_n (i := 3) (ls2 := [some (vR 6 (-1)), some (vI p1), some (vI p2), some (vR 14 p1), none, none, none, none]) dX5_findChangeOfLike_9 rfl (Nat.le_of_ble_eq_true rfl) rfl ?_
  refine a_aload_n dX5_findChangeOfLike_10 rfl ?_
  refine a_getR dX5_findChangeOfLike_11 fl_Steps_39 sk_6 rfl ?_
  refine a_getR dX5_findChangeOfLike_14 fl_Steps_67 sk_2 rfl ?_
  refine a_iload_n dX5_findChangeOfLike_17 rfl ?_
  obtain ⟨c2, hy⟩ := hy
  refine a_aald dX5_findChangeOfLike_18 sk_14 c2 ?_
  refine a_astore (ls2 := [some (vR 6 (-1)), some (vI p1), some (vI p2), some (vR 14 p1), some (vR 14 p2), none, none, none]) dX5_findChangeOfLike_19 (Nat.le_of_ble_eq_true rfl) rfl ?_
  refine a_aload_n dX5_findChangeOfLike_21 rfl ?_
  refine a_getR dX5_findChangeOfLike_22 fl_Steps_39 sk_6 rfl ?_
  refine a_getR dX5_findChangeOfLike_25 fl_Steps_56 sk_2 rfl ?_
  refine a_iload_n dX5_findChangeOfLike_28 rfl ?_
  refine a_iald' dX5_findChangeOfLike_29 sk_15 c1 (rfl) ?_
  refine a_istore (ls2 := [some (vR 6 (-1)), some (vI p1), some (vI p2), some (vR 14 p1), some (vR 14 p2), some (vI (h.1 15 p1)), none, none]) dX5_findChangeOfLike_30 (Nat.le_of_ble_eq_true rfl) rfl ?_
  refine a_aload_n dX5_findChangeOfLike_32 rfl ?_
  refine a_aload dX5_findChangeOfLike_33 rfl ?_
  refine a_iload dX5_findChangeOfLike_35 rfl ?_
  refine a_callSi (as := [vR 14 p1, vR 14 p2, vI (h.1 15 p1)]) (st := []) dX5_findChangeOfLike_37 lk_Steps_70 rfl rfl (Nat.le_of_ble_eq_true rfl) (Or.inl rfl) (Call.mono hy (fun r4 h3 _ hy => ?_))
  refine a_istore (ls2 := [some (vR 6 (-1)), some (vI p1), some (vI p2), some (vR 14 p1), some (vR 14 p2), some (vI (h.1 15 p1)), some (vI r4), none]) dX5_findChangeOfLike_40 (Nat.le_of_ble_eq_true rfl) rfl ?_
  refine a_iload dX5_findChangeOfLike_42 rfl ?_
  refine a_iconst (x := 1) dX5_findChangeOfLike_44 rfl ⟨by decide, by decide⟩ ?_
  obtain ⟨c5, hy⟩ := hy
  refine a_isub dX5_findChangeOfLike_45 c5 ?_
  refine a_aload_n dX5_findChangeOfLike_46 rfl ?_
  refine a_iload_n dX5_findChangeOfLike_47 rfl ?_
  refine a_iload_n dX5_findChangeOfLike_48 rfl ?_
  refine a_iload dX5_findChangeOfLike_49 rfl ?_
  refine a_callVi (as := [vI p1, vI p2, vI (h.1 15 p1)]) (st := [vI ((h.1 15 p1) - 1)]) dX5_findChangeOfLike_51 lk_Steps_74 sk_6 rfl rfl (Nat.le_of_ble_eq_true rfl) (Or.inl rfl) (Call.mono hy (fun r7 h6 _ hy => ?_))
  obtain ⟨c8, hy⟩ := hy
  refine a_isub dX5_findChangeOfLike_54 c8 ?_
  refine a_istore (ls2 := [some (vR 6 (-1)), some (vI p1), some (vI p2), some (vR 14 p1), some (vR 14 p2), some (vI (h.1 15 p1)), some (vI r4), some (vI (((h.1 15 p1) - 1) - r7))]) dX5_findChangeOfLike_55 (Nat.le_of_ble_eq_true rfl) rfl ?_
  refine a_iload dX5_findChangeOfLike_57 rfl ?_
  refine a_iload dX5_findChangeOfLike_59 rfl ?_
  refine a_icmp_ne (tgt := 78) dX5_findChangeOfLike_61 (by decide) (fun c => ?_) (fun c => ?_)
  · have hy := hy.1 c
    refine a_iload dX5_findChangeOfLike_78 rfl ?_
    refine a_iconst (x := 1) dX5_findChangeOfLike_80 rfl ⟨by decide, by decide⟩ ?_
    obtain ⟨c9, hy⟩ := hy
    refine a_iadd dX5_findChangeOfLike_81 c9 ?_
    refine a_iload dX5_findChangeOfLike_82 rfl ?_
    refine a_icmp_ne (tgt := 122) dX5_findChangeOfLike_84 (by decide) (fun c => ?_) (fun c => ?_)
    · have hy := hy.1 c
      exact a_vret dX5_findChangeOfLike_122 rfl hy
    · have hy := hy.2 (Decidable.not_not.mp c)
      refine a_aload_n dX5_findChangeOfLike_87 rfl ?_
      refine a_iload dX5_findChangeOfLike_88 rfl ?_
      obtain ⟨c10, hy⟩ := hy
      refine a_ialdR' dX5_findChangeOfLike_90 sk_14 (inb_ne c1) c10 (rfl) ?_
      refine a_aload dX5_findChangeOfLike_91 rfl ?_
      refine a_iload dX5_findChangeOfLike_93 rfl ?_
      obtain ⟨c11, hy⟩ := hy
      refine a_ialdR' dX5_findChangeOfLike_95 sk_14 (inb_ne c2) c11 (rfl) ?_
      refine a_icmp_ne (tgt := 122) dX5_findChangeOfLike_96 (by decide) (fun c => ?_) (fun c => ?_)
      · have hy := hy.1 c
        exact a_vret dX5_findChangeOfLike_122 rfl hy
      · have hy := hy.2 (Decidable.not_not.mp c)
        refine a_aload_n dX5_findChangeOfLike_99 rfl ?_
        refine a_iload dX5_findChangeOfLike_100 rfl ?_
        refine a_ialdR' dX5_findChangeOfLike_102 sk_14 (inb_ne c1) c11 (rfl) ?_
        refine a_aload dX5_findChangeOfLike_103 rfl ?_
        refine a_iload dX5_findChangeOfLike_105 rfl ?_
        refine a_ialdR' dX5_findChangeOfLike_107 sk_14 (inb_ne c2) c10 (rfl) ?_
        refine a_icmp_ne (tgt := 122) dX5_findChangeOfLike_108 (by decide) (fun c => ?_) (fun c => ?_)
        · have hy := hy.1 c
          exact a_vret dX5_findChangeOfLike_122 rfl hy
        · have hy := hy.2 (Decidable.not_not.mp c)
          refine a_aload_n dX5_findChangeOfLike_111 rfl ?_
          refine a_iload_n dX5_findChangeOfLike_112 rfl ?_
          refine a_iload_n dX5_findChangeOfLike_113 rfl ?_
          refine a_iconst (x := 3) dX5_findChangeOfLike_114 rfl ⟨by decide, by decide⟩ ?_
          refine a_iload dX5_findChangeOfLike_115 rfl ?_
          refine a_iload dX5_findChangeOfLike_117 rfl ?_
          refine a_callVv (as := [vI p1, vI p2, vI 3, vI r4, vI r4]) (st := []) dX5_findChangeOfLike_119 lk_Steps_78 sk_6 rfl rfl (Nat.le_of_ble_eq_true rfl) rfl (Call.mono hy (fun _ h12 _ hy => ?_))
          exact a_vret dX5_findChangeOfLike_122 rfl hy
  · have hy := hy.2 (Decidable.not_not.mp c)
    refine a_aload_n dX5_findChangeOfLike_64 rfl ?_
    refine a_iload_n dX5_findChangeOfLike_65 rfl ?_
    refine a_iload_n dX5_findChangeOfLike_66 rfl ?_
    refine a_iconst (x := 0) dX5_findChangeOfLike_67 rfl ⟨by decide, by decide⟩ ?_
    refine a_iload dX5_findChangeOfLike_68 rfl ?_
    refine a_iload dX5_findChangeOfLike_70 rfl ?_
    refine a_callVv (as := [vI p1, vI p2, vI 0, vI r4, vI r4]) (st := []) dX5_findChangeOfLike_72 lk_Steps_78 sk_6 rfl rfl (Nat.le_of_ble_eq_true rfl) rfl (Call.mono hy (fun _ h13 _ hy => ?_))
    refine a_goto (tgt := 122) dX5_findChangeOfLike_75 (by decide) ?_
    exact a_vret dX5_findChangeOfLike_122 rfl hy
def A_Steps_findCost_15 (d : Nat) (Q : Int → AH → Prop) (p1 : Int) (p2 : Int) (v3 : Int) (h : AH) : Prop := AW d M_Steps_findCost Q 15 [some (vR 6 (-1)), some (vI p1), some (vI p2), some (vI v3), none] [] h
def A_Steps_findCost_75 (d : Nat) (Q : Int → AH → Prop) (p1 : Int) (p2 : Int) (v3 : Int) (v4 : Int) (h : AH) : Prop := AW d M_Steps_findCost Q 75 [some (vR 6 (-1)), some (vI p1), some (vI p2), some (vI v3), some (vI v4)] [] h
theorem s_Steps_findCost_15 {d : Nat} {Q : Int → AH → Prop} {p1 : Int} {p2 : Int} {v3 : Int} {h : AH} (hy : inb p1 40 ∧ (inb p2 40 ∧ (((h.2.2 32 p1 p2) < v3 → Q 0 h) ∧ (v3 ≤ (h.2.2 32 p1 p2) → (Call d M_LawCode_costOfNamed [vR 3 (-1)] (wI h 23 1 v3) (fun r4 h3 => ((r4 = 0 → (inI (v3 + 1) ∧ A_Steps_findCost_15 d Q p1 p2 (v3 + 1) h3)) ∧ (r4 ≠ 0 → (((h3.2.2 33 p1 p2) = 0 → A_Steps_findCost_75 d Q p1 p2 v3 r4 h3) ∧ ((h3.2.2 33 p1 p2) ≠ 0 → (((h3.2.2 33 p1 p2) ≤ r4 → (inI (v3 + 1) ∧ A_Steps_findCost_15 d Q p1 p2 (v3 + 1) h3)) ∧ (r4 < (h3.2.2 33 p1 p2) → A_Steps_findCost_75 d Q p1 p2 v3 r4 h3)))))))))))) : A_Steps_findCost_15 d Q p1 p2 v3 h := by
  show AW d M_Steps_findCost Q 15 [some (vR 6 (-1)), some (vI p1), some (vI p2), some (vI v3), none] [] h
  refine a_iload_n dX5_findCost_15 rfl ?_
  refine a_aload_n dX5_findCost_16 rfl ?_
  refine a_getR dX5_findCost_17 fl_Steps_19 sk_6 rfl ?_
  refine a_iload_n dX5_findCost_20 rfl ?_
  obtain ⟨c1, hy⟩ := hy
  refine a_aald dX5_findCost_21 sk_32 c1 ?_
  refine a_iload_n dX5_findCost_22 rfl ?_
  obtain ⟨c2, hy⟩ := hy
  refine a_ialdR' dX5_findCost_23 sk_32 (inb_ne c1) c2 (rfl) ?_
  refine a_icmp_gt (tgt := 112) dX5_findCost_24 (by decide) (fun c => ?_) (fun c => ?_)
  · have hy := hy.1 c
    exact a_vret dX5_findCost_112 rfl hy
  · have hy := hy.2 (Int.not_lt.mp c)
    refine a_aload_n dX5_findCost_27 rfl ?_
    refine a_getR dX5_findCost_28 fl_Steps_43 sk_6 rfl ?_
    refine a_getR dX5_findCost_31 fl_Steps_105 sk_3 rfl ?_
    refine a_iconst (x := 1) dX5_findCost_34 rfl ⟨by decide, by decide⟩ ?_
    refine a_iload_n dX5_findCost_35 rfl ?_
    refine a_iast dX5_findCost_36 sk_23 ⟨by decide, by decide⟩ ?_
    refine a_aload_n dX5_findCost_37 rfl ?_
    refine a_getR dX5_findCost_38 fl_Steps_43 sk_6 rfl ?_
    refine a_callVi (as := []) (st := []) dX5_findCost_41 lk_Steps_108 sk_3 rfl rfl (Nat.le_of_ble_eq_true rfl) (Or.inl rfl) (Call.mono hy (fun r4 h3 _ hy => ?_))
    refine a_istore (ls2 := [some (vR 6 (-1)), some (vI p1), some (vI p2), some (vI v3), some (vI r4)]) dX5_findCost_44 (Nat.le_of_ble_eq_true rfl) rfl ?_
    refine a_iload dX5_findCost_46 rfl ?_
    refine a_if_eq (tgt := 106) dX5_findCost_48 (by decide) (fun c => ?_) (fun c => ?_)
    · have hy := hy.1 c
      obtain ⟨c5, hy⟩ := hy
      refine a_iinc (y := v3 + 1) (ls2 := [some (vR 6 (-1)), some (vI p1), some (vI p2), some (vI (v3 + 1)), some (vI r4)]) dX5_findCost_106 rfl rfl c5 rfl ?_
      refine a_goto (tgt := 15) dX5_findCost_109 (by decide) ?_
      refine a_mask [true, true, true, true, false] (ls2 := [some (vR 6 (-1)), some (vI p1), some (vI p2), some (vI (v3 + 1)), none]) rfl rfl ?_
      exact hy
    · have hy := hy.2 (c)
      refine a_aload_n dX5_findCost_51 rfl ?_
      refine a_getR dX5_findCost_52 fl_Steps_22 sk_6 rfl ?_
      refine a_iload_n dX5_findCost_55 rfl ?_
      refine a_aald dX5_findCost_56 sk_33 c1 ?_
      refine a_iload_n dX5_findCost_57 rfl ?_
      refine a_ialdR' dX5_findCost_58 sk_33 (inb_ne c1) c2 (rfl) ?_
      refine a_if_eq (tgt := 75) dX5_findCost_59 (by decide) (fun c => ?_) (fun c => ?_)
      · have hy := hy.1 c
        exact hy
      · have hy := hy.2 (c)
        refine a_iload dX5_findCost_62 rfl ?_
        refine a_aload_n dX5_findCost_64 rfl ?_
        refine a_getR dX5_findCost_65 fl_Steps_22 sk_6 rfl ?_
        refine a_iload_n dX5_findCost_68 rfl ?_
        refine a_aald dX5_findCost_69 sk_33 c1 ?_
        refine a_iload_n dX5_findCost_70 rfl ?_
        refine a_ialdR' dX5_findCost_71 sk_33 (inb_ne c1) c2 (rfl) ?_
        refine a_icmp_ge (tgt := 106) dX5_findCost_72 (by decide) (fun c => ?_) (fun c => ?_)
        · have hy := hy.1 c
          obtain ⟨c6, hy⟩ := hy
          refine a_iinc (y := v3 + 1) (ls2 := [some (vR 6 (-1)), some (vI p1), some (vI p2), some (vI (v3 + 1)), some (vI r4)]) dX5_findCost_106 rfl rfl c6 rfl ?_
          refine a_goto (tgt := 15) dX5_findCost_109 (by decide) ?_
          refine a_mask [true, true, true, true, false] (ls2 := [some (vR 6 (-1)), some (vI p1), some (vI p2), some (vI (v3 + 1)), none]) rfl rfl ?_
          exact hy
        · have hy := hy.2 (Int.not_le.mp c)
          exact hy
theorem s_Steps_findCost_75 {d : Nat} {Q : Int → AH → Prop} {p1 : Int} {p2 : Int} {v3 : Int} {v4 : Int} {h : AH} (hy : inb p1 40 ∧ (inb p2 40 ∧ (inI (v3 + 1) ∧ A_Steps_findCost_15 d Q p1 p2 (v3 + 1) (wL (wR (wR h 33 p1 p2 v4) 34 p1 p2 v3) 35 p1 (lor (h.2.1 35 p1) (lshl 1 p2)))))) : A_Steps_findCost_75 d Q p1 p2 v3 v4 h := by
  show AW d M_Steps_findCost Q 75 [some (vR 6 (-1)), some (vI p1), some (vI p2), some (vI v3), some (vI v4)] [] h
  refine a_aload_n dX5_findCost_75 rfl ?_
  refine a_getR dX5_findCost_76 fl_Steps_22 sk_6 rfl ?_
  refine a_iload_n dX5_findCost_79 rfl ?_
  obtain ⟨c1, hy⟩ := hy
  refine a_aald dX5_findCost_80 sk_33 c1 ?_
  refine a_iload_n dX5_findCost_81 rfl ?_
  refine a_iload dX5_findCost_82 rfl ?_
  obtain ⟨c2, hy⟩ := hy
  refine a_iastR dX5_findCost_84 sk_33 (inb_ne c1) c2 ?_
  refine a_aload_n dX5_findCost_85 rfl ?_
  refine a_getR dX5_findCost_86 fl_Steps_25 sk_6 rfl ?_
  refine a_iload_n dX5_findCost_89 rfl ?_
  refine a_aald dX5_findCost_90 sk_34 c1 ?_
  refine a_iload_n dX5_findCost_91 rfl ?_
  refine a_iload_n dX5_findCost_92 rfl ?_
  refine a_iastR dX5_findCost_93 sk_34 (inb_ne c1) c2 ?_
  refine a_aload_n dX5_findCost_94 rfl ?_
  refine a_getR dX5_findCost_95 fl_Steps_28 sk_6 rfl ?_
  refine a_iload_n dX5_findCost_98 rfl ?_
  refine a_dup2 dX5_findCost_99 ?_
  refine a_lald' dX5_findCost_100 sk_35 c1 (rfl) ?_
  refine a_lconst (x := 1) dX5_findCost_101 rfl ⟨by decide, by decide⟩ ?_
  refine a_iload_n dX5_findCost_102 rfl ?_
  refine a_lshl dX5_findCost_103 ?_
  refine a_lor dX5_findCost_104 ?_
  refine a_last dX5_findCost_105 sk_35 c1 ?_
  obtain ⟨c3, hy⟩ := hy
  refine a_iinc (y := v3 + 1) (ls2 := [some (vR 6 (-1)), some (vI p1), some (vI p2), some (vI (v3 + 1)), some (vI v4)]) dX5_findCost_106 rfl rfl c3 rfl ?_
  refine a_goto (tgt := 15) dX5_findCost_109 (by decide) ?_
  refine a_mask [true, true, true, true, false] (ls2 := [some (vR 6 (-1)), some (vI p1), some (vI p2), some (vI (v3 + 1)), none]) rfl rfl ?_
  exact hy
theorem c_Steps_findCost {d : Nat} (d0 : Nat) (hd : d0 < d) {p1 : Int} {p2 : Int} {h : AH} {Q : Int → AH → Prop} (hy : Call d0 M_Steps_nameChange [vR 6 (-1), vI p1, vI p2] h (fun _ h1 => inb p1 40 ∧ (inb p2 40 ∧ A_Steps_findCost_15 d0 Q p1 p2 (h1.2.2 31 p1 p2) h1))) : Call d M_Steps_findCost [vR 6 (-1), vI p1, vI p2] h Q := by
  refine ⟨d0, hd, Big.of rfl (Nat.le_of_ble_eq_true rfl) ?_⟩
  show AW d0 M_Steps_findCost Q 0 [some (vR 6 (-1)), some (vI p1), some (vI p2), none, none] [] h
  refine a_aload_n dX5_findCost_0 rfl ?_
  refine a_iload_n dX5_findCost_1 rfl ?_
  refine a_iload_n dX5_findCost_2 rfl ?_
  refine a_callVv (as := [vI p1, vI p2]) (st := []) dX5_findCost_3 lk_Steps_102 sk_6 rfl rfl (Nat.le_of_ble_eq_true rfl) rfl (Call.mono hy (fun _ h1 _ hy => ?_))
  refine a_aload_n dX5_findCost_6 rfl ?_
  refine a_getR dX5_findCost_7 fl_Steps_16 sk_6 rfl ?_
  refine a_iload_n dX5_findCost_10 rfl ?_
  obtain ⟨c2, hy⟩ := hy
  refine a_aald dX5_findCost_11 sk_31 c2 ?_
  refine a_iload_n dX5_findCost_12 rfl ?_
  obtain ⟨c3, hy⟩ := hy
  refine a_ialdR' dX5_findCost_13 sk_31 (inb_ne c2) c3 (rfl) ?_
  refine a_istore_n (i := 3) (ls2 := [some (vR 6 (-1)), some (vI p1), some (vI p2), some (vI (h1.2.2 31 p1 p2)), none]) dX5_findCost_14 rfl (Nat.le_of_ble_eq_true rfl) rfl ?_
  exact hy
def A_Steps_goneTo_24 (d : Nat) (Q : Int → AH → Prop) (p1 : Int) (v4 : Int) (v5 : Int) (h : AH) : Prop := AW d M_Steps_goneTo Q 24 [some (vR 6 (-1)), some (vI p1), none, none, some (vI v4), some (vI v5)] [] h
theorem s_Steps_goneTo_24 {d : Nat} {Q : Int → AH → Prop} {p1 : Int} {v4 : Int} {v5 : Int} {h : AH} (hy : (((h.1 2 6) ≤ v5 → Q p1 h) ∧ (v5 < (h.1 2 6) → (Call d M_Steps_leads [vR 6 (-1), vI p1, vI v5] h (fun r2 h1 => ((r2 = 0 → (inI (v5 + 1) ∧ A_Steps_goneTo_24 d Q p1 v4 (v5 + 1) h1)) ∧ (r2 ≠ 0 → ((v4 ≠ 0 → (inI (v4 - 1) ∧ (inI (v5 + 1) ∧ A_Steps_goneTo_24 d Q p1 (v4 - 1) (v5 + 1) h1))) ∧ (v4 = 0 → Q v5 h1))))))))) : A_Steps_goneTo_24 d Q p1 v4 v5 h := by
  show AW d M_Steps_goneTo Q 24 [some (vR 6 (-1)), some (vI p1), none, none, some (vI v4), some (vI v5)] [] h
  refine a_iload dX5_goneTo_24 rfl ?_
  refine a_aload_n dX5_goneTo_26 rfl ?_
  refine a_getR dX5_goneTo_27 fl_Steps_39 sk_6 rfl ?_
  refine a_getI' (kz := 6) dX5_goneTo_30 fl_Steps_47 sk_2 rfl rfl (rfl) ?_
  refine a_icmp_ge (tgt := 63) dX5_goneTo_33 (by decide) (fun c => ?_) (fun c => ?_)
  · have hy := hy.1 c
    refine a_iload_n dX5_goneTo_63 rfl ?_
    exact a_iret dX5_goneTo_64 rfl hy
  · have hy := hy.2 (Int.not_le.mp c)
    refine a_aload_n dX5_goneTo_36 rfl ?_
    refine a_iload_n dX5_goneTo_37 rfl ?_
    refine a_iload dX5_goneTo_38 rfl ?_
    refine a_callVi (as := [vI p1, vI v5]) (st := []) dX5_goneTo_40 lk_Steps_127 sk_6 rfl rfl (Nat.le_of_ble_eq_true rfl) (Or.inr rfl) (Call.mono hy (fun r2 h1 _ hy => ?_))
    refine a_if_eq (tgt := 57) dX5_goneTo_43 (by decide) (fun c => ?_) (fun c => ?_)
    · have hy := hy.1 c
      obtain ⟨c3, hy⟩ := hy
      refine a_iinc (y := v5 + 1) (ls2 := [some (vR 6 (-1)), some (vI p1), none, none, some (vI v4), some (vI (v5 + 1))]) dX5_goneTo_57 rfl rfl c3 rfl ?_
      refine a_goto (tgt := 24) dX5_goneTo_60 (by decide) ?_
      exact hy
    · have hy := hy.2 (c)
      refine a_iload dX5_goneTo_46 rfl ?_
      refine a_if_ne (tgt := 54) dX5_goneTo_48 (by decide) (fun c => ?_) (fun c => ?_)
      · have hy := hy.1 c
        obtain ⟨c4, hy⟩ := hy
        refine a_iinc (y := v4 - 1) (ls2 := [some (vR 6 (-1)), some (vI p1), none, none, some (vI (v4 - 1)), some (vI v5)]) dX5_goneTo_54 rfl (by omega) c4 rfl ?_
        obtain ⟨c5, hy⟩ := hy
        refine a_iinc (y := v5 + 1) (ls2 := [some (vR 6 (-1)), some (vI p1), none, none, some (vI (v4 - 1)), some (vI (v5 + 1))]) dX5_goneTo_57 rfl rfl c5 rfl ?_
        refine a_goto (tgt := 24) dX5_goneTo_60 (by decide) ?_
        exact hy
      · have hy := hy.2 (Decidable.not_not.mp c)
        refine a_iload dX5_goneTo_51 rfl ?_
        exact a_iret dX5_goneTo_53 rfl hy
theorem c_Steps_goneTo {d : Nat} (d0 : Nat) (hd : d0 < d) {p1 : Int} {p2 : Int} {h : AH} {Q : Int → AH → Prop} (hy : inb p1 40 ∧ (Call d0 M_JLong_bitCount [vL (h.2.1 35 p1)] h (fun r3 h2 => ((r3 ≠ 0 → (r3 ≠ 0 ∧ A_Steps_goneTo_24 d0 Q p1 (Int.tmod p2 r3) 0 h2)) ∧ (r3 = 0 → Q p1 h2))))) : Call d M_Steps_goneTo [vR 6 (-1), vI p1, vI p2] h Q := by
  refine ⟨d0, hd, Big.of rfl (Nat.le_of_ble_eq_true rfl) ?_⟩
  show AW d0 M_Steps_goneTo Q 0 [some (vR 6 (-1)), some (vI p1), some (vI p2), none, none, none] [] h
  refine a_aload_n dX5_goneTo_0 rfl ?_
  refine a_getR dX5_goneTo_1 fl_Steps_28 sk_6 rfl ?_
  refine a_iload_n dX5_goneTo_4 rfl ?_
  obtain ⟨c1, hy⟩ := hy
  refine a_lald' dX5_goneTo_5 sk_35 c1 (rfl) ?_
  refine a_callSi (as := [vL (h.2.1 35 p1)]) (st := []) dX5_goneTo_6 lk_Steps_121 rfl rfl (Nat.le_of_ble_eq_true rfl) (Or.inl rfl) (Call.mono hy (fun r3 h2 _ hy => ?_))
  refine a_istore_n (i := 3) (ls2 := [some (vR 6 (-1)), some (vI p1), some (vI p2), some (vI r3), none, none]) dX5_goneTo_9 rfl (Nat.le_of_ble_eq_true rfl) rfl ?_
  refine a_iload_n dX5_goneTo_10 rfl ?_
  refine a_if_ne (tgt := 16) dX5_goneTo_11 (by decide) (fun c => ?_) (fun c => ?_)
  · have hy := hy.1 c
    refine a_iload_n dX5_goneTo_16 rfl ?_
    refine a_iload_n dX5_goneTo_17 rfl ?_
    obtain ⟨c4, hy⟩ := hy
    refine a_irem dX5_goneTo_18 c4 ?_
    refine a_istore (ls2 := [some (vR 6 (-1)), some (vI p1), some (vI p2), some (vI r3), some (vI (Int.tmod p2 r3)), none]) dX5_goneTo_19 (Nat.le_of_ble_eq_true rfl) rfl ?_
    refine a_iconst (x := 0) dX5_goneTo_21 rfl ⟨by decide, by decide⟩ ?_
    refine a_istore (ls2 := [some (vR 6 (-1)), some (vI p1), some (vI p2), some (vI r3), some (vI (Int.tmod p2 r3)), some (vI 0)]) dX5_goneTo_22 (Nat.le_of_ble_eq_true rfl) rfl ?_
    refine a_mask [true, true, false, false, true, true] (ls2 := [some (vR 6 (-1)), some (vI p1), none, none, some (vI (Int.tmod p2 r3)), some (vI 0)]) rfl rfl ?_
    exact hy
  · have hy := hy.2 (Decidable.not_not.mp c)
    refine a_iload_n dX5_goneTo_14 rfl ?_
    exact a_iret dX5_goneTo_15 rfl hy
def A_Steps_joinLast_12 (d : Nat) (Q : Int → AH → Prop) (v1 : Int) (v2 : Int) (h : AH) : Prop := AW d M_Steps_joinLast Q 12 [some (vR 6 (-1)), some (vI v1), some (vI v2)] [] h
theorem s_Steps_joinLast_12 {d : Nat} {Q : Int → AH → Prop} {v1 : Int} {v2 : Int} {h : AH} (hy : ((v1 < v2 → Q 0 h) ∧ (v2 ≤ v1 → ((40 ≤ v1 → Q 0 h) ∧ (v1 < 40 → (Call d M_Steps_findChange [vR 6 (-1), vI v2, vI v1] h (fun _ h1 => Call d M_Steps_findChange [vR 6 (-1), vI v1, vI v2] h1 (fun _ h2 => inI (v2 + 1) ∧ A_Steps_joinLast_12 d Q v1 (v2 + 1) h2)))))))) : A_Steps_joinLast_12 d Q v1 v2 h := by
  show AW d M_Steps_joinLast Q 12 [some (vR 6 (-1)), some (vI v1), some (vI v2)] [] h
  refine a_iload_n dX5_joinLast_12 rfl ?_
  refine a_iload_n dX5_joinLast_13 rfl ?_
  refine a_icmp_gt (tgt := 41) dX5_joinLast_14 (by decide) (fun c => ?_) (fun c => ?_)
  · have hy := hy.1 c
    exact a_vret dX5_joinLast_41 rfl hy
  · have hy := hy.2 (Int.not_lt.mp c)
    refine a_iload_n dX5_joinLast_17 rfl ?_
    refine a_bipush (x := 40) dX5_joinLast_18 (by decide) ⟨by decide, by decide⟩ ?_
    refine a_icmp_ge (tgt := 41) dX5_joinLast_20 (by decide) (fun c => ?_) (fun c => ?_)
    · have hy := hy.1 c
      exact a_vret dX5_joinLast_41 rfl hy
    · have hy := hy.2 (Int.not_le.mp c)
      refine a_aload_n dX5_joinLast_23 rfl ?_
      refine a_iload_n dX5_joinLast_24 rfl ?_
      refine a_iload_n dX5_joinLast_25 rfl ?_
      refine a_callVv (as := [vI v2, vI v1]) (st := []) dX5_joinLast_26 lk_Steps_52 sk_6 rfl rfl (Nat.le_of_ble_eq_true rfl) rfl (Call.mono hy (fun _ h1 _ hy => ?_))
      refine a_aload_n dX5_joinLast_29 rfl ?_
      refine a_iload_n dX5_joinLast_30 rfl ?_
      refine a_iload_n dX5_joinLast_31 rfl ?_
      refine a_callVv (as := [vI v1, vI v2]) (st := []) dX5_joinLast_32 lk_Steps_52 sk_6 rfl rfl (Nat.le_of_ble_eq_true rfl) rfl (Call.mono hy (fun _ h2 _ hy => ?_))
      obtain ⟨c3, hy⟩ := hy
      refine a_iinc (y := v2 + 1) (ls2 := [some (vR 6 (-1)), some (vI v1), some (vI (v2 + 1))]) dX5_joinLast_35 rfl rfl c3 rfl ?_
      refine a_goto (tgt := 12) dX5_joinLast_38 (by decide) ?_
      exact hy
theorem c_Steps_joinLast {d : Nat} (d0 : Nat) (hd : d0 < d)  {h : AH} {Q : Int → AH → Prop} (hy : inI ((h.1 2 6) - 1) ∧ A_Steps_joinLast_12 d0 Q ((h.1 2 6) - 1) 0 h) : Call d M_Steps_joinLast [vR 6 (-1)] h Q := by
  refine ⟨d0, hd, Big.of rfl (Nat.le_of_ble_eq_true rfl) ?_⟩
  show AW d0 M_Steps_joinLast Q 0 [some (vR 6 (-1)), none, none] [] h
  refine a_aload_n dX5_joinLast_0 rfl ?_
  refine a_getR dX5_joinLast_1 fl_Steps_39 sk_6 rfl ?_
  refine a_getI' (kz := 6) dX5_joinLast_4 fl_Steps_47 sk_2 rfl rfl (rfl) ?_
  refine a_iconst (x := 1) dX5_joinLast_7 rfl ⟨by decide, by decide⟩ ?_
  obtain ⟨c1, hy⟩ := hy
  refine a_isub dX5_joinLast_8 c1 ?_
  refine a_istore_n (i := 1) (ls2 := [some (vR 6 (-1)), some (vI ((h.1 2 6) - 1)), none]) dX5_joinLast_9 rfl (Nat.le_of_ble_eq_true rfl) rfl ?_
  refine a_iconst (x := 0) dX5_joinLast_10 rfl ⟨by decide, by decide⟩ ?_
  refine a_istore_n (i := 2) (ls2 := [some (vR 6 (-1)), some (vI ((h.1 2 6) - 1)), some (vI 0)]) dX5_joinLast_11 rfl (Nat.le_of_ble_eq_true rfl) rfl ?_
  exact hy
theorem c_Steps_kindOf {d : Nat} (d0 : Nat) (hd : d0 < d) {p1 : Int} {p2 : Int} {h : AH} {Q : Int → AH → Prop} (hy : inb p1 40 ∧ (inb p2 40 ∧ Q (h.2.2 30 p1 p2) h)) : Call d M_Steps_kindOf [vR 6 (-1), vI p1, vI p2] h Q := by
  refine ⟨d0, hd, Big.of rfl (Nat.le_of_ble_eq_true rfl) ?_⟩
  show AW d0 M_Steps_kindOf Q 0 [some (vR 6 (-1)), some (vI p1), some (vI p2)] [] h
  refine a_aload_n dX5_kindOf_0 rfl ?_
  refine a_getR dX5_kindOf_1 fl_Steps_11 sk_6 rfl ?_
  refine a_iload_n dX5_kindOf_4 rfl ?_
  obtain ⟨c1, hy⟩ := hy
  refine a_aald dX5_kindOf_5 sk_30 c1 ?_
  refine a_iload_n dX5_kindOf_6 rfl ?_
  obtain ⟨c2, hy⟩ := hy
  refine a_ialdR' dX5_kindOf_7 sk_30 (inb_ne c1) c2 (rfl) ?_
  exact a_iret dX5_kindOf_8 rfl hy
theorem c_Steps_leads {d : Nat} (d0 : Nat) (hd : d0 < d) {p1 : Int} {p2 : Int} {h : AH} {Q : Int → AH → Prop} (hy : inb p1 40 ∧ (((land (lushr (h.2.1 35 p1) p2) 1) = 0 → Q 0 h) ∧ ((land (lushr (h.2.1 35 p1) p2) 1) ≠ 0 → Q 1 h))) : Call d M_Steps_leads [vR 6 (-1), vI p1, vI p2] h Q := by
  refine ⟨d0, hd, Big.of rfl (Nat.le_of_ble_eq_true rfl) ?_⟩
  show AW d0 M_Steps_leads Q 0 [some (vR 6 (-1)), some (vI p1), some (vI p2)] [] h
  refine a_aload_n dX5_leads_0 rfl ?_
  refine a_getR dX5_leads_1 fl_Steps_28 sk_6 rfl ?_
  refine a_iload_n dX5_leads_4 rfl ?_
  obtain ⟨c1, hy⟩ := hy
  refine a_lald' dX5_leads_5 sk_35 c1 (rfl) ?_
  refine a_iload_n dX5_leads_6 rfl ?_
  refine a_lushr dX5_leads_7 ?_
  refine a_lconst (x := 1) dX5_leads_8 rfl ⟨by decide, by decide⟩ ?_
  refine a_land dX5_leads_9 ?_
  refine a_lconst (x := 0) dX5_leads_10 rfl ⟨by decide, by decide⟩ ?_
  refine a_lc_eq (tgt := 19) dX5_leads_11 dX5_leads_12 (by decide) (fun c => ?_) (fun c => ?_)
  · have hy := hy.1 c
    refine a_iconst (x := 0) dX5_leads_19 rfl ⟨by decide, by decide⟩ ?_
    exact a_zret dX5_leads_20 rfl (Or.inl rfl) hy
  · have hy := hy.2 (c)
    refine a_iconst (x := 1) dX5_leads_15 rfl ⟨by decide, by decide⟩ ?_
    refine a_goto (tgt := 20) dX5_leads_16 (by decide) ?_
    exact a_zret dX5_leads_20 rfl (Or.inr rfl) hy
theorem c_Steps_letterIn {d : Nat} (d0 : Nat) (hd : d0 < d) {p1 : Int} {p2 : Int} {h : AH} {Q : Int → AH → Prop} (hy : ((p2 < 0 → Q 26 h) ∧ (0 ≤ p2 → ((8 ≤ p2 → Q 26 h) ∧ (p2 < 8 → (inb p1 40 ∧ (inb p2 8 ∧ Q (h.2.2 14 p1 p2) h))))))) : Call d M_Steps_letterIn [vR 6 (-1), vI p1, vI p2] h Q := by
  refine ⟨d0, hd, Big.of rfl (Nat.le_of_ble_eq_true rfl) ?_⟩
  show AW d0 M_Steps_letterIn Q 0 [some (vR 6 (-1)), some (vI p1), some (vI p2)] [] h
  refine a_iload_n dX5_letterIn_0 rfl ?_
  refine a_if_lt (tgt := 24) dX5_letterIn_1 (by decide) (fun c => ?_) (fun c => ?_)
  · have hy := hy.1 c
    refine a_bipush (x := 26) dX5_letterIn_24 (by decide) ⟨by decide, by decide⟩ ?_
    exact a_iret dX5_letterIn_26 rfl hy
  · have hy := hy.2 (Int.not_lt.mp c)
    refine a_iload_n dX5_letterIn_4 rfl ?_
    refine a_bipush (x := 8) dX5_letterIn_5 (by decide) ⟨by decide, by decide⟩ ?_
    refine a_icmp_ge (tgt := 24) dX5_letterIn_7 (by decide) (fun c => ?_) (fun c => ?_)
    · have hy := hy.1 c
      refine a_bipush (x := 26) dX5_letterIn_24 (by decide) ⟨by decide, by decide⟩ ?_
      exact a_iret dX5_letterIn_26 rfl hy
    · have hy := hy.2 (Int.not_le.mp c)
      refine a_aload_n dX5_letterIn_10 rfl ?_
      refine a_getR dX5_letterIn_11 fl_Steps_39 sk_6 rfl ?_
      refine a_getR dX5_letterIn_14 fl_Steps_67 sk_2 rfl ?_
      refine a_iload_n dX5_letterIn_17 rfl ?_
      obtain ⟨c1, hy⟩ := hy
      refine a_aald dX5_letterIn_18 sk_14 c1 ?_
      refine a_iload_n dX5_letterIn_19 rfl ?_
      obtain ⟨c2, hy⟩ := hy
      refine a_ialdR' dX5_letterIn_20 sk_14 (inb_ne c1) c2 (rfl) ?_
      refine a_goto (tgt := 26) dX5_letterIn_21 (by decide) ?_
      exact a_iret dX5_letterIn_26 rfl hy
def A_Steps_nameChange_53 (d : Nat) (Q : Int → AH → Prop) (p1 : Int) (p2 : Int) (v3 : Int) (v4 : Int) (s1 : Int) (s2 : Int) (h : AH) : Prop := AW d M_Steps_nameChange Q 53 [some (vR 6 (-1)), some (vI p1), some (vI p2), some (vI v3), some (vI v4), some (vR 23 (-1))] [vI s2, vI s1, vR 23 (-1)] h
def A_Steps_nameChange_74 (d : Nat) (Q : Int → AH → Prop) (p1 : Int) (p2 : Int) (s1 : Int) (s2 : Int) (h : AH) : Prop := AW d M_Steps_nameChange Q 74 [some (vR 6 (-1)), some (vI p1), some (vI p2), none, none, some (vR 23 (-1))] [vI s2, vI s1, vR 23 (-1)] h
theorem s_Steps_nameChange_53 {d : Nat} {Q : Int → AH → Prop} {p1 : Int} {p2 : Int} {v3 : Int} {v4 : Int} {s1 : Int} {s2 : Int} {h : AH} (hy : inb s1 9 ∧ ((v3 ≠ 2 → (Call d M_Steps_letterIn [vR 6 (-1), vI p2, vI v4] (wI h 23 s1 s2) (fun r3 h2 => A_Steps_nameChange_74 d Q p1 p2 3 r3 h2))) ∧ (v3 = 2 → A_Steps_nameChange_74 d Q p1 p2 3 26 (wI h 23 s1 s2)))) : A_Steps_nameChange_53 d Q p1 p2 v3 v4 s1 s2 h := by
  show AW d M_Steps_nameChange Q 53 [some (vR 6 (-1)), some (vI p1), some (vI p2), some (vI v3), some (vI v4), some (vR 23 (-1))] [vI s2, vI s1, vR 23 (-1)] h
  obtain ⟨c1, hy⟩ := hy
  refine a_iast dX5_nameChange_53 sk_23 c1 ?_
  refine a_aload dX5_nameChange_54 rfl ?_
  refine a_iconst (x := 3) dX5_nameChange_56 rfl ⟨by decide, by decide⟩ ?_
  refine a_iload_n dX5_nameChange_57 rfl ?_
  refine a_iconst (x := 2) dX5_nameChange_58 rfl ⟨by decide, by decide⟩ ?_
  refine a_icmp_ne (tgt := 67) dX5_nameChange_59 (by decide) (fun c => ?_) (fun c => ?_)
  · have hy := hy.1 c
    refine a_aload_n dX5_nameChange_67 rfl ?_
    refine a_iload_n dX5_nameChange_68 rfl ?_
    refine a_iload dX5_nameChange_69 rfl ?_
    refine a_callVi (as := [vI p2, vI v4]) (st := [vI 3, vR 23 (-1)]) dX5_nameChange_71 lk_Steps_112 sk_6 rfl rfl (Nat.le_of_ble_eq_true rfl) (Or.inl rfl) (Call.mono hy (fun r3 h2 _ hy => ?_))
    refine a_mask [true, true, true, false, false, true] (ls2 := [some (vR 6 (-1)), some (vI p1), some (vI p2), none, none, some (vR 23 (-1))]) rfl rfl ?_
    exact hy
  · have hy := hy.2 (Decidable.not_not.mp c)
    refine a_bipush (x := 26) dX5_nameChange_62 (by decide) ⟨by decide, by decide⟩ ?_
    refine a_goto (tgt := 74) dX5_nameChange_64 (by decide) ?_
    refine a_mask [true, true, true, false, false, true] (ls2 := [some (vR 6 (-1)), some (vI p1), some (vI p2), none, none, some (vR 23 (-1))]) rfl rfl ?_
    exact hy
theorem s_Steps_nameChange_74 {d : Nat} {Q : Int → AH → Prop} {p1 : Int} {p2 : Int} {s1 : Int} {s2 : Int} {h : AH} (hy : inb s1 9 ∧ (inb p1 40 ∧ (inb p2 40 ∧ Q 0 (wI (wI (wI (wI (wI (wI h 23 s1 s2) 23 4 (h.1 15 p1)) 23 5 (h.1 17 p1)) 23 6 (h.1 17 p2)) 23 7 p1) 23 8 p2)))) : A_Steps_nameChange_74 d Q p1 p2 s1 s2 h := by
  show AW d M_Steps_nameChange Q 74 [some (vR 6 (-1)), some (vI p1), some (vI p2), none, none, some (vR 23 (-1))] [vI s2, vI s1, vR 23 (-1)] h
  obtain ⟨c1, hy⟩ := hy
  refine a_iast dX5_nameChange_74 sk_23 c1 ?_
  refine a_aload dX5_nameChange_75 rfl ?_
  refine a_iconst (x := 4) dX5_nameChange_77 rfl ⟨by decide, by decide⟩ ?_
  refine a_aload_n dX5_nameChange_78 rfl ?_
  refine a_getR dX5_nameChange_79 fl_Steps_39 sk_6 rfl ?_
  refine a_getR dX5_nameChange_82 fl_Steps_56 sk_2 rfl ?_
  refine a_iload_n dX5_nameChange_85 rfl ?_
  obtain ⟨c2, hy⟩ := hy
  refine a_iald' dX5_nameChange_86 sk_15 c2 (rI_ne (by decide)) ?_
  refine a_iast dX5_nameChange_87 sk_23 ⟨by decide, by decide⟩ ?_
  refine a_aload dX5_nameChange_88 rfl ?_
  refine a_iconst (x := 5) dX5_nameChange_90 rfl ⟨by decide, by decide⟩ ?_
  refine a_aload_n dX5_nameChange_91 rfl ?_
  refine a_getR dX5_nameChange_92 fl_Steps_39 sk_6 rfl ?_
  refine a_getR dX5_nameChange_95 fl_Steps_115 sk_2 rfl ?_
  refine a_iload_n dX5_nameChange_98 rfl ?_
  refine a_iald' dX5_nameChange_99 sk_17 c2 ((rI_ne (by decide)).trans (rI_ne (by decide))) ?_
  refine a_iast dX5_nameChange_100 sk_23 ⟨by decide, by decide⟩ ?_
  refine a_aload dX5_nameChange_101 rfl ?_
  refine a_bipush (x := 6) dX5_nameChange_103 (by decide) ⟨by decide, by decide⟩ ?_
  refine a_aload_n dX5_nameChange_105 rfl ?_
  refine a_getR dX5_nameChange_106 fl_Steps_39 sk_6 rfl ?_
  refine a_getR dX5_nameChange_109 fl_Steps_115 sk_2 rfl ?_
  refine a_iload_n dX5_nameChange_112 rfl ?_
  obtain ⟨c3, hy⟩ := hy
  refine a_iald' dX5_nameChange_113 sk_17 c3 ((rI_ne (by decide)).trans ((rI_ne (by decide)).trans (rI_ne (by decide)))) ?_
  refine a_iast dX5_nameChange_114 sk_23 ⟨by decide, by decide⟩ ?_
  refine a_aload dX5_nameChange_115 rfl ?_
  refine a_bipush (x := 7) dX5_nameChange_117 (by decide) ⟨by decide, by decide⟩ ?_
  refine a_iload_n dX5_nameChange_119 rfl ?_
  refine a_iast dX5_nameChange_120 sk_23 ⟨by decide, by decide⟩ ?_
  refine a_aload dX5_nameChange_121 rfl ?_
  refine a_bipush (x := 8) dX5_nameChange_123 (by decide) ⟨by decide, by decide⟩ ?_
  refine a_iload_n dX5_nameChange_125 rfl ?_
  refine a_iast dX5_nameChange_126 sk_23 ⟨by decide, by decide⟩ ?_
  exact a_vret dX5_nameChange_127 rfl hy
theorem c_Steps_nameChange {d : Nat} (d0 : Nat) (hd : d0 < d) {p1 : Int} {p2 : Int} {h : AH} {Q : Int → AH → Prop} (hy : inb p1 40 ∧ (inb p2 40 ∧ (((h.2.2 30 p1 p2) ≠ 1 → (Call d0 M_Steps_letterIn [vR 6 (-1), vI p1, vI (h.2.2 31 p1 p2)] (wI h 23 0 (h.2.2 30 p1 p2)) (fun r4 h3 => A_Steps_nameChange_53 d0 Q p1 p2 (h.2.2 30 p1 p2) (h.2.2 31 p1 p2) 2 r4 h3))) ∧ ((h.2.2 30 p1 p2) = 1 → A_Steps_nameChange_53 d0 Q p1 p2 (h.2.2 30 p1 p2) (h.2.2 31 p1 p2) 2 26 (wI h 23 0 (h.2.2 30 p1 p2)))))) : Call d M_Steps_nameChange [vR 6 (-1), vI p1, vI p2] h Q := by
  refine ⟨d0, hd, Big.of rfl (Nat.le_of_ble_eq_true rfl) ?_⟩
  show AW d0 M_Steps_nameChange Q 0 [some (vR 6 (-1)), some (vI p1), some (vI p2), none, none, none] [] h
  refine a_aload_n dX5_nameChange_0 rfl ?_
  refine a_getR dX5_nameChange_1 fl_Steps_11 sk_6 rfl ?_
  refine a_iload_n dX5_nameChange_4 rfl ?_
  obtain ⟨c1, hy⟩ := hy
  refine a_aald dX5_nameChange_5 sk_30 c1 ?_
  refine a_iload_n dX5_nameChange_6 rfl ?_
  obtain ⟨c2, hy⟩ := hy
  refine a_ialdR' dX5_nameChange_7 sk_30 (inb_ne c1) c2 (rfl) ?_
  refine a_istore_n (i := 3) (ls2 := [some (vR 6 (-1)), some (vI p1), some (vI p2), some (vI (h.2.2 30 p1 p2)), none, none]) dX5_nameChange_8 rfl (Nat.le_of_ble_eq_true rfl) rfl ?_
  refine a_aload_n dX5_nameChange_9 rfl ?_
  refine a_getR dX5_nameChange_10 fl_Steps_16 sk_6 rfl ?_
  refine a_iload_n dX5_nameChange_13 rfl ?_
  refine a_aald dX5_nameChange_14 sk_31 c1 ?_
  refine a_iload_n dX5_nameChange_15 rfl ?_
  refine a_ialdR' dX5_nameChange_16 sk_31 (inb_ne c1) c2 (rfl) ?_
  refine a_istore (ls2 := [some (vR 6 (-1)), some (vI p1), some (vI p2), some (vI (h.2.2 30 p1 p2)), some (vI (h.2.2 31 p1 p2)), none]) dX5_nameChange_17 (Nat.le_of_ble_eq_true rfl) rfl ?_
  refine a_aload_n dX5_nameChange_19 rfl ?_
  refine a_getR dX5_nameChange_20 fl_Steps_43 sk_6 rfl ?_
  refine a_getR dX5_nameChange_23 fl_Steps_105 sk_3 rfl ?_
  refine a_astore (ls2 := [some (vR 6 (-1)), some (vI p1), some (vI p2), some (vI (h.2.2 30 p1 p2)), some (vI (h.2.2 31 p1 p2)), some (vR 23 (-1))]) dX5_nameChange_26 (Nat.le_of_ble_eq_true rfl) rfl ?_
  refine a_aload dX5_nameChange_28 rfl ?_
  refine a_iconst (x := 0) dX5_nameChange_30 rfl ⟨by decide, by decide⟩ ?_
  refine a_iload_n dX5_nameChange_31 rfl ?_
  refine a_iast dX5_nameChange_32 sk_23 ⟨by decide, by decide⟩ ?_
  refine a_aload dX5_nameChange_33 rfl ?_
  refine a_iconst (x := 2) dX5_nameChange_35 rfl ⟨by decide, by decide⟩ ?_
  refine a_iload_n dX5_nameChange_36 rfl ?_
  refine a_iconst (x := 1) dX5_nameChange_37 rfl ⟨by decide, by decide⟩ ?_
  refine a_icmp_ne (tgt := 46) dX5_nameChange_38 (by decide) (fun c => ?_) (fun c => ?_)
  · have hy := hy.1 c
    refine a_aload_n dX5_nameChange_46 rfl ?_
    refine a_iload_n dX5_nameChange_47 rfl ?_
    refine a_iload dX5_nameChange_48 rfl ?_
    refine a_callVi (as := [vI p1, vI (h.2.2 31 p1 p2)]) (st := [vI 2, vR 23 (-1)]) dX5_nameChange_50 lk_Steps_112 sk_6 rfl rfl (Nat.le_of_ble_eq_true rfl) (Or.inl rfl) (Call.mono hy (fun r4 h3 _ hy => ?_))
    exact hy
  · have hy := hy.2 (Decidable.not_not.mp c)
    refine a_bipush (x := 26) dX5_nameChange_41 (by decide) ⟨by decide, by decide⟩ ?_
    refine a_goto (tgt := 53) dX5_nameChange_43 (by decide) ?_
    exact hy
theorem c_Steps_placeOf {d : Nat} (d0 : Nat) (hd : d0 < d) {p1 : Int} {p2 : Int} {h : AH} {Q : Int → AH → Prop} (hy : inb p1 40 ∧ (inb p2 40 ∧ Q (h.2.2 34 p1 p2) h)) : Call d M_Steps_placeOf [vR 6 (-1), vI p1, vI p2] h Q := by
  refine ⟨d0, hd, Big.of rfl (Nat.le_of_ble_eq_true rfl) ?_⟩
  show AW d0 M_Steps_placeOf Q 0 [some (vR 6 (-1)), some (vI p1), some (vI p2)] [] h
  refine a_aload_n dX5_placeOf_0 rfl ?_
  refine a_getR dX5_placeOf_1 fl_Steps_25 sk_6 rfl ?_
  refine a_iload_n dX5_placeOf_4 rfl ?_
  obtain ⟨c1, hy⟩ := hy
  refine a_aald dX5_placeOf_5 sk_34 c1 ?_
  refine a_iload_n dX5_placeOf_6 rfl ?_
  obtain ⟨c2, hy⟩ := hy
  refine a_ialdR' dX5_placeOf_7 sk_34 (inb_ne c1) c2 (rfl) ?_
  exact a_iret dX5_placeOf_8 rfl hy
def A_Steps_refresh_29 (d : Nat) (Q : Int → AH → Prop)  (h : AH) : Prop := AW d M_Steps_refresh Q 29 [some (vR 6 (-1)), none, none] [] h
def A_Steps_refresh_63 (d : Nat) (Q : Int → AH → Prop) (v1 : Int) (h : AH) : Prop := AW d M_Steps_refresh Q 63 [some (vR 6 (-1)), some (vI v1), none] [] h
def A_Steps_refresh_83 (d : Nat) (Q : Int → AH → Prop) (v1 : Int) (v2 : Int) (h : AH) : Prop := AW d M_Steps_refresh Q 83 [some (vR 6 (-1)), some (vI v1), some (vI v2)] [] h
theorem s_Steps_refresh_29 {d : Nat} {Q : Int → AH → Prop}  {h : AH} (hy : inI ((h.1 6 10) + 1) ∧ A_Steps_refresh_63 d Q 0 (wI (wI (wI h 6 8 (h.1 2 9)) 6 9 (h.1 3 7)) 6 10 ((h.1 6 10) + 1))) : A_Steps_refresh_29 d Q  h := by
  show AW d M_Steps_refresh Q 29 [some (vR 6 (-1)), none, none] [] h
  refine a_aload_n dX5_refresh_29 rfl ?_
  refine a_aload_n dX5_refresh_30 rfl ?_
  refine a_getR dX5_refresh_31 fl_Steps_39 sk_6 rfl ?_
  refine a_getI' (kz := 9) dX5_refresh_34 fl_Steps_88 sk_2 rfl rfl (rfl) ?_
  refine a_putI (kz := 8) dX5_refresh_37 fp_Steps_32 sk_6 rfl rfl ?_
  refine a_aload_n dX5_refresh_40 rfl ?_
  refine a_aload_n dX5_refresh_41 rfl ?_
  refine a_getR dX5_refresh_42 fl_Steps_43 sk_6 rfl ?_
  refine a_getI' (kz := 7) dX5_refresh_45 fl_Steps_91 sk_3 rfl rfl (rI_ne (by decide)) ?_
  refine a_putI (kz := 9) dX5_refresh_48 fp_Steps_36 sk_6 rfl rfl ?_
  refine a_aload_n dX5_refresh_51 rfl ?_
  refine a_dupR dX5_refresh_52 ?_
  refine a_getI' (kz := 10) dX5_refresh_53 fl_Steps_94 sk_6 rfl rfl ((rI_nk (by decide)).trans (rI_nk (by decide))) ?_
  refine a_iconst (x := 1) dX5_refresh_56 rfl ⟨by decide, by decide⟩ ?_
  obtain ⟨c1, hy⟩ := hy
  refine a_iadd dX5_refresh_57 c1 ?_
  refine a_putI (kz := 10) dX5_refresh_58 fp_Steps_94 sk_6 rfl rfl ?_
  refine a_iconst (x := 0) dX5_refresh_61 rfl ⟨by decide, by decide⟩ ?_
  refine a_istore_n (i := 1) (ls2 := [some (vR 6 (-1)), some (vI 0), none]) dX5_refresh_62 rfl (Nat.le_of_ble_eq_true rfl) rfl ?_
  exact hy
theorem s_Steps_refresh_63 {d : Nat} {Q : Int → AH → Prop} {v1 : Int} {h : AH} (hy : (((h.1 2 6) ≤ v1 → Q 0 h) ∧ (v1 < (h.1 2 6) → (inb v1 40 ∧ A_Steps_refresh_83 d Q v1 0 (wL h 35 v1 0))))) : A_Steps_refresh_63 d Q v1 h := by
  show AW d M_Steps_refresh Q 63 [some (vR 6 (-1)), some (vI v1), none] [] h
  refine a_iload_n dX5_refresh_63 rfl ?_
  refine a_aload_n dX5_refresh_64 rfl ?_
  refine a_getR dX5_refresh_65 fl_Steps_39 sk_6 rfl ?_
  refine a_getI' (kz := 6) dX5_refresh_68 fl_Steps_47 sk_2 rfl rfl (rfl) ?_
  refine a_icmp_ge (tgt := 155) dX5_refresh_71 (by decide) (fun c => ?_) (fun c => ?_)
  · have hy := hy.1 c
    exact a_vret dX5_refresh_155 rfl hy
  · have hy := hy.2 (Int.not_le.mp c)
    refine a_aload_n dX5_refresh_74 rfl ?_
    refine a_getR dX5_refresh_75 fl_Steps_28 sk_6 rfl ?_
    refine a_iload_n dX5_refresh_78 rfl ?_
    refine a_lconst (x := 0) dX5_refresh_79 rfl ⟨by decide, by decide⟩ ?_
    obtain ⟨c1, hy⟩ := hy
    refine a_last dX5_refresh_80 sk_35 c1 ?_
    refine a_iconst (x := 0) dX5_refresh_81 rfl ⟨by decide, by decide⟩ ?_
    refine a_istore_n (i := 2) (ls2 := [some (vR 6 (-1)), some (vI v1), some (vI 0)]) dX5_refresh_82 rfl (Nat.le_of_ble_eq_true rfl) rfl ?_
    exact hy
theorem s_Steps_refresh_83 {d : Nat} {Q : Int → AH → Prop} {v1 : Int} {v2 : Int} {h : AH} (hy : (((h.1 2 6) ≤ v2 → (inI (v1 + 1) ∧ A_Steps_refresh_63 d Q (v1 + 1) h)) ∧ (v2 < (h.1 2 6) → (inb v1 40 ∧ (inb v2 40 ∧ (((h.2.2 30 v1 v2) = (-1) → (inI (v2 + 1) ∧ A_Steps_refresh_83 d Q v1 (v2 + 1) (wR h 33 v1 v2 0))) ∧ ((h.2.2 30 v1 v2) ≠ (-1) → (Call d M_Words_isUsed [vR 2 (-1), vI v1] (wR h 33 v1 v2 0) (fun r6 h5 => ((r6 = 0 → (inI (v2 + 1) ∧ A_Steps_refresh_83 d Q v1 (v2 + 1) h5)) ∧ (r6 ≠ 0 → (Call d M_Words_isUsed [vR 2 (-1), vI v2] h5 (fun r9 h8 => ((r9 = 0 → (inI (v2 + 1) ∧ A_Steps_refresh_83 d Q v1 (v2 + 1) h8)) ∧ (r9 ≠ 0 → (Call d M_Steps_findCost [vR 6 (-1), vI v1, vI v2] h8 (fun _ h11 => inI (v2 + 1) ∧ A_Steps_refresh_83 d Q v1 (v2 + 1) h11))))))))))))))))) : A_Steps_refresh_83 d Q v1 v2 h := by
  show AW d M_Steps_refresh Q 83 [some (vR 6 (-1)), some (vI v1), some (vI v2)] [] h
  refine a_iload_n dX5_refresh_83 rfl ?_
  refine a_aload_n dX5_refresh_84 rfl ?_
  refine a_getR dX5_refresh_85 fl_Steps_39 sk_6 rfl ?_
  refine a_getI' (kz := 6) dX5_refresh_88 fl_Steps_47 sk_2 rfl rfl (rfl) ?_
  refine a_icmp_ge (tgt := 149) dX5_refresh_91 (by decide) (fun c => ?_) (fun c => ?_)
  · have hy := hy.1 c
    obtain ⟨c1, hy⟩ := hy
    refine a_iinc (y := v1 + 1) (ls2 := [some (vR 6 (-1)), some (vI (v1 + 1)), some (vI v2)]) dX5_refresh_149 rfl rfl c1 rfl ?_
    refine a_goto (tgt := 63) dX5_refresh_152 (by decide) ?_
    refine a_mask [true, true, false] (ls2 := [some (vR 6 (-1)), some (vI (v1 + 1)), none]) rfl rfl ?_
    exact hy
  · have hy := hy.2 (Int.not_le.mp c)
    refine a_aload_n dX5_refresh_94 rfl ?_
    refine a_getR dX5_refresh_95 fl_Steps_22 sk_6 rfl ?_
    refine a_iload_n dX5_refresh_98 rfl ?_
    obtain ⟨c2, hy⟩ := hy
    refine a_aald dX5_refresh_99 sk_33 c2 ?_
    refine a_iload_n dX5_refresh_100 rfl ?_
    refine a_iconst (x := 0) dX5_refresh_101 rfl ⟨by decide, by decide⟩ ?_
    obtain ⟨c3, hy⟩ := hy
    refine a_iastR dX5_refresh_102 sk_33 (inb_ne c2) c3 ?_
    refine a_aload_n dX5_refresh_103 rfl ?_
    refine a_getR dX5_refresh_104 fl_Steps_11 sk_6 rfl ?_
    refine a_iload_n dX5_refresh_107 rfl ?_
    refine a_aald dX5_refresh_108 sk_30 c2 ?_
    refine a_iload_n dX5_refresh_109 rfl ?_
    refine a_ialdR' dX5_refresh_110 sk_30 (inb_ne c2) c3 (rR_ne (by decide)) ?_
    refine a_iconst (x := (-1)) dX5_refresh_111 rfl ⟨by decide, by decide⟩ ?_
    refine a_icmp_eq (tgt := 143) dX5_refresh_112 (by decide) (fun c => ?_) (fun c => ?_)
    · have hy := hy.1 c
      obtain ⟨c4, hy⟩ := hy
      refine a_iinc (y := v2 + 1) (ls2 := [some (vR 6 (-1)), some (vI v1), some (vI (v2 + 1))]) dX5_refresh_143 rfl rfl c4 rfl ?_
      refine a_goto (tgt := 83) dX5_refresh_146 (by decide) ?_
      exact hy
    · have hy := hy.2 (c)
      refine a_aload_n dX5_refresh_115 rfl ?_
      refine a_getR dX5_refresh_116 fl_Steps_39 sk_6 rfl ?_
      refine a_iload_n dX5_refresh_119 rfl ?_
      refine a_callVi (as := [vI v1]) (st := []) dX5_refresh_120 lk_Steps_95 sk_2 rfl rfl (Nat.le_of_ble_eq_true rfl) (Or.inr rfl) (Call.mono hy (fun r6 h5 _ hy => ?_))
      refine a_if_eq (tgt := 143) dX5_refresh_123 (by decide) (fun c => ?_) (fun c => ?_)
      · have hy := hy.1 c
        obtain ⟨c7, hy⟩ := hy
        refine a_iinc (y := v2 + 1) (ls2 := [some (vR 6 (-1)), some (vI v1), some (vI (v2 + 1))]) dX5_refresh_143 rfl rfl c7 rfl ?_
        refine a_goto (tgt := 83) dX5_refresh_146 (by decide) ?_
        exact hy
      · have hy := hy.2 (c)
        refine a_aload_n dX5_refresh_126 rfl ?_
        refine a_getR dX5_refresh_127 fl_Steps_39 sk_6 rfl ?_
        refine a_iload_n dX5_refresh_130 rfl ?_
        refine a_callVi (as := [vI v2]) (st := []) dX5_refresh_131 lk_Steps_95 sk_2 rfl rfl (Nat.le_of_ble_eq_true rfl) (Or.inr rfl) (Call.mono hy (fun r9 h8 _ hy => ?_))
        refine a_if_eq (tgt := 143) dX5_refresh_134 (by decide) (fun c => ?_) (fun c => ?_)
        · have hy := hy.1 c
          obtain ⟨c10, hy⟩ := hy
          refine a_iinc (y := v2 + 1) (ls2 := [some (vR 6 (-1)), some (vI v1), some (vI (v2 + 1))]) dX5_refresh_143 rfl rfl c10 rfl ?_
          refine a_goto (tgt := 83) dX5_refresh_146 (by decide) ?_
          exact hy
        · have hy := hy.2 (c)
          refine a_aload_n dX5_refresh_137 rfl ?_
          refine a_iload_n dX5_refresh_138 rfl ?_
          refine a_iload_n dX5_refresh_139 rfl ?_
          refine a_callVv (as := [vI v1, vI v2]) (st := []) dX5_refresh_140 lk_Steps_99 sk_6 rfl rfl (Nat.le_of_ble_eq_true rfl) rfl (Call.mono hy (fun _ h11 _ hy => ?_))
          obtain ⟨c12, hy⟩ := hy
          refine a_iinc (y := v2 + 1) (ls2 := [some (vR 6 (-1)), some (vI v1), some (vI (v2 + 1))]) dX5_refresh_143 rfl rfl c12 rfl ?_
          refine a_goto (tgt := 83) dX5_refresh_146 (by decide) ?_
          exact hy
theorem c_Steps_refresh {d : Nat} (d0 : Nat) (hd : d0 < d)  {h : AH} {Q : Int → AH → Prop} (hy : (((h.1 6 8) ≠ (h.1 2 9) → A_Steps_refresh_29 d0 Q  h) ∧ ((h.1 6 8) = (h.1 2 9) → (((h.1 6 9) ≠ (h.1 3 7) → A_Steps_refresh_29 d0 Q  h) ∧ ((h.1 6 9) = (h.1 3 7) → Q 0 h))))) : Call d M_Steps_refresh [vR 6 (-1)] h Q := by
  refine ⟨d0, hd, Big.of rfl (Nat.le_of_ble_eq_true rfl) ?_⟩
  show AW d0 M_Steps_refresh Q 0 [some (vR 6 (-1)), none, none] [] h
  refine a_aload_n dX5_refresh_0 rfl ?_
  refine a_getI' (kz := 8) dX5_refresh_1 fl_Steps_32 sk_6 rfl rfl (rfl) ?_
  refine a_aload_n dX5_refresh_4 rfl ?_
  refine a_getR dX5_refresh_5 fl_Steps_39 sk_6 rfl ?_
  refine a_getI' (kz := 9) dX5_refresh_8 fl_Steps_88 sk_2 rfl rfl (rfl) ?_
  refine a_icmp_ne (tgt := 29) dX5_refresh_11 (by decide) (fun c => ?_) (fun c => ?_)
  · have hy := hy.1 c
    exact hy
  · have hy := hy.2 (Decidable.not_not.mp c)
    refine a_aload_n dX5_refresh_14 rfl ?_
    refine a_getI' (kz := 9) dX5_refresh_15 fl_Steps_36 sk_6 rfl rfl (rfl) ?_
    refine a_aload_n dX5_refresh_18 rfl ?_
    refine a_getR dX5_refresh_19 fl_Steps_43 sk_6 rfl ?_
    refine a_getI' (kz := 7) dX5_refresh_22 fl_Steps_91 sk_3 rfl rfl (rfl) ?_
    refine a_icmp_ne (tgt := 29) dX5_refresh_25 (by decide) (fun c => ?_) (fun c => ?_)
    · have hy := hy.1 c
      exact hy
    · have hy := hy.2 (Decidable.not_not.mp c)
      exact a_vret dX5_refresh_28 rfl hy
theorem c_Steps_setChange {d : Nat} (d0 : Nat) (hd : d0 < d) {p1 : Int} {p2 : Int} {p3 : Int} {p4 : Int} {p5 : Int} {h : AH} {Q : Int → AH → Prop} (hy : inb p1 40 ∧ (inb p2 40 ∧ Q 0 (wR (wR (wR h 30 p1 p2 p3) 31 p1 p2 p4) 32 p1 p2 p5))) : Call d M_Steps_setChange [vR 6 (-1), vI p1, vI p2, vI p3, vI p4, vI p5] h Q := by
  refine ⟨d0, hd, Big.of rfl (Nat.le_of_ble_eq_true rfl) ?_⟩
  show AW d0 M_Steps_setChange Q 0 [some (vR 6 (-1)), some (vI p1), some (vI p2), some (vI p3), some (vI p4), some (vI p5)] [] h
  refine a_aload_n dX5_setChange_0 rfl ?_
  refine a_getR dX5_setChange_1 fl_Steps_11 sk_6 rfl ?_
  refine a_iload_n dX5_setChange_4 rfl ?_
  obtain ⟨c1, hy⟩ := hy
  refine a_aald dX5_setChange_5 sk_30 c1 ?_
  refine a_iload_n dX5_setChange_6 rfl ?_
  refine a_iload_n dX5_setChange_7 rfl ?_
  obtain ⟨c2, hy⟩ := hy
  refine a_iastR dX5_setChange_8 sk_30 (inb_ne c1) c2 ?_
  refine a_aload_n dX5_setChange_9 rfl ?_
  refine a_getR dX5_setChange_10 fl_Steps_16 sk_6 rfl ?_
  refine a_iload_n dX5_setChange_13 rfl ?_
  refine a_aald dX5_setChange_14 sk_31 c1 ?_
  refine a_iload_n dX5_setChange_15 rfl ?_
  refine a_iload dX5_setChange_16 rfl ?_
  refine a_iastR dX5_setChange_18 sk_31 (inb_ne c1) c2 ?_
  refine a_aload_n dX5_setChange_19 rfl ?_
  refine a_getR dX5_setChange_20 fl_Steps_19 sk_6 rfl ?_
  refine a_iload_n dX5_setChange_23 rfl ?_
  refine a_aald dX5_setChange_24 sk_32 c1 ?_
  refine a_iload_n dX5_setChange_25 rfl ?_
  refine a_iload dX5_setChange_26 rfl ?_
  refine a_iastR dX5_setChange_28 sk_32 (inb_ne c1) c2 ?_
  exact a_vret dX5_setChange_29 rfl hy

theorem c_Spelling_apart {d : Nat} (d0 : Nat) (hd : d0 < d) {p1 : Int} {p2 : Int} {h : AH} {Q : Int → AH → Prop} (hy : inb p1 40 ∧ (Call d0 M_Spelling_apartFrom [vR 9 (-1), vR 14 p1, vI (h.1 15 p1), vI p2] h (fun r3 h2 => Q r3 h2))) : Call d M_Spelling_apart [vR 9 (-1), vI p1, vI p2] h Q := by
  refine ⟨d0, hd, Big.of rfl (Nat.le_of_ble_eq_true rfl) ?_⟩
  show AW d0 M_Spelling_apart Q 0 [some (vR 9 (-1)), some (vI p1), some (vI p2)] [] h
  refine a_aload_n dX3_apart_0 rfl ?_
  refine a_aload_n dX3_apart_1 rfl ?_
  refine a_getR dX3_apart_2 fl_Spelling_18 sk_9 rfl ?_
  refine a_getR dX3_apart_5 fl_Spelling_26 sk_2 rfl ?_
  refine a_iload_n dX3_apart_8 rfl ?_
  obtain ⟨c1, hy⟩ := hy
  refine a_aald dX3_apart_9 sk_14 c1 ?_
  refine a_aload_n dX3_apart_10 rfl ?_
  refine a_getR dX3_apart_11 fl_Spelling_18 sk_9 rfl ?_
  refine a_getR dX3_apart_14 fl_Spelling_32 sk_2 rfl ?_
  refine a_iload_n dX3_apart_17 rfl ?_
  refine a_iald' dX3_apart_18 sk_15 c1 (rfl) ?_
  refine a_iload_n dX3_apart_19 rfl ?_
  refine a_callVi (as := [vR 14 p1, vI (h.1 15 p1), vI p2]) (st := []) dX3_apart_20 lk_Spelling_35 sk_9 rfl rfl (Nat.le_of_ble_eq_true rfl) (Or.inl rfl) (Call.mono hy (fun r3 h2 _ hy => ?_))
  exact a_iret dX3_apart_23 rfl hy
def A_Spelling_apartFrom_w_25 (d : Nat) (Q : Int → AH → Prop) (r1 : Int) (p2 : Int) (r4 : Int) (v5 : Int) (v6 : Int) (h : AH) : Prop := AW d M_Spelling_apartFrom Q 25 [some (vR 9 (-1)), some (vR 14 r1), some (vI p2), none, some (vR 14 r4), some (vI v5), some (vI v6), none, none, none] [] h
def A_Spelling_apartFrom_w_57 (d : Nat) (Q : Int → AH → Prop) (r1 : Int) (p2 : Int) (r4 : Int) (v5 : Int) (v6 : Int) (h : AH) : Prop := AW d M_Spelling_apartFrom Q 57 [some (vR 9 (-1)), some (vR 14 r1), some (vI p2), none, some (vR 14 r4), some (vI v5), some (vI v6), none, none, none] [] h
def A_Spelling_apartFrom_w_91 (d : Nat) (Q : Int → AH → Prop) (r1 : Int) (p2 : Int) (r4 : Int) (v5 : Int) (v6 : Int) (v7 : Int) (v8 : Int) (h : AH) : Prop := AW d M_Spelling_apartFrom Q 91 [some (vR 9 (-1)), some (vR 14 r1), some (vI p2), none, some (vR 14 r4), some (vI v5), some (vI v6), some (vI v7), some (vI v8), none] [] h
def A_Spelling_apartFrom_w_128 (d : Nat) (Q : Int → AH → Prop) (r1 : Int) (p2 : Int) (r4 : Int) (v5 : Int) (v6 : Int) (v8 : Int) (s0 : Int) (h : AH) : Prop := AW d M_Spelling_apartFrom Q 128 [some (vR 9 (-1)), some (vR 14 r1), some (vI p2), none, some (vR 14 r4), some (vI v5), some (vI v6), none, some (vI v8), none] [vI s0] h
theorem s_Spelling_apartFrom_w_25 {d : Nat} {Q : Int → AH → Prop} {r1 : Int} {p2 : Int} {r4 : Int} {v5 : Int} {v6 : Int} {h : AH} (hy : ((v5 < v6 → A_Spelling_apartFrom_w_57 d Q r1 p2 r4 v5 0 h) ∧ (v6 ≤ v5 → ((8 < v6 → A_Spelling_apartFrom_w_57 d Q r1 p2 r4 v5 0 h) ∧ (v6 ≤ 8 → (inb v6 9 ∧ (inI (v6 + 1) ∧ A_Spelling_apartFrom_w_25 d Q r1 p2 r4 v5 (v6 + 1) (wI h 47 v6 v6)))))))) : A_Spelling_apartFrom_w_25 d Q r1 p2 r4 v5 v6 h := by
  show AW d M_Spelling_apartFrom Q 25 [some (vR 9 (-1)), some (vR 14 r1), some (vI p2), none, some (vR 14 r4), some (vI v5), some (vI v6), none, none, none] [] h
  refine a_iload dX3_apartFrom_25 rfl ?_
  refine a_iload dX3_apartFrom_27 rfl ?_
  refine a_icmp_gt (tgt := 54) dX3_apartFrom_29 (by decide) (fun c => ?_) (fun c => ?_)
  · have hy := hy.1 c
    refine a_iconst (x := 0) dX3_apartFrom_54 rfl ⟨by decide, by decide⟩ ?_
    refine a_istore (ls2 := [some (vR 9 (-1)), some (vR 14 r1), some (vI p2), none, some (vR 14 r4), some (vI v5), some (vI 0), none, none, none]) dX3_apartFrom_55 (Nat.le_of_ble_eq_true rfl) rfl ?_
    exact hy
  · have hy := hy.2 (Int.not_lt.mp c)
    refine a_iload dX3_apartFrom_32 rfl ?_
    refine a_bipush (x := 8) dX3_apartFrom_34 (by decide) ⟨by decide, by decide⟩ ?_
    refine a_icmp_gt (tgt := 54) dX3_apartFrom_36 (by decide) (fun c => ?_) (fun c => ?_)
    · have hy := hy.1 c
      refine a_iconst (x := 0) dX3_apartFrom_54 rfl ⟨by decide, by decide⟩ ?_
      refine a_istore (ls2 := [some (vR 9 (-1)), some (vR 14 r1), some (vI p2), none, some (vR 14 r4), some (vI v5), some (vI 0), none, none, none]) dX3_apartFrom_55 (Nat.le_of_ble_eq_true rfl) rfl ?_
      exact hy
    · have hy := hy.2 (Int.not_lt.mp c)
      refine a_aload_n dX3_apartFrom_39 rfl ?_
      refine a_getR dX3_apartFrom_40 fl_Spelling_15 sk_9 rfl ?_
      refine a_iload dX3_apartFrom_43 rfl ?_
      refine a_iload dX3_apartFrom_45 rfl ?_
      obtain ⟨c1, hy⟩ := hy
      refine a_iast dX3_apartFrom_47 sk_47 c1 ?_
      obtain ⟨c2, hy⟩ := hy
      refine a_iinc (y := v6 + 1) (ls2 := [some (vR 9 (-1)), some (vR 14 r1), some (vI p2), none, some (vR 14 r4), some (vI v5), some (vI (v6 + 1)), none, none, none]) dX3_apartFrom_48 rfl rfl c2 rfl ?_
      refine a_goto (tgt := 25) dX3_apartFrom_51 (by decide) ?_
      exact hy
theorem s_Spelling_apartFrom_w_57 {d : Nat} {Q : Int → AH → Prop} {r1 : Int} {p2 : Int} {r4 : Int} {v5 : Int} {v6 : Int} {h : AH} (hy : ((p2 ≤ v6 → (inb v5 9 ∧ Q (h.1 47 v5) h)) ∧ (v6 < p2 → (inb r1 40 ∧ ((8 ≤ v6 → (inb v5 9 ∧ Q (h.1 47 v5) h)) ∧ (v6 < 8 → (inI (v6 + 1) ∧ A_Spelling_apartFrom_w_91 d Q r1 p2 r4 v5 v6 (h.1 47 0) 1 (wI h 47 0 (v6 + 1))))))))) : A_Spelling_apartFrom_w_57 d Q r1 p2 r4 v5 v6 h := by
  show AW d M_Spelling_apartFrom Q 57 [some (vR 9 (-1)), some (vR 14 r1), some (vI p2), none, some (vR 14 r4), some (vI v5), some (vI v6), none, none, none] [] h
  refine a_iload dX3_apartFrom_57 rfl ?_
  refine a_iload_n dX3_apartFrom_59 rfl ?_
  refine a_icmp_ge (tgt := 179) dX3_apartFrom_60 (by decide) (fun c => ?_) (fun c => ?_)
  · have hy := hy.1 c
    refine a_aload_n dX3_apartFrom_179 rfl ?_
    refine a_getR dX3_apartFrom_180 fl_Spelling_15 sk_9 rfl ?_
    refine a_iload dX3_apartFrom_183 rfl ?_
    obtain ⟨c1, hy⟩ := hy
    refine a_iald' dX3_apartFrom_185 sk_47 c1 (rfl) ?_
    exact a_iret dX3_apartFrom_186 rfl hy
  · have hy := hy.2 (Int.not_le.mp c)
    refine a_iload dX3_apartFrom_63 rfl ?_
    refine a_aload_n dX3_apartFrom_65 rfl ?_
    obtain ⟨c2, hy⟩ := hy
    refine a_alen' (t := 0) (x := 8) dX3_apartFrom_66 (by decide) (Or.inr ⟨rfl, (inb_ne c2), _, sk_14⟩) (by decide) rfl ?_
    refine a_icmp_ge (tgt := 179) dX3_apartFrom_67 (by decide) (fun c => ?_) (fun c => ?_)
    · have hy := hy.1 c
      refine a_aload_n dX3_apartFrom_179 rfl ?_
      refine a_getR dX3_apartFrom_180 fl_Spelling_15 sk_9 rfl ?_
      refine a_iload dX3_apartFrom_183 rfl ?_
      obtain ⟨c3, hy⟩ := hy
      refine a_iald' dX3_apartFrom_185 sk_47 c3 (rfl) ?_
      exact a_iret dX3_apartFrom_186 rfl hy
    · have hy := hy.2 (Int.not_le.mp c)
      refine a_aload_n dX3_apartFrom_70 rfl ?_
      refine a_getR dX3_apartFrom_71 fl_Spelling_15 sk_9 rfl ?_
      refine a_iconst (x := 0) dX3_apartFrom_74 rfl ⟨by decide, by decide⟩ ?_
      refine a_iald' dX3_apartFrom_75 sk_47 ⟨by decide, by decide⟩ (rfl) ?_
      refine a_istore (ls2 := [some (vR 9 (-1)), some (vR 14 r1), some (vI p2), none, some (vR 14 r4), some (vI v5), some (vI v6), some (vI (h.1 47 0)), none, none]) dX3_apartFrom_76 (Nat.le_of_ble_eq_true rfl) rfl ?_
      refine a_aload_n dX3_apartFrom_78 rfl ?_
      refine a_getR dX3_apartFrom_79 fl_Spelling_15 sk_9 rfl ?_
      refine a_iconst (x := 0) dX3_apartFrom_82 rfl ⟨by decide, by decide⟩ ?_
      refine a_iload dX3_apartFrom_83 rfl ?_
      refine a_iconst (x := 1) dX3_apartFrom_85 rfl ⟨by decide, by decide⟩ ?_
      obtain ⟨c4, hy⟩ := hy
      refine a_iadd dX3_apartFrom_86 c4 ?_
      refine a_iast dX3_apartFrom_87 sk_47 ⟨by decide, by decide⟩ ?_
      refine a_iconst (x := 1) dX3_apartFrom_88 rfl ⟨by decide, by decide⟩ ?_
      refine a_istore (ls2 := [some (vR 9 (-1)), some (vR 14 r1), some (vI p2), none, some (vR 14 r4), some (vI v5), some (vI v6), some (vI (h.1 47 0)), some (vI 1), none]) dX3_apartFrom_89 (Nat.le_of_ble_eq_true rfl) rfl ?_
      exact hy
theorem s_Spelling_apartFrom_w_91 {d : Nat} {Q : Int → AH → Prop} {r1 : Int} {p2 : Int} {r4 : Int} {v5 : Int} {v6 : Int} {v7 : Int} {v8 : Int} {h : AH} (hy : ((v5 < v8 → (inI (v6 + 1) ∧ A_Spelling_apartFrom_w_57 d Q r1 p2 r4 v5 (v6 + 1) h)) ∧ (v8 ≤ v5 → ((8 < v8 → (inI (v6 + 1) ∧ A_Spelling_apartFrom_w_57 d Q r1 p2 r4 v5 (v6 + 1) h)) ∧ (v8 ≤ 8 → (inb v6 8 ∧ inb r1 40 ∧ (inI (v8 - 1) ∧ (inb (v8 - 1) 8 ∧ inb r4 40 ∧ (((h.2.2 14 r1 v6) ≠ (h.2.2 14 r4 (v8 - 1)) → (inI (v7 + 1) ∧ A_Spelling_apartFrom_w_128 d Q r1 p2 r4 v5 v6 v8 (v7 + 1) h)) ∧ ((h.2.2 14 r1 v6) = (h.2.2 14 r4 (v8 - 1)) → A_Spelling_apartFrom_w_128 d Q r1 p2 r4 v5 v6 v8 v7 h)))))))))) : A_Spelling_apartFrom_w_91 d Q r1 p2 r4 v5 v6 v7 v8 h := by
  show AW d M_Spelling_apartFrom Q 91 [some (vR 9 (-1)), some (vR 14 r1), some (vI p2), none, some (vR 14 r4), some (vI v5), some (vI v6), some (vI v7), some (vI v8), none] [] h
  refine a_iload dX3_apartFrom_91 rfl ?_
  refine a_iload dX3_apartFrom_93 rfl ?_
  refine a_icmp_gt (tgt := 173) dX3_apartFrom_95 (by decide) (fun c => ?_) (fun c => ?_)
  · have hy := hy.1 c
    obtain ⟨c1, hy⟩ := hy
    refine a_iinc (y := v6 + 1) (ls2 := [some (vR 9 (-1)), some (vR 14 r1), some (vI p2), none, some (vR 14 r4), some (vI v5), some (vI (v6 + 1)), some (vI v7), some (vI v8), none]) dX3_apartFrom_173 rfl rfl c1 rfl ?_
    refine a_goto (tgt := 57) dX3_apartFrom_176 (by decide) ?_
    refine a_mask [true, true, true, true, true, true, true, false, false, true] (ls2 := [some (vR 9 (-1)), some (vR 14 r1), some (vI p2), none, some (vR 14 r4), some (vI v5), some (vI (v6 + 1)), none, none, none]) rfl rfl ?_
    exact hy
  · have hy := hy.2 (Int.not_lt.mp c)
    refine a_iload dX3_apartFrom_98 rfl ?_
    refine a_bipush (x := 8) dX3_apartFrom_100 (by decide) ⟨by decide, by decide⟩ ?_
    refine a_icmp_gt (tgt := 173) dX3_apartFrom_102 (by decide) (fun c => ?_) (fun c => ?_)
    · have hy := hy.1 c
      obtain ⟨c2, hy⟩ := hy
      refine a_iinc (y := v6 + 1) (ls2 := [some (vR 9 (-1)), some (vR 14 r1), some (vI p2), none, some (vR 14 r4), some (vI v5), some (vI (v6 + 1)), some (vI v7), some (vI v8), none]) dX3_apartFrom_173 rfl rfl c2 rfl ?_
      refine a_goto (tgt := 57) dX3_apartFrom_176 (by decide) ?_
      refine a_mask [true, true, true, true, true, true, true, false, false, true] (ls2 := [some (vR 9 (-1)), some (vR 14 r1), some (vI p2), none, some (vR 14 r4), some (vI v5), some (vI (v6 + 1)), none, none, none]) rfl rfl ?_
      exact hy
    · have hy := hy.2 (Int.not_lt.mp c)
      refine a_aload_n dX3_apartFrom_105 rfl ?_
      refine a_iload dX3_apartFrom_106 rfl ?_
      obtain ⟨c3, hy⟩ := hy
      obtain ⟨c4, hy⟩ := hy
      refine a_ialdR' dX3_apartFrom_108 sk_14 (inb_ne c4) c3 (rfl) ?_
      refine a_aload dX3_apartFrom_109 rfl ?_
      refine a_iload dX3_apartFrom_111 rfl ?_
      refine a_iconst (x := 1) dX3_apartFrom_113 rfl ⟨by decide, by decide⟩ ?_
      obtain ⟨c5, hy⟩ := hy
      refine a_isub dX3_apartFrom_114 c5 ?_
      obtain ⟨c6, hy⟩ := hy
      obtain ⟨c7, hy⟩ := hy
      refine a_ialdR' dX3_apartFrom_115 sk_14 (inb_ne c7) c6 (rfl) ?_
      refine a_icmp_ne (tgt := 124) dX3_apartFrom_116 (by decide) (fun c => ?_) (fun c => ?_)
      · have hy := hy.1 c
        refine a_iload dX3_apartFrom_124 rfl ?_
        refine a_iconst (x := 1) dX3_apartFrom_126 rfl ⟨by decide, by decide⟩ ?_
        obtain ⟨c8, hy⟩ := hy
        refine a_iadd dX3_apartFrom_127 c8 ?_
        refine a_mask [true, true, true, true, true, true, true, false, true, true] (ls2 := [some (vR 9 (-1)), some (vR 14 r1), some (vI p2), none, some (vR 14 r4), some (vI v5), some (vI v6), none, some (vI v8), none]) rfl rfl ?_
        exact hy
      · have hy := hy.2 (Decidable.not_not.mp c)
        refine a_iload dX3_apartFrom_119 rfl ?_
        refine a_goto (tgt := 128) dX3_apartFrom_121 (by decide) ?_
        refine a_mask [true, true, true, true, true, true, true, false, true, true] (ls2 := [some (vR 9 (-1)), some (vR 14 r1), some (vI p2), none, some (vR 14 r4), some (vI v5), some (vI v6), none, some (vI v8), none]) rfl rfl ?_
        exact hy
theorem s_Spelling_apartFrom_w_128 {d : Nat} {Q : Int → AH → Prop} {r1 : Int} {p2 : Int} {r4 : Int} {v5 : Int} {v6 : Int} {v8 : Int} {s0 : Int} {h : AH} (hy : inb v8 9 ∧ (inI (v8 - 1) ∧ (inb (v8 - 1) 9 ∧ (1 ≤ d ∧ (inI (1 + (min (h.1 47 v8) (h.1 47 (v8 - 1)))) ∧ (inI (v8 + 1) ∧ A_Spelling_apartFrom_w_91 d Q r1 p2 r4 v5 v6 (h.1 47 v8) (v8 + 1) (wI h 47 v8 (min s0 (1 + (min (h.1 47 v8) (h.1 47 (v8 - 1)))))))))))) : A_Spelling_apartFrom_w_128 d Q r1 p2 r4 v5 v6 v8 s0 h := by
  show AW d M_Spelling_apartFrom Q 128 [some (vR 9 (-1)), some (vR 14 r1), some (vI p2), none, some (vR 14 r4), some (vI v5), some (vI v6), none, some (vI v8), none] [vI s0] h
  refine a_istore (ls2 := [some (vR 9 (-1)), some (vR 14 r1), some (vI p2), none, some (vR 14 r4), some (vI v5), some (vI v6), none, some (vI v8), some (vI s0)]) dX3_apartFrom_128 (Nat.le_of_ble_eq_true rfl) rfl ?_
  refine a_aload_n dX3_apartFrom_130 rfl ?_
  refine a_getR dX3_apartFrom_131 fl_Spelling_15 sk_9 rfl ?_
  refine a_iload dX3_apartFrom_134 rfl ?_
  obtain ⟨c1, hy⟩ := hy
  refine a_iald' dX3_apartFrom_136 sk_47 c1 (rfl) ?_
  refine a_istore (ls2 := [some (vR 9 (-1)), some (vR 14 r1), some (vI p2), none, some (vR 14 r4), some (vI v5), some (vI v6), some (vI (h.1 47 v8)), some (vI v8), some (vI s0)]) dX3_apartFrom_137 (Nat.le_of_ble_eq_true rfl) rfl ?_
  refine a_aload_n dX3_apartFrom_139 rfl ?_
  refine a_getR dX3_apartFrom_140 fl_Spelling_15 sk_9 rfl ?_
  refine a_iload dX3_apartFrom_143 rfl ?_
  refine a_iload dX3_apartFrom_145 rfl ?_
  refine a_iconst (x := 1) dX3_apartFrom_147 rfl ⟨by decide, by decide⟩ ?_
  refine a_iload dX3_apartFrom_148 rfl ?_
  refine a_aload_n dX3_apartFrom_150 rfl ?_
  refine a_getR dX3_apartFrom_151 fl_Spelling_15 sk_9 rfl ?_
  refine a_iload dX3_apartFrom_154 rfl ?_
  refine a_iconst (x := 1) dX3_apartFrom_156 rfl ⟨by decide, by decide⟩ ?_
  obtain ⟨c2, hy⟩ := hy
  refine a_isub dX3_apartFrom_157 c2 ?_
  obtain ⟨c3, hy⟩ := hy
  refine a_iald' dX3_apartFrom_158 sk_47 c3 (rfl) ?_
  obtain ⟨c4, hy⟩ := hy
  refine a_mmin' dX3_apartFrom_159 ml_Spelling_39 c4 (Nat.le_of_ble_eq_true rfl) ?_
  obtain ⟨c5, hy⟩ := hy
  refine a_iadd dX3_apartFrom_162 c5 ?_
  refine a_mmin' dX3_apartFrom_163 ml_Spelling_39 c4 (Nat.le_of_ble_eq_true rfl) ?_
  refine a_iast dX3_apartFrom_166 sk_47 c1 ?_
  obtain ⟨c6, hy⟩ := hy
  refine a_iinc (y := v8 + 1) (ls2 := [some (vR 9 (-1)), some (vR 14 r1), some (vI p2), none, some (vR 14 r4), some (vI v5), some (vI v6), some (vI (h.1 47 v8)), some (vI (v8 + 1)), some (vI s0)]) dX3_apartFrom_167 rfl rfl c6 rfl ?_
  refine a_goto (tgt := 91) dX3_apartFrom_170 (by decide) ?_
  refine a_mask [true, true, true, true, true, true, true, true, true, false] (ls2 := [some (vR 9 (-1)), some (vR 14 r1), some (vI p2), none, some (vR 14 r4), some (vI v5), some (vI v6), some (vI (h.1 47 v8)), some (vI (v8 + 1)), none]) rfl rfl ?_
  exact hy
theorem c_Spelling_apartFrom_w {d : Nat} (d0 : Nat) (hd : d0 < d) {r1 : Int} {p2 : Int} {p3 : Int} {h : AH} {Q : Int → AH → Prop} (hy : inb p3 40 ∧ A_Spelling_apartFrom_w_25 d0 Q r1 p2 p3 (h.1 15 p3) 0 h) : Call d M_Spelling_apartFrom [vR 9 (-1), vR 14 r1, vI p2, vI p3] h Q := by
  refine ⟨d0, hd, Big.of rfl (Nat.le_of_ble_eq_true rfl) ?_⟩
  show AW d0 M_Spelling_apartFrom Q 0 [some (vR 9 (-1)), some (vR 14 r1), some (vI p2), some (vI p3), none, none, none, none, none, none] [] h
  refine a_aload_n dX3_apartFrom_0 rfl ?_
  refine a_getR dX3_apartFrom_1 fl_Spelling_18 sk_9 rfl ?_
  refine a_getR dX3_apartFrom_4 fl_Spelling_26 sk_2 rfl ?_
  refine a_iload_n dX3_apartFrom_7 rfl ?_
  obtain ⟨c1, hy⟩ := hy
  refine a_aald dX3_apartFrom_8 sk_14 c1 ?_
  refine a_astore (ls2 := [some (vR 9 (-1)), some (vR 14 r1), some (vI p2), some (vI p3), some (vR 14 p3), none, none, none, none, none]) dX3_apartFrom_9 (Nat.le_of_ble_eq_true rfl) rfl ?_
  refine a_aload_n dX3_apartFrom_11 rfl ?_
  refine a_getR dX3_apartFrom_12 fl_Spelling_18 sk_9 rfl ?_
  refine a_getR dX3_apartFrom_15 fl_Spelling_32 sk_2 rfl ?_
  refine a_iload_n dX3_apartFrom_18 rfl ?_
  refine a_iald' dX3_apartFrom_19 sk_15 c1 (rfl) ?_
  refine a_istore (ls2 := [some (vR 9 (-1)), some (vR 14 r1), some (vI p2), some (vI p3), some (vR 14 p3), some (vI (h.1 15 p3)), none, none, none, none]) dX3_apartFrom_20 (Nat.le_of_ble_eq_true rfl) rfl ?_
  refine a_iconst (x := 0) dX3_apartFrom_22 rfl ⟨by decide, by decide⟩ ?_
  refine a_istore (ls2 := [some (vR 9 (-1)), some (vR 14 r1), some (vI p2), some (vI p3), some (vR 14 p3), some (vI (h.1 15 p3)), some (vI 0), none, none, none]) dX3_apartFrom_23 (Nat.le_of_ble_eq_true rfl) rfl ?_
  refine a_mask [true, true, true, false, true, true, true, true, true, true] (ls2 := [some (vR 9 (-1)), some (vR 14 r1), some (vI p2), none, some (vR 14 p3), some (vI (h.1 15 p3)), some (vI 0), none, none, none]) rfl rfl ?_
  exact hy
def A_Spelling_apartFrom_t_25 (d : Nat) (Q : Int → AH → Prop) (p2 : Int) (r4 : Int) (v5 : Int) (v6 : Int) (h : AH) : Prop := AW d M_Spelling_apartFrom Q 25 [some (vR 9 (-1)), some (vR 46 (-1)), some (vI p2), none, some (vR 14 r4), some (vI v5), some (vI v6), none, none, none] [] h
def A_Spelling_apartFrom_t_57 (d : Nat) (Q : Int → AH → Prop) (p2 : Int) (r4 : Int) (v5 : Int) (v6 : Int) (h : AH) : Prop := AW d M_Spelling_apartFrom Q 57 [some (vR 9 (-1)), some (vR 46 (-1)), some (vI p2), none, some (vR 14 r4), some (vI v5), some (vI v6), none, none, none] [] h
def A_Spelling_apartFrom_t_91 (d : Nat) (Q : Int → AH → Prop) (p2 : Int) (r4 : Int) (v5 : Int) (v6 : Int) (v7 : Int) (v8 : Int) (h : AH) : Prop := AW d M_Spelling_apartFrom Q 91 [some (vR 9 (-1)), some (vR 46 (-1)), some (vI p2), none, some (vR 14 r4), some (vI v5), some (vI v6), some (vI v7), some (vI v8), none] [] h
def A_Spelling_apartFrom_t_128 (d : Nat) (Q : Int → AH → Prop) (p2 : Int) (r4 : Int) (v5 : Int) (v6 : Int) (v8 : Int) (s0 : Int) (h : AH) : Prop := AW d M_Spelling_apartFrom Q 128 [some (vR 9 (-1)), some (vR 46 (-1)), some (vI p2), none, some (vR 14 r4), some (vI v5), some (vI v6), none, some (vI v8), none] [vI s0] h
theorem s_Spelling_apartFrom_t_25 {d : Nat} {Q : Int → AH → Prop} {p2 : Int} {r4 : Int} {v5 : Int} {v6 : Int} {h : AH} (hy : ((v5 < v6 → A_Spelling_apartFrom_t_57 d Q p2 r4 v5 0 h) ∧ (v6 ≤ v5 → ((8 < v6 → A_Spelling_apartFrom_t_57 d Q p2 r4 v5 0 h) ∧ (v6 ≤ 8 → (inb v6 9 ∧ (inI (v6 + 1) ∧ A_Spelling_apartFrom_t_25 d Q p2 r4 v5 (v6 + 1) (wI h 47 v6 v6)))))))) : A_Spelling_apartFrom_t_25 d Q p2 r4 v5 v6 h := by
  show AW d M_Spelling_apartFrom Q 25 [some (vR 9 (-1)), some (vR 46 (-1)), some (vI p2), none, some (vR 14 r4), some (vI v5), some (vI v6), none, none, none] [] h
  refine a_iload dX3_apartFrom_25 rfl ?_
  refine a_iload dX3_apartFrom_27 rfl ?_
  refine a_icmp_gt (tgt := 54) dX3_apartFrom_29 (by decide) (fun c => ?_) (fun c => ?_)
  · have hy := hy.1 c
    refine a_iconst (x := 0) dX3_apartFrom_54 rfl ⟨by decide, by decide⟩ ?_
    refine a_istore (ls2 := [some (vR 9 (-1)), some (vR 46 (-1)), some (vI p2), none, some (vR 14 r4), some (vI v5), some (vI 0), none, none, none]) dX3_apartFrom_55 (Nat.le_of_ble_eq_true rfl) rfl ?_
    exact hy
  · have hy := hy.2 (Int.not_lt.mp c)
    refine a_iload dX3_apartFrom_32 rfl ?_
    refine a_bipush (x := 8) dX3_apartFrom_34 (by decide) ⟨by decide, by decide⟩ ?_
    refine a_icmp_gt (tgt := 54) dX3_apartFrom_36 (by decide) (fun c => ?_) (fun c => ?_)
    · have hy := hy.1 c
      refine a_iconst (x := 0) dX3_apartFrom_54 rfl ⟨by decide, by decide⟩ ?_
      refine a_istore (ls2 := [some (vR 9 (-1)), some (vR 46 (-1)), some (vI p2), none, some (vR 14 r4), some (vI v5), some (vI 0), none, none, none]) dX3_apartFrom_55 (Nat.le_of_ble_eq_true rfl) rfl ?_
      exact hy
    · have hy := hy.2 (Int.not_lt.mp c)
      refine a_aload_n dX3_apartFrom_39 rfl ?_
      refine a_getR dX3_apartFrom_40 fl_Spelling_15 sk_9 rfl ?_
      refine a_iload dX3_apartFrom_43 rfl ?_
      refine a_iload dX3_apartFrom_45 rfl ?_
      obtain ⟨c1, hy⟩ := hy
      refine a_iast dX3_apartFrom_47 sk_47 c1 ?_
      obtain ⟨c2, hy⟩ := hy
      refine a_iinc (y := v6 + 1) (ls2 := [some (vR 9 (-1)), some (vR 46 (-1)), some (vI p2), none, some (vR 14 r4), some (vI v5), some (vI (v6 + 1)), none, none, none]) dX3_apartFrom_48 rfl rfl c2 rfl ?_
      refine a_goto (tgt := 25) dX3_apartFrom_51 (by decide) ?_
      exact hy
theorem s_Spelling_apartFrom_t_57 {d : Nat} {Q : Int → AH → Prop} {p2 : Int} {r4 : Int} {v5 : Int} {v6 : Int} {h : AH} (hy : ((p2 ≤ v6 → (inb v5 9 ∧ Q (h.1 47 v5) h)) ∧ (v6 < p2 → ((12 ≤ v6 → (inb v5 9 ∧ Q (h.1 47 v5) h)) ∧ (v6 < 12 → (inI (v6 + 1) ∧ A_Spelling_apartFrom_t_91 d Q p2 r4 v5 v6 (h.1 47 0) 1 (wI h 47 0 (v6 + 1)))))))) : A_Spelling_apartFrom_t_57 d Q p2 r4 v5 v6 h := by
  show AW d M_Spelling_apartFrom Q 57 [some (vR 9 (-1)), some (vR 46 (-1)), some (vI p2), none, some (vR 14 r4), some (vI v5), some (vI v6), none, none, none] [] h
  refine a_iload dX3_apartFrom_57 rfl ?_
  refine a_iload_n dX3_apartFrom_59 rfl ?_
  refine a_icmp_ge (tgt := 179) dX3_apartFrom_60 (by decide) (fun c => ?_) (fun c => ?_)
  · have hy := hy.1 c
    refine a_aload_n dX3_apartFrom_179 rfl ?_
    refine a_getR dX3_apartFrom_180 fl_Spelling_15 sk_9 rfl ?_
    refine a_iload dX3_apartFrom_183 rfl ?_
    obtain ⟨c1, hy⟩ := hy
    refine a_iald' dX3_apartFrom_185 sk_47 c1 (rfl) ?_
    exact a_iret dX3_apartFrom_186 rfl hy
  · have hy := hy.2 (Int.not_le.mp c)
    refine a_iload dX3_apartFrom_63 rfl ?_
    refine a_aload_n dX3_apartFrom_65 rfl ?_
    refine a_alen' (t := 0) (x := 12) dX3_apartFrom_66 (by decide) (Or.inl ⟨rfl, _, sk_46⟩) (by decide) rfl ?_
    refine a_icmp_ge (tgt := 179) dX3_apartFrom_67 (by decide) (fun c => ?_) (fun c => ?_)
    · have hy := hy.1 c
      refine a_aload_n dX3_apartFrom_179 rfl ?_
      refine a_getR dX3_apartFrom_180 fl_Spelling_15 sk_9 rfl ?_
      refine a_iload dX3_apartFrom_183 rfl ?_
      obtain ⟨c2, hy⟩ := hy
      refine a_iald' dX3_apartFrom_185 sk_47 c2 (rfl) ?_
      exact a_iret dX3_apartFrom_186 rfl hy
    · have hy := hy.2 (Int.not_le.mp c)
      refine a_aload_n dX3_apartFrom_70 rfl ?_
      refine a_getR dX3_apartFrom_71 fl_Spelling_15 sk_9 rfl ?_
      refine a_iconst (x := 0) dX3_apartFrom_74 rfl ⟨by decide, by decide⟩ ?_
      refine a_iald' dX3_apartFrom_75 sk_47 ⟨by decide, by decide⟩ (rfl) ?_
      refine a_istore (ls2 := [some (vR 9 (-1)), some (vR 46 (-1)), some (vI p2), none, some (vR 14 r4), some (vI v5), some (vI v6), some (vI (h.1 47 0)), none, none]) dX3_apartFrom_76 (Nat.le_of_ble_eq_true rfl) rfl ?_
      refine a_aload_n dX3_apartFrom_78 rfl ?_
      refine a_getR dX3_apartFrom_79 fl_Spelling_15 sk_9 rfl ?_
      refine a_iconst (x := 0) dX3_apartFrom_82 rfl ⟨by decide, by decide⟩ ?_
      refine a_iload dX3_apartFrom_83 rfl ?_
      refine a_iconst (x := 1) dX3_apartFrom_85 rfl ⟨by decide, by decide⟩ ?_
      obtain ⟨c3, hy⟩ := hy
      refine a_iadd dX3_apartFrom_86 c3 ?_
      refine a_iast dX3_apartFrom_87 sk_47 ⟨by decide, by decide⟩ ?_
      refine a_iconst (x := 1) dX3_apartFrom_88 rfl ⟨by decide, by decide⟩ ?_
      refine a_istore (ls2 := [some (vR 9 (-1)), some (vR 46 (-1)), some (vI p2), none, some (vR 14 r4), some (vI v5), some (vI v6), some (vI (h.1 47 0)), some (vI 1), none]) dX3_apartFrom_89 (Nat.le_of_ble_eq_true rfl) rfl ?_
      exact hy
theorem s_Spelling_apartFrom_t_91 {d : Nat} {Q : Int → AH → Prop} {p2 : Int} {r4 : Int} {v5 : Int} {v6 : Int} {v7 : Int} {v8 : Int} {h : AH} (hy : ((v5 < v8 → (inI (v6 + 1) ∧ A_Spelling_apartFrom_t_57 d Q p2 r4 v5 (v6 + 1) h)) ∧ (v8 ≤ v5 → ((8 < v8 → (inI (v6 + 1) ∧ A_Spelling_apartFrom_t_57 d Q p2 r4 v5 (v6 + 1) h)) ∧ (v8 ≤ 8 → (inb v6 12 ∧ (inI (v8 - 1) ∧ (inb (v8 - 1) 8 ∧ inb r4 40 ∧ (((h.1 46 v6) ≠ (h.2.2 14 r4 (v8 - 1)) → (inI (v7 + 1) ∧ A_Spelling_apartFrom_t_128 d Q p2 r4 v5 v6 v8 (v7 + 1) h)) ∧ ((h.1 46 v6) = (h.2.2 14 r4 (v8 - 1)) → A_Spelling_apartFrom_t_128 d Q p2 r4 v5 v6 v8 v7 h)))))))))) : A_Spelling_apartFrom_t_91 d Q p2 r4 v5 v6 v7 v8 h := by
  show AW d M_Spelling_apartFrom Q 91 [some (vR 9 (-1)), some (vR 46 (-1)), some (vI p2), none, some (vR 14 r4), some (vI v5), some (vI v6), some (vI v7), some (vI v8), none] [] h
  refine a_iload dX3_apartFrom_91 rfl ?_
  refine a_iload dX3_apartFrom_93 rfl ?_
  refine a_icmp_gt (tgt := 173) dX3_apartFrom_95 (by decide) (fun c => ?_) (fun c => ?_)
  · have hy := hy.1 c
    obtain ⟨c1, hy⟩ := hy
    refine a_iinc (y := v6 + 1) (ls2 := [some (vR 9 (-1)), some (vR 46 (-1)), some (vI p2), none, some (vR 14 r4), some (vI v5), some (vI (v6 + 1)), some (vI v7), some (vI v8), none]) dX3_apartFrom_173 rfl rfl c1 rfl ?_
    refine a_goto (tgt := 57) dX3_apartFrom_176 (by decide) ?_
    refine a_mask [true, true, true, true, true, true, true, false, false, true] (ls2 := [some (vR 9 (-1)), some (vR 46 (-1)), some (vI p2), none, some (vR 14 r4), some (vI v5), some (vI (v6 + 1)), none, none, none]) rfl rfl ?_
    exact hy
  · have hy := hy.2 (Int.not_lt.mp c)
    refine a_iload dX3_apartFrom_98 rfl ?_
    refine a_bipush (x := 8) dX3_apartFrom_100 (by decide) ⟨by decide, by decide⟩ ?_
    refine a_icmp_gt (tgt := 173) dX3_apartFrom_102 (by decide) (fun c => ?_) (fun c => ?_)
    · have hy := hy.1 c
      obtain ⟨c2, hy⟩ := hy
      refine a_iinc (y := v6 + 1) (ls2 := [some (vR 9 (-1)), some (vR 46 (-1)), some (vI p2), none, some (vR 14 r4), some (vI v5), some (vI (v6 + 1)), some (vI v7), some (vI v8), none]) dX3_apartFrom_173 rfl rfl c2 rfl ?_
      refine a_goto (tgt := 57) dX3_apartFrom_176 (by decide) ?_
      refine a_mask [true, true, true, true, true, true, true, false, false, true] (ls2 := [some (vR 9 (-1)), some (vR 46 (-1)), some (vI p2), none, some (vR 14 r4), some (vI v5), some (vI (v6 + 1)), none, none, none]) rfl rfl ?_
      exact hy
    · have hy := hy.2 (Int.not_lt.mp c)
      refine a_aload_n dX3_apartFrom_105 rfl ?_
      refine a_iload dX3_apartFrom_106 rfl ?_
      obtain ⟨c3, hy⟩ := hy
      refine a_iald' dX3_apartFrom_108 sk_46 c3 (rfl) ?_
      refine a_aload dX3_apartFrom_109 rfl ?_
      refine a_iload dX3_apartFrom_111 rfl ?_
      refine a_iconst (x := 1) dX3_apartFrom_113 rfl ⟨by decide, by decide⟩ ?_
      obtain ⟨c4, hy⟩ := hy
      refine a_isub dX3_apartFrom_114 c4 ?_
      obtain ⟨c5, hy⟩ := hy
      obtain ⟨c6, hy⟩ := hy
      refine a_ialdR' dX3_apartFrom_115 sk_14 (inb_ne c6) c5 (rfl) ?_
      refine a_icmp_ne (tgt := 124) dX3_apartFrom_116 (by decide) (fun c => ?_) (fun c => ?_)
      · have hy := hy.1 c
        refine a_iload dX3_apartFrom_124 rfl ?_
        refine a_iconst (x := 1) dX3_apartFrom_126 rfl ⟨by decide, by decide⟩ ?_
        obtain ⟨c7, hy⟩ := hy
        refine a_iadd dX3_apartFrom_127 c7 ?_
        refine a_mask [true, true, true, true, true, true, true, false, true, true] (ls2 := [some (vR 9 (-1)), some (vR 46 (-1)), some (vI p2), none, some (vR 14 r4), some (vI v5), some (vI v6), none, some (vI v8), none]) rfl rfl ?_
        exact hy
      · have hy := hy.2 (Decidable.not_not.mp c)
        refine a_iload dX3_apartFrom_119 rfl ?_
        refine a_goto (tgt := 128) dX3_apartFrom_121 (by decide) ?_
        refine a_mask [true, true, true, true, true, true, true, false, true, true] (ls2 := [some (vR 9 (-1)), some (vR 46 (-1)), some (vI p2), none, some (vR 14 r4), some (vI v5), some (vI v6), none, some (vI v8), none]) rfl rfl ?_
        exact hy
theorem s_Spelling_apartFrom_t_128 {d : Nat} {Q : Int → AH → Prop} {p2 : Int} {r4 : Int} {v5 : Int} {v6 : Int} {v8 : Int} {s0 : Int} {h : AH} (hy : inb v8 9 ∧ (inI (v8 - 1) ∧ (inb (v8 - 1) 9 ∧ (1 ≤ d ∧ (inI (1 + (min (h.1 47 v8) (h.1 47 (v8 - 1)))) ∧ (inI (v8 + 1) ∧ A_Spelling_apartFrom_t_91 d Q p2 r4 v5 v6 (h.1 47 v8) (v8 + 1) (wI h 47 v8 (min s0 (1 + (min (h.1 47 v8) (h.1 47 (v8 - 1)))))))))))) : A_Spelling_apartFrom_t_128 d Q p2 r4 v5 v6 v8 s0 h := by
  show AW d M_Spelling_apartFrom Q 128 [some (vR 9 (-1)), some (vR 46 (-1)), some (vI p2), none, some (vR 14 r4), some (vI v5), some (vI v6), none, some (vI v8), none] [vI s0] h
  refine a_istore (ls2 := [some (vR 9 (-1)), some (vR 46 (-1)), some (vI p2), none, some (vR 14 r4), some (vI v5), some (vI v6), none, some (vI v8), some (vI s0)]) dX3_apartFrom_128 (Nat.le_of_ble_eq_true rfl) rfl ?_
  refine a_aload_n dX3_apartFrom_130 rfl ?_
  refine a_getR dX3_apartFrom_131 fl_Spelling_15 sk_9 rfl ?_
  refine a_iload dX3_apartFrom_134 rfl ?_
  obtain ⟨c1, hy⟩ := hy
  refine a_iald' dX3_apartFrom_136 sk_47 c1 (rfl) ?_
  refine a_istore (ls2 := [some (vR 9 (-1)), some (vR 46 (-1)), some (vI p2), none, some (vR 14 r4), some (vI v5), some (vI v6), some (vI (h.1 47 v8)), some (vI v8), some (vI s0)]) dX3_apartFrom_137 (Nat.le_of_ble_eq_true rfl) rfl ?_
  refine a_aload_n dX3_apartFrom_139 rfl ?_
  refine a_getR dX3_apartFrom_140 fl_Spelling_15 sk_9 rfl ?_
  refine a_iload dX3_apartFrom_143 rfl ?_
  refine a_iload dX3_apartFrom_145 rfl ?_
  refine a_iconst (x := 1) dX3_apartFrom_147 rfl ⟨by decide, by decide⟩ ?_
  refine a_iload dX3_apartFrom_148 rfl ?_
  refine a_aload_n dX3_apartFrom_150 rfl ?_
  refine a_getR dX3_apartFrom_151 fl_Spelling_15 sk_9 rfl ?_
  refine a_iload dX3_apartFrom_154 rfl ?_
  refine a_iconst (x := 1) dX3_apartFrom_156 rfl ⟨by decide, by decide⟩ ?_
  obtain ⟨c2, hy⟩ := hy
  refine a_isub dX3_apartFrom_157 c2 ?_
  obtain ⟨c3, hy⟩ := hy
  refine a_iald' dX3_apartFrom_158 sk_47 c3 (rfl) ?_
  obtain ⟨c4, hy⟩ := hy
  refine a_mmin' dX3_apartFrom_159 ml_Spelling_39 c4 (Nat.le_of_ble_eq_true rfl) ?_
  obtain ⟨c5, hy⟩ := hy
  refine a_iadd dX3_apartFrom_162 c5 ?_
  refine a_mmin' dX3_apartFrom_163 ml_Spelling_39 c4 (Nat.le_of_ble_eq_true rfl) ?_
  refine a_iast dX3_apartFrom_166 sk_47 c1 ?_
  obtain ⟨c6, hy⟩ := hy
  refine a_iinc (y := v8 + 1) (ls2 := [some (vR 9 (-1)), some (vR 46 (-1)), some (vI p2), none, some (vR 14 r4), some (vI v5), some (vI v6), some (vI (h.1 47 v8)), some (vI (v8 + 1)), some (vI s0)]) dX3_apartFrom_167 rfl rfl c6 rfl ?_
  refine a_goto (tgt := 91) dX3_apartFrom_170 (by decide) ?_
  refine a_mask [true, true, true, true, true, true, true, true, true, false] (ls2 := [some (vR 9 (-1)), some (vR 46 (-1)), some (vI p2), none, some (vR 14 r4), some (vI v5), some (vI v6), some (vI (h.1 47 v8)), some (vI (v8 + 1)), none]) rfl rfl ?_
  exact hy
theorem c_Spelling_apartFrom_t {d : Nat} (d0 : Nat) (hd : d0 < d) {p2 : Int} {p3 : Int} {h : AH} {Q : Int → AH → Prop} (hy : inb p3 40 ∧ A_Spelling_apartFrom_t_25 d0 Q p2 p3 (h.1 15 p3) 0 h) : Call d M_Spelling_apartFrom [vR 9 (-1), vR 46 (-1), vI p2, vI p3] h Q := by
  refine ⟨d0, hd, Big.of rfl (Nat.le_of_ble_eq_true rfl) ?_⟩
  show AW d0 M_Spelling_apartFrom Q 0 [some (vR 9 (-1)), some (vR 46 (-1)), some (vI p2), some (vI p3), none, none, none, none, none, none] [] h
  refine a_aload_n dX3_apartFrom_0 rfl ?_
  refine a_getR dX3_apartFrom_1 fl_Spelling_18 sk_9 rfl ?_
  refine a_getR dX3_apartFrom_4 fl_Spelling_26 sk_2 rfl ?_
  refine a_iload_n dX3_apartFrom_7 rfl ?_
  obtain ⟨c1, hy⟩ := hy
  refine a_aald dX3_apartFrom_8 sk_14 c1 ?_
  refine a_astore (ls2 := [some (vR 9 (-1)), some (vR 46 (-1)), some (vI p2), some (vI p3), some (vR 14 p3), none, none, none, none, none]) dX3_apartFrom_9 (Nat.le_of_ble_eq_true rfl) rfl ?_
  refine a_aload_n dX3_apartFrom_11 rfl ?_
  refine a_getR dX3_apartFrom_12 fl_Spelling_18 sk_9 rfl ?_
  refine a_getR dX3_apartFrom_15 fl_Spelling_32 sk_2 rfl ?_
  refine a_iload_n dX3_apartFrom_18 rfl ?_
  refine a_iald' dX3_apartFrom_19 sk_15 c1 (rfl) ?_
  refine a_istore (ls2 := [some (vR 9 (-1)), some (vR 46 (-1)), some (vI p2), some (vI p3), some (vR 14 p3), some (vI (h.1 15 p3)), none, none, none, none]) dX3_apartFrom_20 (Nat.le_of_ble_eq_true rfl) rfl ?_
  refine a_iconst (x := 0) dX3_apartFrom_22 rfl ⟨by decide, by decide⟩ ?_
  refine a_istore (ls2 := [some (vR 9 (-1)), some (vR 46 (-1)), some (vI p2), some (vI p3), some (vR 14 p3), some (vI (h.1 15 p3)), some (vI 0), none, none, none]) dX3_apartFrom_23 (Nat.le_of_ble_eq_true rfl) rfl ?_
  refine a_mask [true, true, true, false, true, true, true, true, true, true] (ls2 := [some (vR 9 (-1)), some (vR 46 (-1)), some (vI p2), none, some (vR 14 p3), some (vI (h.1 15 p3)), some (vI 0), none, none, none]) rfl rfl ?_
  exact hy
def A_Spelling_findNearest_2 (d : Nat) (Q : Int → AH → Prop) (p1 : Int) (v2 : Int) (h : AH) : Prop := AW d M_Spelling_findNearest Q 2 [some (vR 9 (-1)), some (vI p1), some (vI v2), none] [] h
def A_Spelling_findNearest_33 (d : Nat) (Q : Int → AH → Prop) (p1 : Int) (h : AH) : Prop := AW d M_Spelling_findNearest Q 33 [some (vR 9 (-1)), some (vI p1), none, none] [] h
def A_Spelling_findNearest_50 (d : Nat) (Q : Int → AH → Prop) (p1 : Int) (v2 : Int) (h : AH) : Prop := AW d M_Spelling_findNearest Q 50 [some (vR 9 (-1)), some (vI p1), some (vI v2), none] [] h
def A_Spelling_findNearest_102 (d : Nat) (Q : Int → AH → Prop) (p1 : Int) (v2 : Int) (v3 : Int) (h : AH) : Prop := AW d M_Spelling_findNearest Q 102 [some (vR 9 (-1)), some (vI p1), some (vI v2), some (vI v3)] [] h
def A_Spelling_findNearest_117 (d : Nat) (Q : Int → AH → Prop) (p1 : Int) (v2 : Int) (v3 : Int) (h : AH) : Prop := AW d M_Spelling_findNearest Q 117 [some (vR 9 (-1)), some (vI p1), some (vI v2), some (vI v3)] [] h
theorem s_Spelling_findNearest_2 {d : Nat} {Q : Int → AH → Prop} {p1 : Int} {v2 : Int} {h : AH} (hy : ((p1 ≤ v2 → A_Spelling_findNearest_33 d Q p1 h) ∧ (v2 < p1 → ((12 ≤ v2 → A_Spelling_findNearest_33 d Q p1 h) ∧ (v2 < 12 → (Call d M_Tape_letterAt [vR 1 (-1), vI v2] h (fun r2 h1 => inb v2 12 ∧ (inI (v2 + 1) ∧ A_Spelling_findNearest_2 d Q p1 (v2 + 1) (wI h1 46 v2 r2))))))))) : A_Spelling_findNearest_2 d Q p1 v2 h := by
  show AW d M_Spelling_findNearest Q 2 [some (vR 9 (-1)), some (vI p1), some (vI v2), none] [] h
  refine a_iload_n dX3_findNearest_2 rfl ?_
  refine a_iload_n dX3_findNearest_3 rfl ?_
  refine a_icmp_ge (tgt := 33) dX3_findNearest_4 (by decide) (fun c => ?_) (fun c => ?_)
  · have hy := hy.1 c
    refine a_mask [true, true, false, true] (ls2 := [some (vR 9 (-1)), some (vI p1), none, none]) rfl rfl ?_
    exact hy
  · have hy := hy.2 (Int.not_le.mp c)
    refine a_iload_n dX3_findNearest_7 rfl ?_
    refine a_bipush (x := 12) dX3_findNearest_8 (by decide) ⟨by decide, by decide⟩ ?_
    refine a_icmp_ge (tgt := 33) dX3_findNearest_10 (by decide) (fun c => ?_) (fun c => ?_)
    · have hy := hy.1 c
      refine a_mask [true, true, false, true] (ls2 := [some (vR 9 (-1)), some (vI p1), none, none]) rfl rfl ?_
      exact hy
    · have hy := hy.2 (Int.not_le.mp c)
      refine a_aload_n dX3_findNearest_13 rfl ?_
      refine a_getR dX3_findNearest_14 fl_Spelling_9 sk_9 rfl ?_
      refine a_iload_n dX3_findNearest_17 rfl ?_
      refine a_aload_n dX3_findNearest_18 rfl ?_
      refine a_getR dX3_findNearest_19 fl_Spelling_22 sk_9 rfl ?_
      refine a_iload_n dX3_findNearest_22 rfl ?_
      refine a_callVi (as := [vI v2]) (st := [vI v2, vR 46 (-1)]) dX3_findNearest_23 lk_Spelling_45 sk_1 rfl rfl (Nat.le_of_ble_eq_true rfl) (Or.inl rfl) (Call.mono hy (fun r2 h1 _ hy => ?_))
      obtain ⟨c3, hy⟩ := hy
      refine a_iast dX3_findNearest_26 sk_46 c3 ?_
      obtain ⟨c4, hy⟩ := hy
      refine a_iinc (y := v2 + 1) (ls2 := [some (vR 9 (-1)), some (vI p1), some (vI (v2 + 1)), none]) dX3_findNearest_27 rfl rfl c4 rfl ?_
      refine a_goto (tgt := 2) dX3_findNearest_30 (by decide) ?_
      exact hy
theorem s_Spelling_findNearest_33 {d : Nat} {Q : Int → AH → Prop} {p1 : Int} {h : AH} (hy : A_Spelling_findNearest_50 d Q p1 0 (wI (wI (wI h 9 5 (-1)) 9 4 0) 9 6 0)) : A_Spelling_findNearest_33 d Q p1 h := by
  show AW d M_Spelling_findNearest Q 33 [some (vR 9 (-1)), some (vI p1), none, none] [] h
  refine a_aload_n dX3_findNearest_33 rfl ?_
  refine a_iconst (x := (-1)) dX3_findNearest_34 rfl ⟨by decide, by decide⟩ ?_
  refine a_putI (kz := 5) dX3_findNearest_35 fp_Spelling_51 sk_9 rfl rfl ?_
  refine a_aload_n dX3_findNearest_38 rfl ?_
  refine a_iconst (x := 0) dX3_findNearest_39 rfl ⟨by decide, by decide⟩ ?_
  refine a_putI (kz := 4) dX3_findNearest_40 fp_Spelling_55 sk_9 rfl rfl ?_
  refine a_aload_n dX3_findNearest_43 rfl ?_
  refine a_iconst (x := 0) dX3_findNearest_44 rfl ⟨by decide, by decide⟩ ?_
  refine a_putI (kz := 6) dX3_findNearest_45 fp_Spelling_58 sk_9 rfl rfl ?_
  refine a_iconst (x := 0) dX3_findNearest_48 rfl ⟨by decide, by decide⟩ ?_
  refine a_istore_n (i := 2) (ls2 := [some (vR 9 (-1)), some (vI p1), some (vI 0), none]) dX3_findNearest_49 rfl (Nat.le_of_ble_eq_true rfl) rfl ?_
  exact hy
theorem s_Spelling_findNearest_50 {d : Nat} {Q : Int → AH → Prop} {p1 : Int} {v2 : Int} {h : AH} (hy : (((h.1 2 6) ≤ v2 → Q 0 h) ∧ (v2 < (h.1 2 6) → (Call d M_Words_isUsed [vR 2 (-1), vI v2] h (fun r2 h1 => ((r2 ≠ 0 → (Call d M_Spelling_apartFrom [vR 9 (-1), vR 46 (-1), vI p1, vI v2] h1 (fun r4 h3 => (((h3.1 9 5) = (-1) → A_Spelling_findNearest_102 d Q p1 v2 r4 h3) ∧ ((h3.1 9 5) ≠ (-1) → (((h3.1 9 4) ≤ r4 → A_Spelling_findNearest_117 d Q p1 v2 r4 h3) ∧ (r4 < (h3.1 9 4) → A_Spelling_findNearest_102 d Q p1 v2 r4 h3))))))) ∧ (r2 = 0 → (inI (v2 + 1) ∧ A_Spelling_findNearest_50 d Q p1 (v2 + 1) h1)))))))) : A_Spelling_findNearest_50 d Q p1 v2 h := by
  show AW d M_Spelling_findNearest Q 50 [some (vR 9 (-1)), some (vI p1), some (vI v2), none] [] h
  refine a_iload_n dX3_findNearest_50 rfl ?_
  refine a_aload_n dX3_findNearest_51 rfl ?_
  refine a_getR dX3_findNearest_52 fl_Spelling_18 sk_9 rfl ?_
  refine a_getI' (kz := 6) dX3_findNearest_55 fl_Spelling_61 sk_2 rfl rfl (rfl) ?_
  refine a_icmp_ge (tgt := 141) dX3_findNearest_58 (by decide) (fun c => ?_) (fun c => ?_)
  · have hy := hy.1 c
    exact a_vret dX3_findNearest_141 rfl hy
  · have hy := hy.2 (Int.not_le.mp c)
    refine a_aload_n dX3_findNearest_61 rfl ?_
    refine a_getR dX3_findNearest_62 fl_Spelling_18 sk_9 rfl ?_
    refine a_iload_n dX3_findNearest_65 rfl ?_
    refine a_callVi (as := [vI v2]) (st := []) dX3_findNearest_66 lk_Spelling_64 sk_2 rfl rfl (Nat.le_of_ble_eq_true rfl) (Or.inr rfl) (Call.mono hy (fun r2 h1 _ hy => ?_))
    refine a_if_ne (tgt := 75) dX3_findNearest_69 (by decide) (fun c => ?_) (fun c => ?_)
    · have hy := hy.1 c
      refine a_aload_n dX3_findNearest_75 rfl ?_
      refine a_aload_n dX3_findNearest_76 rfl ?_
      refine a_getR dX3_findNearest_77 fl_Spelling_9 sk_9 rfl ?_
      refine a_iload_n dX3_findNearest_80 rfl ?_
      refine a_iload_n dX3_findNearest_81 rfl ?_
      refine a_callVi (as := [vR 46 (-1), vI p1, vI v2]) (st := []) dX3_findNearest_82 lk_Spelling_35 sk_9 rfl rfl (Nat.le_of_ble_eq_true rfl) (Or.inl rfl) (Call.mono hy (fun r4 h3 _ hy => ?_))
      refine a_istore_n (i := 3) (ls2 := [some (vR 9 (-1)), some (vI p1), some (vI v2), some (vI r4)]) dX3_findNearest_85 rfl (Nat.le_of_ble_eq_true rfl) rfl ?_
      refine a_aload_n dX3_findNearest_86 rfl ?_
      refine a_getI' (kz := 5) dX3_findNearest_87 fl_Spelling_51 sk_9 rfl rfl (rfl) ?_
      refine a_iconst (x := (-1)) dX3_findNearest_90 rfl ⟨by decide, by decide⟩ ?_
      refine a_icmp_eq (tgt := 102) dX3_findNearest_91 (by decide) (fun c => ?_) (fun c => ?_)
      · have hy := hy.1 c
        exact hy
      · have hy := hy.2 (c)
        refine a_iload_n dX3_findNearest_94 rfl ?_
        refine a_aload_n dX3_findNearest_95 rfl ?_
        refine a_getI' (kz := 4) dX3_findNearest_96 fl_Spelling_55 sk_9 rfl rfl (rfl) ?_
        refine a_icmp_ge (tgt := 117) dX3_findNearest_99 (by decide) (fun c => ?_) (fun c => ?_)
        · have hy := hy.1 c
          exact hy
        · have hy := hy.2 (Int.not_le.mp c)
          exact hy
    · have hy := hy.2 (Decidable.not_not.mp c)
      refine a_goto (tgt := 135) dX3_findNearest_72 (by decide) ?_
      obtain ⟨c5, hy⟩ := hy
      refine a_iinc (y := v2 + 1) (ls2 := [some (vR 9 (-1)), some (vI p1), some (vI (v2 + 1)), none]) dX3_findNearest_135 rfl rfl c5 rfl ?_
      refine a_goto (tgt := 50) dX3_findNearest_138 (by decide) ?_
      exact hy
theorem s_Spelling_findNearest_102 {d : Nat} {Q : Int → AH → Prop} {p1 : Int} {v2 : Int} {v3 : Int} {h : AH} (hy : A_Spelling_findNearest_117 d Q p1 v2 v3 (wI (wI (wI h 9 5 v2) 9 4 v3) 9 6 0)) : A_Spelling_findNearest_102 d Q p1 v2 v3 h := by
  show AW d M_Spelling_findNearest Q 102 [some (vR 9 (-1)), some (vI p1), some (vI v2), some (vI v3)] [] h
  refine a_aload_n dX3_findNearest_102 rfl ?_
  refine a_iload_n dX3_findNearest_103 rfl ?_
  refine a_putI (kz := 5) dX3_findNearest_104 fp_Spelling_51 sk_9 rfl rfl ?_
  refine a_aload_n dX3_findNearest_107 rfl ?_
  refine a_iload_n dX3_findNearest_108 rfl ?_
  refine a_putI (kz := 4) dX3_findNearest_109 fp_Spelling_55 sk_9 rfl rfl ?_
  refine a_aload_n dX3_findNearest_112 rfl ?_
  refine a_iconst (x := 0) dX3_findNearest_113 rfl ⟨by decide, by decide⟩ ?_
  refine a_putI (kz := 6) dX3_findNearest_114 fp_Spelling_58 sk_9 rfl rfl ?_
  exact hy
theorem s_Spelling_findNearest_117 {d : Nat} {Q : Int → AH → Prop} {p1 : Int} {v2 : Int} {v3 : Int} {h : AH} (hy : ((v3 ≠ (h.1 9 4) → (inI (v2 + 1) ∧ A_Spelling_findNearest_50 d Q p1 (v2 + 1) h)) ∧ (v3 = (h.1 9 4) → (inI ((h.1 9 6) + 1) ∧ (inI (v2 + 1) ∧ A_Spelling_findNearest_50 d Q p1 (v2 + 1) (wI h 9 6 ((h.1 9 6) + 1))))))) : A_Spelling_findNearest_117 d Q p1 v2 v3 h := by
  show AW d M_Spelling_findNearest Q 117 [some (vR 9 (-1)), some (vI p1), some (vI v2), some (vI v3)] [] h
  refine a_iload_n dX3_findNearest_117 rfl ?_
  refine a_aload_n dX3_findNearest_118 rfl ?_
  refine a_getI' (kz := 4) dX3_findNearest_119 fl_Spelling_55 sk_9 rfl rfl (rfl) ?_
  refine a_icmp_ne (tgt := 135) dX3_findNearest_122 (by decide) (fun c => ?_) (fun c => ?_)
  · have hy := hy.1 c
    obtain ⟨c1, hy⟩ := hy
    refine a_iinc (y := v2 + 1) (ls2 := [some (vR 9 (-1)), some (vI p1), some (vI (v2 + 1)), some (vI v3)]) dX3_findNearest_135 rfl rfl c1 rfl ?_
    refine a_goto (tgt := 50) dX3_findNearest_138 (by decide) ?_
    refine a_mask [true, true, true, false] (ls2 := [some (vR 9 (-1)), some (vI p1), some (vI (v2 + 1)), none]) rfl rfl ?_
    exact hy
  · have hy := hy.2 (Decidable.not_not.mp c)
    refine a_aload_n dX3_findNearest_125 rfl ?_
    refine a_dupR dX3_findNearest_126 ?_
    refine a_getI' (kz := 6) dX3_findNearest_127 fl_Spelling_58 sk_9 rfl rfl (rfl) ?_
    refine a_iconst (x := 1) dX3_findNearest_130 rfl ⟨by decide, by decide⟩ ?_
    obtain ⟨c2, hy⟩ := hy
    refine a_iadd dX3_findNearest_131 c2 ?_
    refine a_putI (kz := 6) dX3_findNearest_132 fp_Spelling_58 sk_9 rfl rfl ?_
    obtain ⟨c3, hy⟩ := hy
    refine a_iinc (y := v2 + 1) (ls2 := [some (vR 9 (-1)), some (vI p1), some (vI (v2 + 1)), some (vI v3)]) dX3_findNearest_135 rfl rfl c3 rfl ?_
    refine a_goto (tgt := 50) dX3_findNearest_138 (by decide) ?_
    refine a_mask [true, true, true, false] (ls2 := [some (vR 9 (-1)), some (vI p1), some (vI (v2 + 1)), none]) rfl rfl ?_
    exact hy
theorem c_Spelling_findNearest {d : Nat} (d0 : Nat) (hd : d0 < d) {p1 : Int} {h : AH} {Q : Int → AH → Prop} (hy : A_Spelling_findNearest_2 d0 Q p1 0 h) : Call d M_Spelling_findNearest [vR 9 (-1), vI p1] h Q := by
  refine ⟨d0, hd, Big.of rfl (Nat.le_of_ble_eq_true rfl) ?_⟩
  show AW d0 M_Spelling_findNearest Q 0 [some (vR 9 (-1)), some (vI p1), none, none] [] h
  refine a_iconst (x := 0) dX3_findNearest_0 rfl ⟨by decide, by decide⟩ ?_
  refine a_istore_n (i := 2) (ls2 := [some (vR 9 (-1)), some (vI p1), some (vI 0), none]) dX3_findNearest_1 rfl (Nat.le_of_ble_eq_true rfl) rfl ?_
  exact hy
def A_Spelling_fits_2 (d : Nat) (Q : Int → AH → Prop) (p1 : Int) (v2 : Int) (h : AH) : Prop := AW d M_Spelling_fits Q 2 [some (vR 9 (-1)), some (vI p1), some (vI v2)] [] h
theorem s_Spelling_fits_2 {d : Nat} {Q : Int → AH → Prop} {p1 : Int} {v2 : Int} {h : AH} (hy : inb p1 40 ∧ (((h.1 15 p1) ≤ v2 → Q 1 h) ∧ (v2 < (h.1 15 p1) → (Call d M_Tape_byteAt [vR 1 (-1), vI v2] h (fun r3 h2 => ((r3 = 63 → (inI (v2 + 1) ∧ A_Spelling_fits_2 d Q p1 (v2 + 1) h2)) ∧ (r3 ≠ 63 → (Call d M_Tape_letterAt [vR 1 (-1), vI v2] h2 (fun r6 h5 => inb v2 8 ∧ ((r6 = (h5.2.2 14 p1 v2) → (inI (v2 + 1) ∧ A_Spelling_fits_2 d Q p1 (v2 + 1) h5)) ∧ (r6 ≠ (h5.2.2 14 p1 v2) → Q 0 h5))))))))))) : A_Spelling_fits_2 d Q p1 v2 h := by
  show AW d M_Spelling_fits Q 2 [some (vR 9 (-1)), some (vI p1), some (vI v2)] [] h
  refine a_iload_n dX3_fits_2 rfl ?_
  refine a_aload_n dX3_fits_3 rfl ?_
  refine a_getR dX3_fits_4 fl_Spelling_18 sk_9 rfl ?_
  refine a_getR dX3_fits_7 fl_Spelling_32 sk_2 rfl ?_
  refine a_iload_n dX3_fits_10 rfl ?_
  obtain ⟨c1, hy⟩ := hy
  refine a_iald' dX3_fits_11 sk_15 c1 (rfl) ?_
  refine a_icmp_ge (tgt := 58) dX3_fits_12 (by decide) (fun c => ?_) (fun c => ?_)
  · have hy := hy.1 c
    refine a_iconst (x := 1) dX3_fits_58 rfl ⟨by decide, by decide⟩ ?_
    exact a_zret dX3_fits_59 rfl (Or.inr rfl) hy
  · have hy := hy.2 (Int.not_le.mp c)
    refine a_aload_n dX3_fits_15 rfl ?_
    refine a_getR dX3_fits_16 fl_Spelling_22 sk_9 rfl ?_
    refine a_iload_n dX3_fits_19 rfl ?_
    refine a_callVi (as := [vI v2]) (st := []) dX3_fits_20 lk_Spelling_71 sk_1 rfl rfl (Nat.le_of_ble_eq_true rfl) (Or.inl rfl) (Call.mono hy (fun r3 h2 _ hy => ?_))
    refine a_bipush (x := 63) dX3_fits_23 (by decide) ⟨by decide, by decide⟩ ?_
    refine a_icmp_eq (tgt := 52) dX3_fits_25 (by decide) (fun c => ?_) (fun c => ?_)
    · have hy := hy.1 c
      obtain ⟨c4, hy⟩ := hy
      refine a_iinc (y := v2 + 1) (ls2 := [some (vR 9 (-1)), some (vI p1), some (vI (v2 + 1))]) dX3_fits_52 rfl rfl c4 rfl ?_
      refine a_goto (tgt := 2) dX3_fits_55 (by decide) ?_
      exact hy
    · have hy := hy.2 (c)
      refine a_aload_n dX3_fits_28 rfl ?_
      refine a_getR dX3_fits_29 fl_Spelling_22 sk_9 rfl ?_
      refine a_iload_n dX3_fits_32 rfl ?_
      refine a_callVi (as := [vI v2]) (st := []) dX3_fits_33 lk_Spelling_45 sk_1 rfl rfl (Nat.le_of_ble_eq_true rfl) (Or.inl rfl) (Call.mono hy (fun r6 h5 _ hy => ?_))
      refine a_aload_n dX3_fits_36 rfl ?_
      refine a_getR dX3_fits_37 fl_Spelling_18 sk_9 rfl ?_
      refine a_getR dX3_fits_40 fl_Spelling_26 sk_2 rfl ?_
      refine a_iload_n dX3_fits_43 rfl ?_
      refine a_aald dX3_fits_44 sk_14 c1 ?_
      refine a_iload_n dX3_fits_45 rfl ?_
      obtain ⟨c7, hy⟩ := hy
      refine a_ialdR' dX3_fits_46 sk_14 (inb_ne c1) c7 (rfl) ?_
      refine a_icmp_eq (tgt := 52) dX3_fits_47 (by decide) (fun c => ?_) (fun c => ?_)
      · have hy := hy.1 c
        obtain ⟨c8, hy⟩ := hy
        refine a_iinc (y := v2 + 1) (ls2 := [some (vR 9 (-1)), some (vI p1), some (vI (v2 + 1))]) dX3_fits_52 rfl rfl c8 rfl ?_
        refine a_goto (tgt := 2) dX3_fits_55 (by decide) ?_
        exact hy
      · have hy := hy.2 (c)
        refine a_iconst (x := 0) dX3_fits_50 rfl ⟨by decide, by decide⟩ ?_
        exact a_zret dX3_fits_51 rfl (Or.inl rfl) hy
theorem c_Spelling_fits {d : Nat} (d0 : Nat) (hd : d0 < d) {p1 : Int} {h : AH} {Q : Int → AH → Prop} (hy : A_Spelling_fits_2 d0 Q p1 0 h) : Call d M_Spelling_fits [vR 9 (-1), vI p1] h Q := by
  refine ⟨d0, hd, Big.of rfl (Nat.le_of_ble_eq_true rfl) ?_⟩
  show AW d0 M_Spelling_fits Q 0 [some (vR 9 (-1)), some (vI p1), none] [] h
  refine a_iconst (x := 0) dX3_fits_0 rfl ⟨by decide, by decide⟩ ?_
  refine a_istore_n (i := 2) (ls2 := [some (vR 9 (-1)), some (vI p1), some (vI 0)]) dX3_fits_1 rfl (Nat.le_of_ble_eq_true rfl) rfl ?_
  exact hy
def A_Spelling_fitting_5 (d : Nat) (Q : Int → AH → Prop) (p1 : Int) (v2 : Int) (v4 : Int) (h : AH) : Prop := AW d M_Spelling_fitting Q 5 [some (vR 9 (-1)), some (vI p1), some (vL v2), none, some (vI v4)] [] h
theorem s_Spelling_fitting_5 {d : Nat} {Q : Int → AH → Prop} {p1 : Int} {v2 : Int} {v4 : Int} {h : AH} (hy : (((h.1 2 6) ≤ v4 → Q v2 h) ∧ (v4 < (h.1 2 6) → (Call d M_Words_isUsed [vR 2 (-1), vI v4] h (fun r2 h1 => ((r2 = 0 → (inI (v4 + 1) ∧ A_Spelling_fitting_5 d Q p1 v2 (v4 + 1) h1)) ∧ (r2 ≠ 0 → (inb v4 40 ∧ (((h1.1 15 v4) ≠ p1 → (inI (v4 + 1) ∧ A_Spelling_fitting_5 d Q p1 v2 (v4 + 1) h1)) ∧ ((h1.1 15 v4) = p1 → (Call d M_Spelling_fits [vR 9 (-1), vI v4] h1 (fun r7 h6 => ((r7 = 0 → (inI (v4 + 1) ∧ A_Spelling_fitting_5 d Q p1 v2 (v4 + 1) h6)) ∧ (r7 ≠ 0 → (inI (v4 + 1) ∧ A_Spelling_fitting_5 d Q p1 (lor v2 (lshl 1 v4)) (v4 + 1) h6))))))))))))))) : A_Spelling_fitting_5 d Q p1 v2 v4 h := by
  show AW d M_Spelling_fitting Q 5 [some (vR 9 (-1)), some (vI p1), some (vL v2), none, some (vI v4)] [] h
  refine a_iload dX3_fitting_5 rfl ?_
  refine a_aload_n dX3_fitting_7 rfl ?_
  refine a_getR dX3_fitting_8 fl_Spelling_18 sk_9 rfl ?_
  refine a_getI' (kz := 6) dX3_fitting_11 fl_Spelling_61 sk_2 rfl rfl (rfl) ?_
  refine a_icmp_ge (tgt := 65) dX3_fitting_14 (by decide) (fun c => ?_) (fun c => ?_)
  · have hy := hy.1 c
    refine a_lload_n dX3_fitting_65 rfl ?_
    exact a_lret dX3_fitting_66 rfl hy
  · have hy := hy.2 (Int.not_le.mp c)
    refine a_aload_n dX3_fitting_17 rfl ?_
    refine a_getR dX3_fitting_18 fl_Spelling_18 sk_9 rfl ?_
    refine a_iload dX3_fitting_21 rfl ?_
    refine a_callVi (as := [vI v4]) (st := []) dX3_fitting_23 lk_Spelling_64 sk_2 rfl rfl (Nat.le_of_ble_eq_true rfl) (Or.inr rfl) (Call.mono hy (fun r2 h1 _ hy => ?_))
    refine a_if_eq (tgt := 59) dX3_fitting_26 (by decide) (fun c => ?_) (fun c => ?_)
    · have hy := hy.1 c
      obtain ⟨c3, hy⟩ := hy
      refine a_iinc (y := v4 + 1) (ls2 := [some (vR 9 (-1)), some (vI p1), some (vL v2), none, some (vI (v4 + 1))]) dX3_fitting_59 rfl rfl c3 rfl ?_
      refine a_goto (tgt := 5) dX3_fitting_62 (by decide) ?_
      exact hy
    · have hy := hy.2 (c)
      refine a_aload_n dX3_fitting_29 rfl ?_
      refine a_getR dX3_fitting_30 fl_Spelling_18 sk_9 rfl ?_
      refine a_getR dX3_fitting_33 fl_Spelling_32 sk_2 rfl ?_
      refine a_iload dX3_fitting_36 rfl ?_
      obtain ⟨c4, hy⟩ := hy
      refine a_iald' dX3_fitting_38 sk_15 c4 (rfl) ?_
      refine a_iload_n dX3_fitting_39 rfl ?_
      refine a_icmp_ne (tgt := 59) dX3_fitting_40 (by decide) (fun c => ?_) (fun c => ?_)
      · have hy := hy.1 c
        obtain ⟨c5, hy⟩ := hy
        refine a_iinc (y := v4 + 1) (ls2 := [some (vR 9 (-1)), some (vI p1), some (vL v2), none, some (vI (v4 + 1))]) dX3_fitting_59 rfl rfl c5 rfl ?_
        refine a_goto (tgt := 5) dX3_fitting_62 (by decide) ?_
        exact hy
      · have hy := hy.2 (Decidable.not_not.mp c)
        refine a_aload_n dX3_fitting_43 rfl ?_
        refine a_iload dX3_fitting_44 rfl ?_
        refine a_callVi (as := [vI v4]) (st := []) dX3_fitting_46 lk_Spelling_68 sk_9 rfl rfl (Nat.le_of_ble_eq_true rfl) (Or.inr rfl) (Call.mono hy (fun r7 h6 _ hy => ?_))
        refine a_if_eq (tgt := 59) dX3_fitting_49 (by decide) (fun c => ?_) (fun c => ?_)
        · have hy := hy.1 c
          obtain ⟨c8, hy⟩ := hy
          refine a_iinc (y := v4 + 1) (ls2 := [some (vR 9 (-1)), some (vI p1), some (vL v2), none, some (vI (v4 + 1))]) dX3_fitting_59 rfl rfl c8 rfl ?_
          refine a_goto (tgt := 5) dX3_fitting_62 (by decide) ?_
          exact hy
        · have hy := hy.2 (c)
          refine a_lload_n dX3_fitting_52 rfl ?_
          refine a_lconst (x := 1) dX3_fitting_53 rfl ⟨by decide, by decide⟩ ?_
          refine a_iload dX3_fitting_54 rfl ?_
          refine a_lshl dX3_fitting_56 ?_
          refine a_lor dX3_fitting_57 ?_
          refine a_lstore_n (i := 2) (ls2 := [some (vR 9 (-1)), some (vI p1), some (vL (lor v2 (lshl 1 v4))), none, some (vI v4)]) dX3_fitting_58 rfl (Nat.le_of_ble_eq_true rfl) rfl ?_
          obtain ⟨c9, hy⟩ := hy
          refine a_iinc (y := v4 + 1) (ls2 := [some (vR 9 (-1)), some (vI p1), some (vL (lor v2 (lshl 1 v4))), none, some (vI (v4 + 1))]) dX3_fitting_59 rfl rfl c9 rfl ?_
          refine a_goto (tgt := 5) dX3_fitting_62 (by decide) ?_
          exact hy
theorem c_Spelling_fitting {d : Nat} (d0 : Nat) (hd : d0 < d) {p1 : Int} {h : AH} {Q : Int → AH → Prop} (hy : A_Spelling_fitting_5 d0 Q p1 0 0 h) : Call d M_Spelling_fitting [vR 9 (-1), vI p1] h Q := by
  refine ⟨d0, hd, Big.of rfl (Nat.le_of_ble_eq_true rfl) ?_⟩
  show AW d0 M_Spelling_fitting Q 0 [some (vR 9 (-1)), some (vI p1), none, none, none] [] h
  refine a_lconst (x := 0) dX3_fitting_0 rfl ⟨by decide, by decide⟩ ?_
  refine a_lstore_n (i := 2) (ls2 := [some (vR 9 (-1)), some (vI p1), some (vL 0), none, none]) dX3_fitting_1 rfl (Nat.le_of_ble_eq_true rfl) rfl ?_
  refine a_iconst (x := 0) dX3_fitting_2 rfl ⟨by decide, by decide⟩ ?_
  refine a_istore (ls2 := [some (vR 9 (-1)), some (vI p1), some (vL 0), none, some (vI 0)]) dX3_fitting_3 (Nat.le_of_ble_eq_true rfl) rfl ?_
  exact hy
def A_Squares_findWords_15 (d : Nat) (Q : Int → AH → Prop) (v1 : Int) (h : AH) : Prop := AW d M_Squares_findWords Q 15 [some (vR 11 (-1)), some (vI v1), none] [] h
def A_Squares_findWords_67 (d : Nat) (Q : Int → AH → Prop) (v1 : Int) (v2 : Int) (h : AH) : Prop := AW d M_Squares_findWords Q 67 [some (vR 11 (-1)), some (vI v1), some (vI v2)] [] h
theorem s_Squares_findWords_15 {d : Nat} {Q : Int → AH → Prop} {v1 : Int} {h : AH} (hy : (((h.1 2 6) ≤ v1 → Q 0 h) ∧ (v1 < (h.1 2 6) → (Call d M_Words_isUsed [vR 2 (-1), vI v1] h (fun r2 h1 => ((r2 = 0 → (inI (v1 + 1) ∧ A_Squares_findWords_15 d Q (v1 + 1) h1)) ∧ (r2 ≠ 0 → (inb v1 40 ∧ (((h1.1 15 v1) ≠ (h1.1 11 6) → (inI (v1 + 1) ∧ A_Squares_findWords_15 d Q (v1 + 1) h1)) ∧ ((h1.1 15 v1) = (h1.1 11 6) → A_Squares_findWords_67 d Q v1 0 (wL h1 11 5 (lor (h1.2.1 11 5) (lshl 1 v1))))))))))))) : A_Squares_findWords_15 d Q v1 h := by
  show AW d M_Squares_findWords Q 15 [some (vR 11 (-1)), some (vI v1), none] [] h
  refine a_iload_n dX4_findWords_15 rfl ?_
  refine a_aload_n dX4_findWords_16 rfl ?_
  refine a_getR dX4_findWords_17 fl_Squares_29 sk_11 rfl ?_
  refine a_getI' (kz := 6) dX4_findWords_20 fl_Squares_59 sk_2 rfl rfl (rfl) ?_
  refine a_icmp_ge (tgt := 119) dX4_findWords_23 (by decide) (fun c => ?_) (fun c => ?_)
  · have hy := hy.1 c
    exact a_vret dX4_findWords_119 rfl hy
  · have hy := hy.2 (Int.not_le.mp c)
    refine a_aload_n dX4_findWords_26 rfl ?_
    refine a_getR dX4_findWords_27 fl_Squares_29 sk_11 rfl ?_
    refine a_iload_n dX4_findWords_30 rfl ?_
    refine a_callVi (as := [vI v1]) (st := []) dX4_findWords_31 lk_Squares_62 sk_2 rfl rfl (Nat.le_of_ble_eq_true rfl) (Or.inr rfl) (Call.mono hy (fun r2 h1 _ hy => ?_))
    refine a_if_eq (tgt := 113) dX4_findWords_34 (by decide) (fun c => ?_) (fun c => ?_)
    · have hy := hy.1 c
      obtain ⟨c3, hy⟩ := hy
      refine a_iinc (y := v1 + 1) (ls2 := [some (vR 11 (-1)), some (vI (v1 + 1)), none]) dX4_findWords_113 rfl rfl c3 rfl ?_
      refine a_goto (tgt := 15) dX4_findWords_116 (by decide) ?_
      exact hy
    · have hy := hy.2 (c)
      refine a_aload_n dX4_findWords_37 rfl ?_
      refine a_getR dX4_findWords_38 fl_Squares_29 sk_11 rfl ?_
      refine a_getR dX4_findWords_41 fl_Squares_66 sk_2 rfl ?_
      refine a_iload_n dX4_findWords_44 rfl ?_
      obtain ⟨c4, hy⟩ := hy
      refine a_iald' dX4_findWords_45 sk_15 c4 (rfl) ?_
      refine a_aload_n dX4_findWords_46 rfl ?_
      refine a_getI' (kz := 6) dX4_findWords_47 fl_Squares_36 sk_11 rfl rfl (rfl) ?_
      refine a_icmp_ne (tgt := 113) dX4_findWords_50 (by decide) (fun c => ?_) (fun c => ?_)
      · have hy := hy.1 c
        obtain ⟨c5, hy⟩ := hy
        refine a_iinc (y := v1 + 1) (ls2 := [some (vR 11 (-1)), some (vI (v1 + 1)), none]) dX4_findWords_113 rfl rfl c5 rfl ?_
        refine a_goto (tgt := 15) dX4_findWords_116 (by decide) ?_
        exact hy
      · have hy := hy.2 (Decidable.not_not.mp c)
        refine a_aload_n dX4_findWords_53 rfl ?_
        refine a_dupR dX4_findWords_54 ?_
        refine a_getL' (kz := 5) dX4_findWords_55 fl_Squares_45 sk_11 rfl rfl (rfl) ?_
        refine a_lconst (x := 1) dX4_findWords_58 rfl ⟨by decide, by decide⟩ ?_
        refine a_iload_n dX4_findWords_59 rfl ?_
        refine a_lshl dX4_findWords_60 ?_
        refine a_lor dX4_findWords_61 ?_
        refine a_putL (kz := 5) dX4_findWords_62 fp_Squares_45 sk_11 rfl rfl ?_
        refine a_iconst (x := 0) dX4_findWords_65 rfl ⟨by decide, by decide⟩ ?_
        refine a_istore_n (i := 2) (ls2 := [some (vR 11 (-1)), some (vI v1), some (vI 0)]) dX4_findWords_66 rfl (Nat.le_of_ble_eq_true rfl) rfl ?_
        exact hy
theorem s_Squares_findWords_67 {d : Nat} {Q : Int → AH → Prop} {v1 : Int} {v2 : Int} {h : AH} (hy : (((h.1 11 6) ≤ v2 → (inI (v1 + 1) ∧ A_Squares_findWords_15 d Q (v1 + 1) h)) ∧ (v2 < (h.1 11 6) → ((4 ≤ v2 → (inI (v1 + 1) ∧ A_Squares_findWords_15 d Q (v1 + 1) h)) ∧ (v2 < 4 → (inI (v2 * 26) ∧ (inb v1 40 ∧ (inb v2 8 ∧ (inI ((v2 * 26) + (h.2.2 14 v1 v2)) ∧ (inb ((v2 * 26) + (h.2.2 14 v1 v2)) 104 ∧ (inI (v2 + 1) ∧ A_Squares_findWords_67 d Q v1 (v2 + 1) (wL h 54 ((v2 * 26) + (h.2.2 14 v1 v2)) (lor (h.2.1 54 ((v2 * 26) + (h.2.2 14 v1 v2))) (lshl 1 v1)))))))))))))) : A_Squares_findWords_67 d Q v1 v2 h := by
  show AW d M_Squares_findWords Q 67 [some (vR 11 (-1)), some (vI v1), some (vI v2)] [] h
  refine a_iload_n dX4_findWords_67 rfl ?_
  refine a_aload_n dX4_findWords_68 rfl ?_
  refine a_getI' (kz := 6) dX4_findWords_69 fl_Squares_36 sk_11 rfl rfl (rfl) ?_
  refine a_icmp_ge (tgt := 113) dX4_findWords_72 (by decide) (fun c => ?_) (fun c => ?_)
  · have hy := hy.1 c
    obtain ⟨c1, hy⟩ := hy
    refine a_iinc (y := v1 + 1) (ls2 := [some (vR 11 (-1)), some (vI (v1 + 1)), some (vI v2)]) dX4_findWords_113 rfl rfl c1 rfl ?_
    refine a_goto (tgt := 15) dX4_findWords_116 (by decide) ?_
    refine a_mask [true, true, false] (ls2 := [some (vR 11 (-1)), some (vI (v1 + 1)), none]) rfl rfl ?_
    exact hy
  · have hy := hy.2 (Int.not_le.mp c)
    refine a_iload_n dX4_findWords_75 rfl ?_
    refine a_iconst (x := 4) dX4_findWords_76 rfl ⟨by decide, by decide⟩ ?_
    refine a_icmp_ge (tgt := 113) dX4_findWords_77 (by decide) (fun c => ?_) (fun c => ?_)
    · have hy := hy.1 c
      obtain ⟨c2, hy⟩ := hy
      refine a_iinc (y := v1 + 1) (ls2 := [some (vR 11 (-1)), some (vI (v1 + 1)), some (vI v2)]) dX4_findWords_113 rfl rfl c2 rfl ?_
      refine a_goto (tgt := 15) dX4_findWords_116 (by decide) ?_
      refine a_mask [true, true, false] (ls2 := [some (vR 11 (-1)), some (vI (v1 + 1)), none]) rfl rfl ?_
      exact hy
    · have hy := hy.2 (Int.not_le.mp c)
      refine a_aload_n dX4_findWords_80 rfl ?_
      refine a_getR dX4_findWords_81 fl_Squares_9 sk_11 rfl ?_
      refine a_iload_n dX4_findWords_84 rfl ?_
      refine a_bipush (x := 26) dX4_findWords_85 (by decide) ⟨by decide, by decide⟩ ?_
      obtain ⟨c3, hy⟩ := hy
      refine a_imul dX4_findWords_87 c3 ?_
      refine a_aload_n dX4_findWords_88 rfl ?_
      refine a_getR dX4_findWords_89 fl_Squares_29 sk_11 rfl ?_
      refine a_getR dX4_findWords_92 fl_Squares_69 sk_2 rfl ?_
      refine a_iload_n dX4_findWords_95 rfl ?_
      obtain ⟨c4, hy⟩ := hy
      refine a_aald dX4_findWords_96 sk_14 c4 ?_
      refine a_iload_n dX4_findWords_97 rfl ?_
      obtain ⟨c5, hy⟩ := hy
      refine a_ialdR' dX4_findWords_98 sk_14 (inb_ne c4) c5 (rfl) ?_
      obtain ⟨c6, hy⟩ := hy
      refine a_iadd dX4_findWords_99 c6 ?_
      refine a_dup2 dX4_findWords_100 ?_
      obtain ⟨c7, hy⟩ := hy
      refine a_lald' dX4_findWords_101 sk_54 c7 (rfl) ?_
      refine a_lconst (x := 1) dX4_findWords_102 rfl ⟨by decide, by decide⟩ ?_
      refine a_iload_n dX4_findWords_103 rfl ?_
      refine a_lshl dX4_findWords_104 ?_
      refine a_lor dX4_findWords_105 ?_
      refine a_last dX4_findWords_106 sk_54 c7 ?_
      obtain ⟨c8, hy⟩ := hy
      refine a_iinc (y := v2 + 1) (ls2 := [some (vR 11 (-1)), some (vI v1), some (vI (v2 + 1))]) dX4_findWords_107 rfl rfl c8 rfl ?_
      refine a_goto (tgt := 67) dX4_findWords_110 (by decide) ?_
      exact hy
theorem c_Squares_findWords {d : Nat} (d0 : Nat) (hd : d0 < d)  {h : AH} {Q : Int → AH → Prop} (hy : Call d0 M_JArrays_fill [vR 54 (-1), vL 0] (wL h 11 5 0) (fun _ h1 => A_Squares_findWords_15 d0 Q 0 h1)) : Call d M_Squares_findWords [vR 11 (-1)] h Q := by
  refine ⟨d0, hd, Big.of rfl (Nat.le_of_ble_eq_true rfl) ?_⟩
  show AW d0 M_Squares_findWords Q 0 [some (vR 11 (-1)), none, none] [] h
  refine a_aload_n dX4_findWords_0 rfl ?_
  refine a_lconst (x := 0) dX4_findWords_1 rfl ⟨by decide, by decide⟩ ?_
  refine a_putL (kz := 5) dX4_findWords_2 fp_Squares_45 sk_11 rfl rfl ?_
  refine a_aload_n dX4_findWords_5 rfl ?_
  refine a_getR dX4_findWords_6 fl_Squares_9 sk_11 rfl ?_
  refine a_lconst (x := 0) dX4_findWords_9 rfl ⟨by decide, by decide⟩ ?_
  refine a_callSv (as := [vR 54 (-1), vL 0]) (st := []) dX4_findWords_10 lk_Squares_53 rfl rfl (Nat.le_of_ble_eq_true rfl) rfl (Call.mono hy (fun _ h1 _ hy => ?_))
  refine a_iconst (x := 0) dX4_findWords_13 rfl ⟨by decide, by decide⟩ ?_
  refine a_istore_n (i := 1) (ls2 := [some (vR 11 (-1)), some (vI 0), none]) dX4_findWords_14 rfl (Nat.le_of_ble_eq_true rfl) rfl ?_
  exact hy
theorem c_Squares_keepSquare {d : Nat} (d0 : Nat) (hd : d0 < d)  {h : AH} {Q : Int → AH → Prop} (hy : (((h.1 11 7) ≠ 0 → (inI ((h.1 11 7) + 1) ∧ Q 0 (wI h 11 7 ((h.1 11 7) + 1)))) ∧ ((h.1 11 7) = 0 → (1 ≤ d0 ∧ (inI (((cpI h 56 57 4).1 11 7) + 1) ∧ Q 0 (wI (cpI h 56 57 4) 11 7 (((cpI h 56 57 4).1 11 7) + 1))))))) : Call d M_Squares_keepSquare [vR 11 (-1)] h Q := by
  refine ⟨d0, hd, Big.of rfl (Nat.le_of_ble_eq_true rfl) ?_⟩
  show AW d0 M_Squares_keepSquare Q 0 [some (vR 11 (-1))] [] h
  refine a_aload_n dX4_keepSquare_0 rfl ?_
  refine a_getI' (kz := 7) dX4_keepSquare_1 fl_Squares_39 sk_11 rfl rfl (rfl) ?_
  refine a_if_ne (tgt := 21) dX4_keepSquare_4 (by decide) (fun c => ?_) (fun c => ?_)
  · have hy := hy.1 c
    refine a_aload_n dX4_keepSquare_21 rfl ?_
    refine a_dupR dX4_keepSquare_22 ?_
    refine a_getI' (kz := 7) dX4_keepSquare_23 fl_Squares_39 sk_11 rfl rfl (rfl) ?_
    refine a_iconst (x := 1) dX4_keepSquare_26 rfl ⟨by decide, by decide⟩ ?_
    obtain ⟨c1, hy⟩ := hy
    refine a_iadd dX4_keepSquare_27 c1 ?_
    refine a_putI (kz := 7) dX4_keepSquare_28 fp_Squares_39 sk_11 rfl rfl ?_
    exact a_vret dX4_keepSquare_31 rfl hy
  · have hy := hy.2 (Decidable.not_not.mp c)
    refine a_aload_n dX4_keepSquare_7 rfl ?_
    refine a_getR dX4_keepSquare_8 fl_Squares_18 sk_11 rfl ?_
    refine a_iconst (x := 0) dX4_keepSquare_11 rfl ⟨by decide, by decide⟩ ?_
    refine a_aload_n dX4_keepSquare_12 rfl ?_
    refine a_getR dX4_keepSquare_13 fl_Squares_22 sk_11 rfl ?_
    refine a_iconst (x := 0) dX4_keepSquare_16 rfl ⟨by decide, by decide⟩ ?_
    refine a_iconst (x := 4) dX4_keepSquare_17 rfl ⟨by decide, by decide⟩ ?_
    obtain ⟨c2, hy⟩ := hy
    refine a_copyI dX4_keepSquare_18 cpl_Squares_84 sk_56 sk_57 rfl (Nat.le_of_ble_eq_true rfl) (Nat.le_of_ble_eq_true rfl) (Nat.le_of_ble_eq_true rfl) c2 (Nat.le_of_ble_eq_true rfl) ?_
    refine a_aload_n dX4_keepSquare_21 rfl ?_
    refine a_dupR dX4_keepSquare_22 ?_
    refine a_getI' (kz := 7) dX4_keepSquare_23 fl_Squares_39 sk_11 rfl rfl (rfl) ?_
    refine a_iconst (x := 1) dX4_keepSquare_26 rfl ⟨by decide, by decide⟩ ?_
    obtain ⟨c3, hy⟩ := hy
    refine a_iadd dX4_keepSquare_27 c3 ?_
    refine a_putI (kz := 7) dX4_keepSquare_28 fp_Squares_39 sk_11 rfl rfl ?_
    exact a_vret dX4_keepSquare_31 rfl hy
def A_Squares_keepsColumnsOpen_13 (d : Nat) (Q : Int → AH → Prop) (p1 : Int) (r3 : Int) (v4 : Int) (h : AH) : Prop := AW d M_Squares_keepsColumnsOpen Q 13 [some (vR 11 (-1)), some (vI p1), none, some (vR 14 r3), some (vI v4), none, none] [] h
theorem s_Squares_keepsColumnsOpen_13 {d : Nat} {Q : Int → AH → Prop} {p1 : Int} {r3 : Int} {v4 : Int} {h : AH} (hy : (((h.1 11 6) ≤ v4 → Q 1 h) ∧ (v4 < (h.1 11 6) → (inI (p1 * 4) ∧ (inI ((p1 * 4) + v4) ∧ (inb ((p1 * 4) + v4) 20 ∧ (inI (p1 * 26) ∧ (inb v4 8 ∧ inb r3 40 ∧ (inI ((p1 * 26) + (h.2.2 14 r3 v4)) ∧ (inb ((p1 * 26) + (h.2.2 14 r3 v4)) 104 ∧ (((land (h.2.1 55 ((p1 * 4) + v4)) (h.2.1 54 ((p1 * 26) + (h.2.2 14 r3 v4)))) ≠ 0 → (inI (p1 + 1) ∧ (inI ((p1 + 1) * 4) ∧ (inI (((p1 + 1) * 4) + v4) ∧ (inb (((p1 + 1) * 4) + v4) 20 ∧ (inI (v4 + 1) ∧ A_Squares_keepsColumnsOpen_13 d Q p1 r3 (v4 + 1) (wL h 55 (((p1 + 1) * 4) + v4) (land (h.2.1 55 ((p1 * 4) + v4)) (h.2.1 54 ((p1 * 26) + (h.2.2 14 r3 v4))))))))))) ∧ ((land (h.2.1 55 ((p1 * 4) + v4)) (h.2.1 54 ((p1 * 26) + (h.2.2 14 r3 v4)))) = 0 → Q 0 h)))))))))))) : A_Squares_keepsColumnsOpen_13 d Q p1 r3 v4 h := by
  show AW d M_Squares_keepsColumnsOpen Q 13 [some (vR 11 (-1)), some (vI p1), none, some (vR 14 r3), some (vI v4), none, none] [] h
  refine a_iload dX4_keepsColumnsOpen_13 rfl ?_
  refine a_aload_n dX4_keepsColumnsOpen_15 rfl ?_
  refine a_getI' (kz := 6) dX4_keepsColumnsOpen_16 fl_Squares_36 sk_11 rfl rfl (rfl) ?_
  refine a_icmp_ge (tgt := 80) dX4_keepsColumnsOpen_19 (by decide) (fun c => ?_) (fun c => ?_)
  · have hy := hy.1 c
    refine a_iconst (x := 1) dX4_keepsColumnsOpen_80 rfl ⟨by decide, by decide⟩ ?_
    exact a_zret dX4_keepsColumnsOpen_81 rfl (Or.inr rfl) hy
  · have hy := hy.2 (Int.not_le.mp c)
    refine a_aload_n dX4_keepsColumnsOpen_22 rfl ?_
    refine a_getR dX4_keepsColumnsOpen_23 fl_Squares_15 sk_11 rfl ?_
    refine a_iload_n dX4_keepsColumnsOpen_26 rfl ?_
    refine a_iconst (x := 4) dX4_keepsColumnsOpen_27 rfl ⟨by decide, by decide⟩ ?_
    obtain ⟨c1, hy⟩ := hy
    refine a_imul dX4_keepsColumnsOpen_28 c1 ?_
    refine a_iload dX4_keepsColumnsOpen_29 rfl ?_
    obtain ⟨c2, hy⟩ := hy
    refine a_iadd dX4_keepsColumnsOpen_31 c2 ?_
    obtain ⟨c3, hy⟩ := hy
    refine a_lald' dX4_keepsColumnsOpen_32 sk_55 c3 (rfl) ?_
    refine a_aload_n dX4_keepsColumnsOpen_33 rfl ?_
    refine a_getR dX4_keepsColumnsOpen_34 fl_Squares_9 sk_11 rfl ?_
    refine a_iload_n dX4_keepsColumnsOpen_37 rfl ?_
    refine a_bipush (x := 26) dX4_keepsColumnsOpen_38 (by decide) ⟨by decide, by decide⟩ ?_
    obtain ⟨c4, hy⟩ := hy
    refine a_imul dX4_keepsColumnsOpen_40 c4 ?_
    refine a_aload_n dX4_keepsColumnsOpen_41 rfl ?_
    refine a_iload dX4_keepsColumnsOpen_42 rfl ?_
    obtain ⟨c5, hy⟩ := hy
    obtain ⟨c6, hy⟩ := hy
    refine a_ialdR' dX4_keepsColumnsOpen_44 sk_14 (inb_ne c6) c5 (rfl) ?_
    obtain ⟨c7, hy⟩ := hy
    refine a_iadd dX4_keepsColumnsOpen_45 c7 ?_
    obtain ⟨c8, hy⟩ := hy
    refine a_lald' dX4_keepsColumnsOpen_46 sk_54 c8 (rfl) ?_
    refine a_land dX4_keepsColumnsOpen_47 ?_
    refine a_lstore (ls2 := [some (vR 11 (-1)), some (vI p1), none, some (vR 14 r3), some (vI v4), some (vL (land (h.2.1 55 ((p1 * 4) + v4)) (h.2.1 54 ((p1 * 26) + (h.2.2 14 r3 v4))))), none]) dX4_keepsColumnsOpen_48 (Nat.le_of_ble_eq_true rfl) rfl ?_
    refine a_lload dX4_keepsColumnsOpen_50 rfl ?_
    refine a_lconst (x := 0) dX4_keepsColumnsOpen_52 rfl ⟨by decide, by decide⟩ ?_
    refine a_lc_ne (tgt := 59) dX4_keepsColumnsOpen_53 dX4_keepsColumnsOpen_54 (by decide) (fun c => ?_) (fun c => ?_)
    · have hy := hy.1 c
      refine a_aload_n dX4_keepsColumnsOpen_59 rfl ?_
      refine a_getR dX4_keepsColumnsOpen_60 fl_Squares_15 sk_11 rfl ?_
      refine a_iload_n dX4_keepsColumnsOpen_63 rfl ?_
      refine a_iconst (x := 1) dX4_keepsColumnsOpen_64 rfl ⟨by decide, by decide⟩ ?_
      obtain ⟨c9, hy⟩ := hy
      refine a_iadd dX4_keepsColumnsOpen_65 c9 ?_
      refine a_iconst (x := 4) dX4_keepsColumnsOpen_66 rfl ⟨by decide, by decide⟩ ?_
      obtain ⟨c10, hy⟩ := hy
      refine a_imul dX4_keepsColumnsOpen_67 c10 ?_
      refine a_iload dX4_keepsColumnsOpen_68 rfl ?_
      obtain ⟨c11, hy⟩ := hy
      refine a_iadd dX4_keepsColumnsOpen_70 c11 ?_
      refine a_lload dX4_keepsColumnsOpen_71 rfl ?_
      obtain ⟨c12, hy⟩ := hy
      refine a_last dX4_keepsColumnsOpen_73 sk_55 c12 ?_
      obtain ⟨c13, hy⟩ := hy
      refine a_iinc (y := v4 + 1) (ls2 := [some (vR 11 (-1)), some (vI p1), none, some (vR 14 r3), some (vI (v4 + 1)), some (vL (land (h.2.1 55 ((p1 * 4) + v4)) (h.2.1 54 ((p1 * 26) + (h.2.2 14 r3 v4))))), none]) dX4_keepsColumnsOpen_74 rfl rfl c13 rfl ?_
      refine a_goto (tgt := 13) dX4_keepsColumnsOpen_77 (by decide) ?_
      refine a_mask [true, true, true, true, true, false, true] (ls2 := [some (vR 11 (-1)), some (vI p1), none, some (vR 14 r3), some (vI (v4 + 1)), none, none]) rfl rfl ?_
      exact hy
    · have hy := hy.2 (Decidable.not_not.mp c)
      refine a_iconst (x := 0) dX4_keepsColumnsOpen_57 rfl ⟨by decide, by decide⟩ ?_
      exact a_zret dX4_keepsColumnsOpen_58 rfl (Or.inl rfl) hy
theorem c_Squares_keepsColumnsOpen {d : Nat} (d0 : Nat) (hd : d0 < d) {p1 : Int} {p2 : Int} {h : AH} {Q : Int → AH → Prop} (hy : inb p2 40 ∧ A_Squares_keepsColumnsOpen_13 d0 Q p1 p2 0 h) : Call d M_Squares_keepsColumnsOpen [vR 11 (-1), vI p1, vI p2] h Q := by
  refine ⟨d0, hd, Big.of rfl (Nat.le_of_ble_eq_true rfl) ?_⟩
  show AW d0 M_Squares_keepsColumnsOpen Q 0 [some (vR 11 (-1)), some (vI p1), some (vI p2), none, none, none, none] [] h
  refine a_aload_n dX4_keepsColumnsOpen_0 rfl ?_
  refine a_getR dX4_keepsColumnsOpen_1 fl_Squares_29 sk_11 rfl ?_
  refine a_getR dX4_keepsColumnsOpen_4 fl_Squares_69 sk_2 rfl ?_
  refine a_iload_n dX4_keepsColumnsOpen_7 rfl ?_
  obtain ⟨c1, hy⟩ := hy
  refine a_aald dX4_keepsColumnsOpen_8 sk_14 c1 ?_
  refine a_astore_n (i := 3) (ls2 := [some (vR 11 (-1)), some (vI p1), some (vI p2), some (vR 14 p2), none, none, none]) dX4_keepsColumnsOpen_9 rfl (Nat.le_of_ble_eq_true rfl) rfl ?_
  refine a_iconst (x := 0) dX4_keepsColumnsOpen_10 rfl ⟨by decide, by decide⟩ ?_
  refine a_istore (ls2 := [some (vR 11 (-1)), some (vI p1), some (vI p2), some (vR 14 p2), some (vI 0), none, none]) dX4_keepsColumnsOpen_11 (Nat.le_of_ble_eq_true rfl) rfl ?_
  refine a_mask [true, true, false, true, true, true, true] (ls2 := [some (vR 11 (-1)), some (vI p1), none, some (vR 14 p2), some (vI 0), none, none]) rfl rfl ?_
  exact hy
def A_Squares_putRow_13 (d : Nat) (Q : Int → AH → Prop)  (h : AH) : Prop := AW d M_Squares_putRow Q 13 [some (vR 11 (-1)), none, none] [] h
def A_Squares_putRow_20 (d : Nat) (Q : Int → AH → Prop) (p1 : Int) (v2 : Int) (h : AH) : Prop := AW d M_Squares_putRow Q 20 [some (vR 11 (-1)), some (vI p1), some (vI v2)] [] h
theorem s_Squares_putRow_13 {d : Nat} {Q : Int → AH → Prop}  {h : AH} (hy : Call d M_Squares_keepSquare [vR 11 (-1)] h (fun _ h1 => Q 0 h1)) : A_Squares_putRow_13 d Q  h := by
  show AW d M_Squares_putRow Q 13 [some (vR 11 (-1)), none, none] [] h
  refine a_aload_n dX4_putRow_13 rfl ?_
  refine a_callVv (as := []) (st := []) dX4_putRow_14 lk_Squares_73 sk_11 rfl rfl (Nat.le_of_ble_eq_true rfl) rfl (Call.mono hy (fun _ h1 _ hy => ?_))
  exact a_vret dX4_putRow_17 rfl hy
theorem s_Squares_putRow_20 {d : Nat} {Q : Int → AH → Prop} {p1 : Int} {v2 : Int} {h : AH} (hy : (((h.1 2 6) ≤ v2 → Q 0 h) ∧ (v2 < (h.1 2 6) → (((land (lushr (h.2.1 11 5) v2) 1) = 0 → (inI (v2 + 1) ∧ A_Squares_putRow_20 d Q p1 (v2 + 1) h)) ∧ ((land (lushr (h.2.1 11 5) v2) 1) ≠ 0 → (Call d M_Squares_tryRow [vR 11 (-1), vI p1, vI v2] h (fun _ h2 => inI (v2 + 1) ∧ A_Squares_putRow_20 d Q p1 (v2 + 1) h2))))))) : A_Squares_putRow_20 d Q p1 v2 h := by
  show AW d M_Squares_putRow Q 20 [some (vR 11 (-1)), some (vI p1), some (vI v2)] [] h
  refine a_iload_n dX4_putRow_20 rfl ?_
  refine a_aload_n dX4_putRow_21 rfl ?_
  refine a_getR dX4_putRow_22 fl_Squares_29 sk_11 rfl ?_
  refine a_getI' (kz := 6) dX4_putRow_25 fl_Squares_59 sk_2 rfl rfl (rfl) ?_
  refine a_icmp_ge (tgt := 56) dX4_putRow_28 (by decide) (fun c => ?_) (fun c => ?_)
  · have hy := hy.1 c
    exact a_vret dX4_putRow_56 rfl hy
  · have hy := hy.2 (Int.not_le.mp c)
    refine a_aload_n dX4_putRow_31 rfl ?_
    refine a_getL' (kz := 5) dX4_putRow_32 fl_Squares_45 sk_11 rfl rfl (rfl) ?_
    refine a_iload_n dX4_putRow_35 rfl ?_
    refine a_lushr dX4_putRow_36 ?_
    refine a_lconst (x := 1) dX4_putRow_37 rfl ⟨by decide, by decide⟩ ?_
    refine a_land dX4_putRow_38 ?_
    refine a_lconst (x := 0) dX4_putRow_39 rfl ⟨by decide, by decide⟩ ?_
    refine a_lc_eq (tgt := 50) dX4_putRow_40 dX4_putRow_41 (by decide) (fun c => ?_) (fun c => ?_)
    · have hy := hy.1 c
      obtain ⟨c1, hy⟩ := hy
      refine a_iinc (y := v2 + 1) (ls2 := [some (vR 11 (-1)), some (vI p1), some (vI (v2 + 1))]) dX4_putRow_50 rfl rfl c1 rfl ?_
      refine a_goto (tgt := 20) dX4_putRow_53 (by decide) ?_
      exact hy
    · have hy := hy.2 (c)
      refine a_aload_n dX4_putRow_44 rfl ?_
      refine a_iload_n dX4_putRow_45 rfl ?_
      refine a_iload_n dX4_putRow_46 rfl ?_
      refine a_callVv (as := [vI p1, vI v2]) (st := []) dX4_putRow_47 lk_Squares_76 sk_11 rfl rfl (Nat.le_of_ble_eq_true rfl) rfl (Call.mono hy (fun _ h2 _ hy => ?_))
      obtain ⟨c3, hy⟩ := hy
      refine a_iinc (y := v2 + 1) (ls2 := [some (vR 11 (-1)), some (vI p1), some (vI (v2 + 1))]) dX4_putRow_50 rfl rfl c3 rfl ?_
      refine a_goto (tgt := 20) dX4_putRow_53 (by decide) ?_
      exact hy
theorem c_Squares_putRow {d : Nat} (d0 : Nat) (hd : d0 < d) {p1 : Int} {h : AH} {Q : Int → AH → Prop} (hy : (((h.1 11 6) ≤ p1 → A_Squares_putRow_13 d0 Q  h) ∧ (p1 < (h.1 11 6) → ((p1 < 4 → A_Squares_putRow_20 d0 Q p1 0 h) ∧ (4 ≤ p1 → A_Squares_putRow_13 d0 Q  h))))) : Call d M_Squares_putRow [vR 11 (-1), vI p1] h Q := by
  refine ⟨d0, hd, Big.of rfl (Nat.le_of_ble_eq_true rfl) ?_⟩
  show AW d0 M_Squares_putRow Q 0 [some (vR 11 (-1)), some (vI p1), none] [] h
  refine a_iload_n dX4_putRow_0 rfl ?_
  refine a_aload_n dX4_putRow_1 rfl ?_
  refine a_getI' (kz := 6) dX4_putRow_2 fl_Squares_36 sk_11 rfl rfl (rfl) ?_
  refine a_icmp_ge (tgt := 13) dX4_putRow_5 (by decide) (fun c => ?_) (fun c => ?_)
  · have hy := hy.1 c
    refine a_mask [true, false, true] (ls2 := [some (vR 11 (-1)), none, none]) rfl rfl ?_
    exact hy
  · have hy := hy.2 (Int.not_le.mp c)
    refine a_iload_n dX4_putRow_8 rfl ?_
    refine a_iconst (x := 4) dX4_putRow_9 rfl ⟨by decide, by decide⟩ ?_
    refine a_icmp_lt (tgt := 18) dX4_putRow_10 (by decide) (fun c => ?_) (fun c => ?_)
    · have hy := hy.1 c
      refine a_iconst (x := 0) dX4_putRow_18 rfl ⟨by decide, by decide⟩ ?_
      refine a_istore_n (i := 2) (ls2 := [some (vR 11 (-1)), some (vI p1), some (vI 0)]) dX4_putRow_19 rfl (Nat.le_of_ble_eq_true rfl) rfl ?_
      exact hy
    · have hy := hy.2 (Int.not_lt.mp c)
      refine a_mask [true, false, true] (ls2 := [some (vR 11 (-1)), none, none]) rfl rfl ?_
      exact hy
def A_Squares_refresh_23 (d : Nat) (Q : Int → AH → Prop) (p1 : Int) (h : AH) : Prop := AW d M_Squares_refresh Q 23 [some (vR 11 (-1)), some (vI p1), none] [] h
def A_Squares_refresh_50 (d : Nat) (Q : Int → AH → Prop) (v2 : Int) (h : AH) : Prop := AW d M_Squares_refresh Q 50 [some (vR 11 (-1)), none, some (vI v2)] [] h
theorem s_Squares_refresh_23 {d : Nat} {Q : Int → AH → Prop} {p1 : Int} {h : AH} (hy : Call d M_Squares_findWords [vR 11 (-1)] (wI (wI (wI h 11 8 (h.1 2 9)) 11 6 p1) 11 7 0) (fun _ h1 => A_Squares_refresh_50 d Q 0 h1)) : A_Squares_refresh_23 d Q p1 h := by
  show AW d M_Squares_refresh Q 23 [some (vR 11 (-1)), some (vI p1), none] [] h
  refine a_aload_n dX4_refresh_23 rfl ?_
  refine a_aload_n dX4_refresh_24 rfl ?_
  refine a_getR dX4_refresh_25 fl_Squares_29 sk_11 rfl ?_
  refine a_getI' (kz := 9) dX4_refresh_28 fl_Squares_33 sk_2 rfl rfl (rfl) ?_
  refine a_putI (kz := 8) dX4_refresh_31 fp_Squares_25 sk_11 rfl rfl ?_
  refine a_aload_n dX4_refresh_34 rfl ?_
  refine a_iload_n dX4_refresh_35 rfl ?_
  refine a_putI (kz := 6) dX4_refresh_36 fp_Squares_36 sk_11 rfl rfl ?_
  refine a_aload_n dX4_refresh_39 rfl ?_
  refine a_iconst (x := 0) dX4_refresh_40 rfl ⟨by decide, by decide⟩ ?_
  refine a_putI (kz := 7) dX4_refresh_41 fp_Squares_39 sk_11 rfl rfl ?_
  refine a_aload_n dX4_refresh_44 rfl ?_
  refine a_callVv (as := []) (st := []) dX4_refresh_45 lk_Squares_42 sk_11 rfl rfl (Nat.le_of_ble_eq_true rfl) rfl (Call.mono hy (fun _ h1 _ hy => ?_))
  refine a_iconst (x := 0) dX4_refresh_48 rfl ⟨by decide, by decide⟩ ?_
  refine a_istore_n (i := 2) (ls2 := [some (vR 11 (-1)), some (vI p1), some (vI 0)]) dX4_refresh_49 rfl (Nat.le_of_ble_eq_true rfl) rfl ?_
  refine a_mask [true, false, true] (ls2 := [some (vR 11 (-1)), none, some (vI 0)]) rfl rfl ?_
  exact hy
theorem s_Squares_refresh_50 {d : Nat} {Q : Int → AH → Prop} {v2 : Int} {h : AH} (hy : (((h.1 11 6) ≤ v2 → (Call d M_Squares_putRow [vR 11 (-1), vI 0] h (fun _ h1 => Q 0 h1))) ∧ (v2 < (h.1 11 6) → (inb v2 20 ∧ (inI (v2 + 1) ∧ A_Squares_refresh_50 d Q (v2 + 1) (wL h 55 v2 (h.2.1 11 5))))))) : A_Squares_refresh_50 d Q v2 h := by
  show AW d M_Squares_refresh Q 50 [some (vR 11 (-1)), none, some (vI v2)] [] h
  refine a_iload_n dX4_refresh_50 rfl ?_
  refine a_aload_n dX4_refresh_51 rfl ?_
  refine a_getI' (kz := 6) dX4_refresh_52 fl_Squares_36 sk_11 rfl rfl (rfl) ?_
  refine a_icmp_ge (tgt := 74) dX4_refresh_55 (by decide) (fun c => ?_) (fun c => ?_)
  · have hy := hy.1 c
    refine a_aload_n dX4_refresh_74 rfl ?_
    refine a_iconst (x := 0) dX4_refresh_75 rfl ⟨by decide, by decide⟩ ?_
    refine a_callVv (as := [vI 0]) (st := []) dX4_refresh_76 lk_Squares_49 sk_11 rfl rfl (Nat.le_of_ble_eq_true rfl) rfl (Call.mono hy (fun _ h1 _ hy => ?_))
    exact a_vret dX4_refresh_79 rfl hy
  · have hy := hy.2 (Int.not_le.mp c)
    refine a_aload_n dX4_refresh_58 rfl ?_
    refine a_getR dX4_refresh_59 fl_Squares_15 sk_11 rfl ?_
    refine a_iload_n dX4_refresh_62 rfl ?_
    refine a_aload_n dX4_refresh_63 rfl ?_
    refine a_getL' (kz := 5) dX4_refresh_64 fl_Squares_45 sk_11 rfl rfl (rfl) ?_
    obtain ⟨c2, hy⟩ := hy
    refine a_last dX4_refresh_67 sk_55 c2 ?_
    obtain ⟨c3, hy⟩ := hy
    refine a_iinc (y := v2 + 1) (ls2 := [some (vR 11 (-1)), none, some (vI (v2 + 1))]) dX4_refresh_68 rfl rfl c3 rfl ?_
    refine a_goto (tgt := 50) dX4_refresh_71 (by decide) ?_
    exact hy
theorem c_Squares_refresh {d : Nat} (d0 : Nat) (hd : d0 < d) {p1 : Int} {h : AH} {Q : Int → AH → Prop} (hy : (((h.1 11 8) ≠ (h.1 2 9) → A_Squares_refresh_23 d0 Q p1 h) ∧ ((h.1 11 8) = (h.1 2 9) → (((h.1 11 6) ≠ p1 → A_Squares_refresh_23 d0 Q p1 h) ∧ ((h.1 11 6) = p1 → Q 0 h))))) : Call d M_Squares_refresh [vR 11 (-1), vI p1] h Q := by
  refine ⟨d0, hd, Big.of rfl (Nat.le_of_ble_eq_true rfl) ?_⟩
  show AW d0 M_Squares_refresh Q 0 [some (vR 11 (-1)), some (vI p1), none] [] h
  refine a_aload_n dX4_refresh_0 rfl ?_
  refine a_getI' (kz := 8) dX4_refresh_1 fl_Squares_25 sk_11 rfl rfl (rfl) ?_
  refine a_aload_n dX4_refresh_4 rfl ?_
  refine a_getR dX4_refresh_5 fl_Squares_29 sk_11 rfl ?_
  refine a_getI' (kz := 9) dX4_refresh_8 fl_Squares_33 sk_2 rfl rfl (rfl) ?_
  refine a_icmp_ne (tgt := 23) dX4_refresh_11 (by decide) (fun c => ?_) (fun c => ?_)
  · have hy := hy.1 c
    exact hy
  · have hy := hy.2 (Decidable.not_not.mp c)
    refine a_aload_n dX4_refresh_14 rfl ?_
    refine a_getI' (kz := 6) dX4_refresh_15 fl_Squares_36 sk_11 rfl rfl (rfl) ?_
    refine a_iload_n dX4_refresh_18 rfl ?_
    refine a_icmp_ne (tgt := 23) dX4_refresh_19 (by decide) (fun c => ?_) (fun c => ?_)
    · have hy := hy.1 c
      exact hy
    · have hy := hy.2 (Decidable.not_not.mp c)
      exact a_vret dX4_refresh_22 rfl hy
theorem c_Squares_tryRow {d : Nat} (d0 : Nat) (hd : d0 < d) {p1 : Int} {p2 : Int} {h : AH} {Q : Int → AH → Prop} (hy : Call d0 M_Squares_keepsColumnsOpen [vR 11 (-1), vI p1, vI p2] h (fun r2 h1 => ((r2 = 0 → Q 0 h1) ∧ (r2 ≠ 0 → (inb p1 4 ∧ (inI (p1 + 1) ∧ (Call d0 M_Squares_putRow [vR 11 (-1), vI (p1 + 1)] (wI h1 56 p1 p2) (fun _ h5 => Q 0 h5)))))))) : Call d M_Squares_tryRow [vR 11 (-1), vI p1, vI p2] h Q := by
  refine ⟨d0, hd, Big.of rfl (Nat.le_of_ble_eq_true rfl) ?_⟩
  show AW d0 M_Squares_tryRow Q 0 [some (vR 11 (-1)), some (vI p1), some (vI p2)] [] h
  refine a_aload_n dX4_tryRow_0 rfl ?_
  refine a_iload_n dX4_tryRow_1 rfl ?_
  refine a_iload_n dX4_tryRow_2 rfl ?_
  refine a_callVi (as := [vI p1, vI p2]) (st := []) dX4_tryRow_3 lk_Squares_80 sk_11 rfl rfl (Nat.le_of_ble_eq_true rfl) (Or.inr rfl) (Call.mono hy (fun r2 h1 _ hy => ?_))
  refine a_if_eq (tgt := 23) dX4_tryRow_6 (by decide) (fun c => ?_) (fun c => ?_)
  · have hy := hy.1 c
    exact a_vret dX4_tryRow_23 rfl hy
  · have hy := hy.2 (c)
    refine a_aload_n dX4_tryRow_9 rfl ?_
    refine a_getR dX4_tryRow_10 fl_Squares_18 sk_11 rfl ?_
    refine a_iload_n dX4_tryRow_13 rfl ?_
    refine a_iload_n dX4_tryRow_14 rfl ?_
    obtain ⟨c3, hy⟩ := hy
    refine a_iast dX4_tryRow_15 sk_56 c3 ?_
    refine a_aload_n dX4_tryRow_16 rfl ?_
    refine a_iload_n dX4_tryRow_17 rfl ?_
    refine a_iconst (x := 1) dX4_tryRow_18 rfl ⟨by decide, by decide⟩ ?_
    obtain ⟨c4, hy⟩ := hy
    refine a_iadd dX4_tryRow_19 c4 ?_
    refine a_callVv (as := [vI (p1 + 1)]) (st := []) dX4_tryRow_20 lk_Squares_49 sk_11 rfl rfl (Nat.le_of_ble_eq_true rfl) rfl (Call.mono hy (fun _ h5 _ hy => ?_))
    exact a_vret dX4_tryRow_23 rfl hy

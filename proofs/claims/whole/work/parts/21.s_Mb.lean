def A_M_draw_47 (d : Nat) (Q : Int → AH → Prop) (p1 : Int) (p2 : Int) (p3 : Int) (v4 : Int) (h : AH) : Prop := AW d M_M_draw Q 47 [some (vR 12 (-1)), some (vI p1), some (vI p2), some (vI p3), some (vI v4), none, none] [] h
def A_M_draw_86 (d : Nat) (Q : Int → AH → Prop) (p2 : Int) (p3 : Int) (v4 : Int) (v5 : Int) (h : AH) : Prop := AW d M_M_draw Q 86 [some (vR 12 (-1)), none, some (vI p2), some (vI p3), some (vI v4), some (vI v5), none] [] h
def A_M_draw_172 (d : Nat) (Q : Int → AH → Prop) (v5 : Int) (v6 : Int) (h : AH) : Prop := AW d M_M_draw Q 172 [some (vR 12 (-1)), none, none, none, none, some (vI v5), some (vI v6)] [] h
def A_M_draw_143 (d : Nat) (Q : Int → AH → Prop) (p2 : Int) (p3 : Int) (v5 : Int) (s0 : Int) (h : AH) : Prop := AW d M_M_draw Q 143 [some (vR 12 (-1)), none, some (vI p2), some (vI p3), none, some (vI v5), none] [vI s0] h
theorem s_M_draw_47 {d : Nat} {Q : Int → AH → Prop} {p1 : Int} {p2 : Int} {p3 : Int} {v4 : Int} {h : AH} (hy : (((h.1 12 0) ≤ v4 → A_M_draw_86 d Q p2 p3 p1 0 h) ∧ (v4 < (h.1 12 0) → (inb v4 40 ∧ ((if v4 = p1 then (1 : Int) else 0) = 0 ∨ (if v4 = p1 then (1 : Int) else 0) = 1) ∧ (inI (v4 + 1) ∧ A_M_draw_47 d Q p1 p2 p3 (v4 + 1) (wI h 83 v4 (if v4 = p1 then (1 : Int) else 0))))))) : A_M_draw_47 d Q p1 p2 p3 v4 h := by
  show AW d M_M_draw Q 47 [some (vR 12 (-1)), some (vI p1), some (vI p2), some (vI p3), some (vI v4), none, none] [] h
  refine a_iload dX11_draw_47 rfl ?_
  refine a_aload_n dX11_draw_49 rfl ?_
  refine a_getI' (kz := 0) dX11_draw_50 fl_M_130 sk_12 rfl rfl (rfl) ?_
  refine a_icmp_ge (tgt := 80) dX11_draw_53 (by decide) (fun c => ?_) (fun c => ?_)
  · have hy := hy.1 c
    refine a_iload_n dX11_draw_80 rfl ?_
    refine a_istore (ls2 := [some (vR 12 (-1)), some (vI p1), some (vI p2), some (vI p3), some (vI p1), none, none]) dX11_draw_81 (Nat.le_of_ble_eq_true rfl) rfl ?_
    refine a_iconst (x := 0) dX11_draw_83 rfl ⟨by decide, by decide⟩ ?_
    refine a_istore (ls2 := [some (vR 12 (-1)), some (vI p1), some (vI p2), some (vI p3), some (vI p1), some (vI 0), none]) dX11_draw_84 (Nat.le_of_ble_eq_true rfl) rfl ?_
    refine a_mask [true, false, true, true, true, true, true] (ls2 := [some (vR 12 (-1)), none, some (vI p2), some (vI p3), some (vI p1), some (vI 0), none]) rfl rfl ?_
    exact hy
  · have hy := hy.2 (Int.not_le.mp c)
    refine a_aload_n dX11_draw_56 rfl ?_
    refine a_getR dX11_draw_57 fl_M_88 sk_12 rfl ?_
    refine a_iload dX11_draw_60 rfl ?_
    refine a_iload dX11_draw_62 rfl ?_
    refine a_iload_n dX11_draw_64 rfl ?_
    have J : AW d M_M_draw Q 73 [some (vR 12 (-1)), some (vI p1), some (vI p2), some (vI p3), some (vI v4), none, none] [vI (if v4 = p1 then (1 : Int) else 0), vI v4, vR 83 (-1)] h := by
      obtain ⟨c1, hy⟩ := hy
      obtain ⟨c2, hy⟩ := hy
      refine a_zast dX11_draw_73 sk_83 c1 c2 ?_
      obtain ⟨c3, hy⟩ := hy
      refine a_iinc (y := v4 + 1) (ls2 := [some (vR 12 (-1)), some (vI p1), some (vI p2), some (vI p3), some (vI (v4 + 1)), none, none]) dX11_draw_74 rfl rfl c3 rfl ?_
      refine a_goto (tgt := 47) dX11_draw_77 (by decide) ?_
      exact hy
    refine a_icmp_ne (tgt := 72) dX11_draw_65 (by decide) (fun e4 => ?_) (fun e4 => ?_)
    · refine a_iconst (x := 0) dX11_draw_72 rfl ⟨by decide, by decide⟩ ?_
      exact a_cast (by first | rfl | simp only [if_neg e4]) (by first | rfl | simp only [if_neg e4]) J
    · refine a_iconst (x := 1) dX11_draw_68 rfl ⟨by decide, by decide⟩ ?_
      refine a_goto (tgt := 73) dX11_draw_69 (by decide) ?_
      exact a_cast (by first | rfl | simp only [if_pos (Decidable.not_not.mp e4)]) (by first | rfl | simp only [if_pos (Decidable.not_not.mp e4)]) J
theorem s_M_draw_86 {d : Nat} {Q : Int → AH → Prop} {p2 : Int} {p3 : Int} {v4 : Int} {v5 : Int} {h : AH} (hy : ((p2 ≤ v5 → ((p3 ≠ 0 → A_M_draw_172 d Q 0 0 h) ∧ (p3 = 0 → Q v4 h))) ∧ (v5 < p2 → (inI (25173 * (h.1 12 1)) ∧ (inI ((25173 * (h.1 12 1)) + 13849) ∧ (Call d M_M_stepsFrom [vR 12 (-1), vI v4] (wI h 12 1 (Int.tmod ((25173 * (h.1 12 1)) + 13849) 65536)) (fun r4 h3 => ((r4 ≠ 0 → (r4 ≠ 0 ∧ (Call d M_M_stepTo [vR 12 (-1), vI v4, vI (Int.tmod (h3.1 12 1) r4)] h3 (fun r7 h6 => A_M_draw_143 d Q p2 p3 v5 r7 h6)))) ∧ (r4 = 0 → A_M_draw_143 d Q p2 p3 v5 v4 h3))))))))) : A_M_draw_86 d Q p2 p3 v4 v5 h := by
  show AW d M_M_draw Q 86 [some (vR 12 (-1)), none, some (vI p2), some (vI p3), some (vI v4), some (vI v5), none] [] h
  refine a_iload dX11_draw_86 rfl ?_
  refine a_iload_n dX11_draw_88 rfl ?_
  refine a_icmp_ge (tgt := 159) dX11_draw_89 (by decide) (fun c => ?_) (fun c => ?_)
  · have hy := hy.1 c
    refine a_iload_n dX11_draw_159 rfl ?_
    refine a_if_ne (tgt := 166) dX11_draw_160 (by decide) (fun c => ?_) (fun c => ?_)
    · have hy := hy.1 c
      refine a_iconst (x := 0) dX11_draw_166 rfl ⟨by decide, by decide⟩ ?_
      refine a_istore (ls2 := [some (vR 12 (-1)), none, some (vI p2), some (vI p3), some (vI v4), some (vI 0), none]) dX11_draw_167 (Nat.le_of_ble_eq_true rfl) rfl ?_
      refine a_iconst (x := 0) dX11_draw_169 rfl ⟨by decide, by decide⟩ ?_
      refine a_istore (ls2 := [some (vR 12 (-1)), none, some (vI p2), some (vI p3), some (vI v4), some (vI 0), some (vI 0)]) dX11_draw_170 (Nat.le_of_ble_eq_true rfl) rfl ?_
      refine a_mask [true, true, false, false, false, true, true] (ls2 := [some (vR 12 (-1)), none, none, none, none, some (vI 0), some (vI 0)]) rfl rfl ?_
      exact hy
    · have hy := hy.2 (Decidable.not_not.mp c)
      refine a_iload dX11_draw_163 rfl ?_
      exact a_iret dX11_draw_165 rfl hy
  · have hy := hy.2 (Int.not_le.mp c)
    refine a_aload_n dX11_draw_92 rfl ?_
    refine a_sipush (x := 25173) dX11_draw_93 (by decide) ⟨by decide, by decide⟩ ?_
    refine a_aload_n dX11_draw_96 rfl ?_
    refine a_getI' (kz := 1) dX11_draw_97 fl_M_122 sk_12 rfl rfl (rfl) ?_
    obtain ⟨c1, hy⟩ := hy
    refine a_imul dX11_draw_100 c1 ?_
    refine a_sipush (x := 13849) dX11_draw_101 (by decide) ⟨by decide, by decide⟩ ?_
    obtain ⟨c2, hy⟩ := hy
    refine a_iadd dX11_draw_104 c2 ?_
    refine a_ldcw (x := 65536) dX11_draw_105 kc_M_420 ⟨by decide, by decide⟩ ?_
    refine a_irem dX11_draw_108 (by decide) ?_
    refine a_putI (kz := 1) dX11_draw_109 fp_M_122 sk_12 rfl rfl ?_
    refine a_aload_n dX11_draw_112 rfl ?_
    refine a_iload dX11_draw_113 rfl ?_
    refine a_callVi (as := [vI v4]) (st := []) dX11_draw_115 lk_M_421 sk_12 rfl rfl (Nat.le_of_ble_eq_true rfl) (Or.inl rfl) (Call.mono hy (fun r4 h3 _ hy => ?_))
    refine a_istore (ls2 := [some (vR 12 (-1)), none, some (vI p2), some (vI p3), some (vI v4), some (vI v5), some (vI r4)]) dX11_draw_118 (Nat.le_of_ble_eq_true rfl) rfl ?_
    refine a_iload dX11_draw_120 rfl ?_
    refine a_if_ne (tgt := 130) dX11_draw_122 (by decide) (fun c => ?_) (fun c => ?_)
    · have hy := hy.1 c
      refine a_aload_n dX11_draw_130 rfl ?_
      refine a_iload dX11_draw_131 rfl ?_
      refine a_aload_n dX11_draw_133 rfl ?_
      refine a_getI' (kz := 1) dX11_draw_134 fl_M_122 sk_12 rfl rfl (rfl) ?_
      refine a_iload dX11_draw_137 rfl ?_
      obtain ⟨c5, hy⟩ := hy
      refine a_irem dX11_draw_139 c5 ?_
      refine a_callVi (as := [vI v4, vI (Int.tmod (h3.1 12 1) r4)]) (st := []) dX11_draw_140 lk_M_424 sk_12 rfl rfl (Nat.le_of_ble_eq_true rfl) (Or.inl rfl) (Call.mono hy (fun r7 h6 _ hy => ?_))
      refine a_mask [true, true, true, true, false, true, false] (ls2 := [some (vR 12 (-1)), none, some (vI p2), some (vI p3), none, some (vI v5), none]) rfl rfl ?_
      exact hy
    · have hy := hy.2 (Decidable.not_not.mp c)
      refine a_iload dX11_draw_125 rfl ?_
      refine a_goto (tgt := 143) dX11_draw_127 (by decide) ?_
      refine a_mask [true, true, true, true, false, true, false] (ls2 := [some (vR 12 (-1)), none, some (vI p2), some (vI p3), none, some (vI v5), none]) rfl rfl ?_
      exact hy
theorem s_M_draw_172 {d : Nat} {Q : Int → AH → Prop} {v5 : Int} {v6 : Int} {h : AH} (hy : (((h.1 12 0) ≤ v6 → Q v5 h) ∧ (v6 < (h.1 12 0) → (inb v6 40 ∧ (inI (v5 + (if (h.1 83 v6) = 0 then (0 : Int) else 1)) ∧ (inI (v6 + 1) ∧ A_M_draw_172 d Q (v5 + (if (h.1 83 v6) = 0 then (0 : Int) else 1)) (v6 + 1) h)))))) : A_M_draw_172 d Q v5 v6 h := by
  show AW d M_M_draw Q 172 [some (vR 12 (-1)), none, none, none, none, some (vI v5), some (vI v6)] [] h
  refine a_iload dX11_draw_172 rfl ?_
  refine a_aload_n dX11_draw_174 rfl ?_
  refine a_getI' (kz := 0) dX11_draw_175 fl_M_130 sk_12 rfl rfl (rfl) ?_
  refine a_icmp_ge (tgt := 207) dX11_draw_178 (by decide) (fun c => ?_) (fun c => ?_)
  · have hy := hy.1 c
    refine a_iload dX11_draw_207 rfl ?_
    exact a_iret dX11_draw_209 rfl hy
  · have hy := hy.2 (Int.not_le.mp c)
    refine a_iload dX11_draw_181 rfl ?_
    refine a_aload_n dX11_draw_183 rfl ?_
    refine a_getR dX11_draw_184 fl_M_88 sk_12 rfl ?_
    refine a_iload dX11_draw_187 rfl ?_
    obtain ⟨c1, hy⟩ := hy
    refine a_zald' dX11_draw_189 sk_83 c1 (rfl) ?_
    have J : AW d M_M_draw Q 198 [some (vR 12 (-1)), none, none, none, none, some (vI v5), some (vI v6)] [vI (if (h.1 83 v6) = 0 then (0 : Int) else 1), vI v5] h := by
      obtain ⟨c2, hy⟩ := hy
      refine a_iadd dX11_draw_198 c2 ?_
      refine a_istore (ls2 := [some (vR 12 (-1)), none, none, none, none, some (vI (v5 + (if (h.1 83 v6) = 0 then (0 : Int) else 1))), some (vI v6)]) dX11_draw_199 (Nat.le_of_ble_eq_true rfl) rfl ?_
      obtain ⟨c3, hy⟩ := hy
      refine a_iinc (y := v6 + 1) (ls2 := [some (vR 12 (-1)), none, none, none, none, some (vI (v5 + (if (h.1 83 v6) = 0 then (0 : Int) else 1))), some (vI (v6 + 1))]) dX11_draw_201 rfl rfl c3 rfl ?_
      refine a_goto (tgt := 172) dX11_draw_204 (by decide) ?_
      exact hy
    refine a_if_eq (tgt := 197) dX11_draw_190 (by decide) (fun e4 => ?_) (fun e4 => ?_)
    · refine a_iconst (x := 0) dX11_draw_197 rfl ⟨by decide, by decide⟩ ?_
      exact a_cast (by first | rfl | simp only [if_pos e4]) (by first | rfl | simp only [if_pos e4]) J
    · refine a_iconst (x := 1) dX11_draw_193 rfl ⟨by decide, by decide⟩ ?_
      refine a_goto (tgt := 198) dX11_draw_194 (by decide) ?_
      exact a_cast (by first | rfl | simp only [if_neg e4]) (by first | rfl | simp only [if_neg e4]) J
theorem s_M_draw_143 {d : Nat} {Q : Int → AH → Prop} {p2 : Int} {p3 : Int} {v5 : Int} {s0 : Int} {h : AH} (hy : inb s0 40 ∧ (inI (v5 + 1) ∧ A_M_draw_86 d Q p2 p3 s0 (v5 + 1) (wI h 83 s0 1))) : A_M_draw_143 d Q p2 p3 v5 s0 h := by
  show AW d M_M_draw Q 143 [some (vR 12 (-1)), none, some (vI p2), some (vI p3), none, some (vI v5), none] [vI s0] h
  refine a_istore (ls2 := [some (vR 12 (-1)), none, some (vI p2), some (vI p3), some (vI s0), some (vI v5), none]) dX11_draw_143 (Nat.le_of_ble_eq_true rfl) rfl ?_
  refine a_aload_n dX11_draw_145 rfl ?_
  refine a_getR dX11_draw_146 fl_M_88 sk_12 rfl ?_
  refine a_iload dX11_draw_149 rfl ?_
  refine a_iconst (x := 1) dX11_draw_151 rfl ⟨by decide, by decide⟩ ?_
  obtain ⟨c1, hy⟩ := hy
  refine a_zast dX11_draw_152 sk_83 c1 (Or.inr rfl) ?_
  obtain ⟨c2, hy⟩ := hy
  refine a_iinc (y := v5 + 1) (ls2 := [some (vR 12 (-1)), none, some (vI p2), some (vI p3), some (vI s0), some (vI (v5 + 1)), none]) dX11_draw_153 rfl rfl c2 rfl ?_
  refine a_goto (tgt := 86) dX11_draw_156 (by decide) ?_
  exact hy
theorem c_M_draw {d : Nat} (d0 : Nat) (hd : d0 < d) {p1 : Int} {p2 : Int} {p3 : Int} {h : AH} {Q : Int → AH → Prop} (hy : Call d0 M_M_isWord [vR 12 (-1), vI p1] h (fun r2 h1 => ((r2 = 0 → Q (-1) h1) ∧ (r2 ≠ 0 → (Call d0 M_M_in [vI p2, vI 1, vI 60] h1 (fun r4 h3 => ((r4 = 0 → Q (-1) h3) ∧ (r4 ≠ 0 → (Call d0 M_M_in [vI p3, vI 0, vI 1] h3 (fun r6 h5 => ((r6 ≠ 0 → (Call d0 M_M_isUsed [vR 12 (-1), vI p1] h5 (fun r8 h7 => ((r8 ≠ 0 → (Call d0 M_M_laysSteps [vR 12 (-1)] h7 (fun _ h9 => A_M_draw_47 d0 Q p1 p2 p3 0 h9))) ∧ (r8 = 0 → Q (-2) h7))))) ∧ (r6 = 0 → Q (-1) h5)))))))))))) : Call d M_M_draw [vR 12 (-1), vI p1, vI p2, vI p3] h Q := by
  refine ⟨d0, hd, Big.of rfl (Nat.le_of_ble_eq_true rfl) ?_⟩
  show AW d0 M_M_draw Q 0 [some (vR 12 (-1)), some (vI p1), some (vI p2), some (vI p3), none, none, none] [] h
  refine a_aload_n dX11_draw_0 rfl ?_
  refine a_iload_n dX11_draw_1 rfl ?_
  refine a_callVi (as := [vI p1]) (st := []) dX11_draw_2 lk_M_154 sk_12 rfl rfl (Nat.le_of_ble_eq_true rfl) (Or.inr rfl) (Call.mono hy (fun r2 h1 _ hy => ?_))
  refine a_if_eq (tgt := 27) dX11_draw_5 (by decide) (fun c => ?_) (fun c => ?_)
  · have hy := hy.1 c
    refine a_iconst (x := (-1)) dX11_draw_27 rfl ⟨by decide, by decide⟩ ?_
    exact a_iret dX11_draw_28 rfl hy
  · have hy := hy.2 (c)
    refine a_iload_n dX11_draw_8 rfl ?_
    refine a_iconst (x := 1) dX11_draw_9 rfl ⟨by decide, by decide⟩ ?_
    refine a_bipush (x := 60) dX11_draw_10 (by decide) ⟨by decide, by decide⟩ ?_
    refine a_callSi (as := [vI p2, vI 1, vI 60]) (st := []) dX11_draw_12 lk_M_139 rfl rfl (Nat.le_of_ble_eq_true rfl) (Or.inr rfl) (Call.mono hy (fun r4 h3 _ hy => ?_))
    refine a_if_eq (tgt := 27) dX11_draw_15 (by decide) (fun c => ?_) (fun c => ?_)
    · have hy := hy.1 c
      refine a_iconst (x := (-1)) dX11_draw_27 rfl ⟨by decide, by decide⟩ ?_
      exact a_iret dX11_draw_28 rfl hy
    · have hy := hy.2 (c)
      refine a_iload_n dX11_draw_18 rfl ?_
      refine a_iconst (x := 0) dX11_draw_19 rfl ⟨by decide, by decide⟩ ?_
      refine a_iconst (x := 1) dX11_draw_20 rfl ⟨by decide, by decide⟩ ?_
      refine a_callSi (as := [vI p3, vI 0, vI 1]) (st := []) dX11_draw_21 lk_M_139 rfl rfl (Nat.le_of_ble_eq_true rfl) (Or.inr rfl) (Call.mono hy (fun r6 h5 _ hy => ?_))
      refine a_if_ne (tgt := 29) dX11_draw_24 (by decide) (fun c => ?_) (fun c => ?_)
      · have hy := hy.1 c
        refine a_aload_n dX11_draw_29 rfl ?_
        refine a_iload_n dX11_draw_30 rfl ?_
        refine a_callVi (as := [vI p1]) (st := []) dX11_draw_31 lk_M_282 sk_12 rfl rfl (Nat.le_of_ble_eq_true rfl) (Or.inr rfl) (Call.mono hy (fun r8 h7 _ hy => ?_))
        refine a_if_ne (tgt := 40) dX11_draw_34 (by decide) (fun c => ?_) (fun c => ?_)
        · have hy := hy.1 c
          refine a_aload_n dX11_draw_40 rfl ?_
          refine a_callVv (as := []) (st := []) dX11_draw_41 lk_M_291 sk_12 rfl rfl (Nat.le_of_ble_eq_true rfl) rfl (Call.mono hy (fun _ h9 _ hy => ?_))
          refine a_iconst (x := 0) dX11_draw_44 rfl ⟨by decide, by decide⟩ ?_
          refine a_istore (ls2 := [some (vR 12 (-1)), some (vI p1), some (vI p2), some (vI p3), some (vI 0), none, none]) dX11_draw_45 (Nat.le_of_ble_eq_true rfl) rfl ?_
          exact hy
        · have hy := hy.2 (Decidable.not_not.mp c)
          refine a_bipush (x := (-2)) dX11_draw_37 (by decide) ⟨by decide, by decide⟩ ?_
          exact a_iret dX11_draw_39 rfl hy
      · have hy := hy.2 (Decidable.not_not.mp c)
        refine a_iconst (x := (-1)) dX11_draw_27 rfl ⟨by decide, by decide⟩ ?_
        exact a_iret dX11_draw_28 rfl hy
def A_M_endsPiece_0 (d : Nat) (Q : Int → AH → Prop)  (h : AH) : Prop := AW d M_M_endsPiece Q 0 [some (vR 12 (-1))] [] h
theorem s_M_endsPiece_0 {d : Nat} {Q : Int → AH → Prop}  {h : AH} (hy : Call d M_M_top [vR 12 (-1)] h (fun r2 h1 => ((r2 ≠ 10 → Q 0 h1) ∧ (r2 = 10 → (Call d M_M_notes [vR 12 (-1), vI 10, vI 0] h1 (fun _ h3 => inI ((h3.1 12 17) - 1) ∧ (inI ((h3.1 12 15) - 1) ∧ A_M_endsPiece_0 d Q  (wI (wI h3 12 17 ((h3.1 12 17) - 1)) 12 15 ((h3.1 12 15) - 1))))))))) : A_M_endsPiece_0 d Q  h := by
  show AW d M_M_endsPiece Q 0 [some (vR 12 (-1))] [] h
  refine a_aload_n dX11_endsPiece_0 rfl ?_
  refine a_callVi (as := []) (st := []) dX11_endsPiece_1 lk_M_194 sk_12 rfl rfl (Nat.le_of_ble_eq_true rfl) (Or.inl rfl) (Call.mono hy (fun r2 h1 _ hy => ?_))
  refine a_bipush (x := 10) dX11_endsPiece_4 (by decide) ⟨by decide, by decide⟩ ?_
  refine a_icmp_ne (tgt := 39) dX11_endsPiece_6 (by decide) (fun c => ?_) (fun c => ?_)
  · have hy := hy.1 c
    exact a_vret dX11_endsPiece_39 rfl hy
  · have hy := hy.2 (Decidable.not_not.mp c)
    refine a_aload_n dX11_endsPiece_9 rfl ?_
    refine a_bipush (x := 10) dX11_endsPiece_10 (by decide) ⟨by decide, by decide⟩ ?_
    refine a_iconst (x := 0) dX11_endsPiece_12 rfl ⟨by decide, by decide⟩ ?_
    refine a_callVv (as := [vI 10, vI 0]) (st := []) dX11_endsPiece_13 lk_M_197 sk_12 rfl rfl (Nat.le_of_ble_eq_true rfl) rfl (Call.mono hy (fun _ h3 _ hy => ?_))
    refine a_aload_n dX11_endsPiece_16 rfl ?_
    refine a_aload_n dX11_endsPiece_17 rfl ?_
    refine a_getI' (kz := 17) dX11_endsPiece_18 fl_M_191 sk_12 rfl rfl (rfl) ?_
    refine a_iconst (x := 1) dX11_endsPiece_21 rfl ⟨by decide, by decide⟩ ?_
    obtain ⟨c4, hy⟩ := hy
    refine a_isub dX11_endsPiece_22 c4 ?_
    refine a_putI (kz := 17) dX11_endsPiece_23 fp_M_191 sk_12 rfl rfl ?_
    refine a_aload_n dX11_endsPiece_26 rfl ?_
    refine a_aload_n dX11_endsPiece_27 rfl ?_
    refine a_getI' (kz := 15) dX11_endsPiece_28 fl_M_188 sk_12 rfl rfl (rI_nk (by decide)) ?_
    refine a_iconst (x := 1) dX11_endsPiece_31 rfl ⟨by decide, by decide⟩ ?_
    obtain ⟨c5, hy⟩ := hy
    refine a_isub dX11_endsPiece_32 c5 ?_
    refine a_putI (kz := 15) dX11_endsPiece_33 fp_M_188 sk_12 rfl rfl ?_
    refine a_goto (tgt := 0) dX11_endsPiece_36 (by decide) ?_
    exact hy
theorem c_M_endsPiece {d : Nat} (d0 : Nat) (hd : d0 < d)  {h : AH} {Q : Int → AH → Prop} (hy : A_M_endsPiece_0 d0 Q  h) : Call d M_M_endsPiece [vR 12 (-1)] h Q := by
  refine ⟨d0, hd, Big.of rfl (Nat.le_of_ble_eq_true rfl) ?_⟩
  show AW d0 M_M_endsPiece Q 0 [some (vR 12 (-1))] [] h
  exact hy
theorem c_M_factOf {d : Nat} (d0 : Nat) (hd : d0 < d) {p0 : Int} {h : AH} {Q : Int → AH → Prop} (hy : ((p0 = 97 → Q 7 h) ∧ (p0 = 98 → Q 8 h) ∧ (p0 = 99 → Q (-1) h) ∧ (p0 = 100 → Q (-1) h) ∧ (p0 = 101 → Q (-1) h) ∧ (p0 = 102 → Q 5 h) ∧ (p0 = 103 → Q 6 h) ∧ (p0 = 104 → Q (-1) h) ∧ (p0 = 105 → Q 1 h) ∧ (p0 = 106 → Q (-1) h) ∧ (p0 = 107 → Q 0 h) ∧ (p0 = 108 → Q 4 h) ∧ (p0 = 109 → Q (-1) h) ∧ (p0 = 110 → Q (-1) h) ∧ (p0 = 111 → Q 2 h) ∧ (p0 = 112 → Q 3 h) ∧ ((p0 < 97 ∨ 112 < p0) → Q (-1) h))) : Call d M_M_factOf [vI p0] h Q := by
  refine ⟨d0, hd, Big.of rfl (Nat.le_of_ble_eq_true rfl) ?_⟩
  show AW d0 M_M_factOf Q 0 [some (vI p0)] [] h
  refine a_iload_n dX11_factOf_0 rfl ?_
  obtain ⟨hy0, hy1, hy2, hy3, hy4, hy5, hy6, hy7, hy8, hy9, hy10, hy11, hy12, hy13, hy14, hy15, hyd⟩ := hy
  by_cases e0 : p0 = 97
  · have hy := hy0 e0
    refine a_tsw (i := 0) (tgt := 95) dX11_factOf_1 (e0.trans (by decide)) (by decide) rfl (by decide) ?_
    refine a_bipush (x := 7) dX11_factOf_95 (by decide) ⟨by decide, by decide⟩ ?_
    exact a_iret dX11_factOf_97 rfl hy
  by_cases e1 : p0 = 98
  · have hy := hy1 e1
    refine a_tsw (i := 1) (tgt := 98) dX11_factOf_1 (e1.trans (by decide)) (by decide) rfl (by decide) ?_
    refine a_bipush (x := 8) dX11_factOf_98 (by decide) ⟨by decide, by decide⟩ ?_
    exact a_iret dX11_factOf_100 rfl hy
  by_cases e2 : p0 = 99
  · have hy := hy2 e2
    refine a_tsw (i := 2) (tgt := 101) dX11_factOf_1 (e2.trans (by decide)) (by decide) rfl (by decide) ?_
    refine a_iconst (x := (-1)) dX11_factOf_101 rfl ⟨by decide, by decide⟩ ?_
    exact a_iret dX11_factOf_102 rfl hy
  by_cases e3 : p0 = 100
  · have hy := hy3 e3
    refine a_tsw (i := 3) (tgt := 101) dX11_factOf_1 (e3.trans (by decide)) (by decide) rfl (by decide) ?_
    refine a_iconst (x := (-1)) dX11_factOf_101 rfl ⟨by decide, by decide⟩ ?_
    exact a_iret dX11_factOf_102 rfl hy
  by_cases e4 : p0 = 101
  · have hy := hy4 e4
    refine a_tsw (i := 4) (tgt := 101) dX11_factOf_1 (e4.trans (by decide)) (by decide) rfl (by decide) ?_
    refine a_iconst (x := (-1)) dX11_factOf_101 rfl ⟨by decide, by decide⟩ ?_
    exact a_iret dX11_factOf_102 rfl hy
  by_cases e5 : p0 = 102
  · have hy := hy5 e5
    refine a_tsw (i := 5) (tgt := 90) dX11_factOf_1 (e5.trans (by decide)) (by decide) rfl (by decide) ?_
    refine a_iconst (x := 5) dX11_factOf_90 rfl ⟨by decide, by decide⟩ ?_
    exact a_iret dX11_factOf_91 rfl hy
  by_cases e6 : p0 = 103
  · have hy := hy6 e6
    refine a_tsw (i := 6) (tgt := 92) dX11_factOf_1 (e6.trans (by decide)) (by decide) rfl (by decide) ?_
    refine a_bipush (x := 6) dX11_factOf_92 (by decide) ⟨by decide, by decide⟩ ?_
    exact a_iret dX11_factOf_94 rfl hy
  by_cases e7 : p0 = 104
  · have hy := hy7 e7
    refine a_tsw (i := 7) (tgt := 101) dX11_factOf_1 (e7.trans (by decide)) (by decide) rfl (by decide) ?_
    refine a_iconst (x := (-1)) dX11_factOf_101 rfl ⟨by decide, by decide⟩ ?_
    exact a_iret dX11_factOf_102 rfl hy
  by_cases e8 : p0 = 105
  · have hy := hy8 e8
    refine a_tsw (i := 8) (tgt := 82) dX11_factOf_1 (e8.trans (by decide)) (by decide) rfl (by decide) ?_
    refine a_iconst (x := 1) dX11_factOf_82 rfl ⟨by decide, by decide⟩ ?_
    exact a_iret dX11_factOf_83 rfl hy
  by_cases e9 : p0 = 106
  · have hy := hy9 e9
    refine a_tsw (i := 9) (tgt := 101) dX11_factOf_1 (e9.trans (by decide)) (by decide) rfl (by decide) ?_
    refine a_iconst (x := (-1)) dX11_factOf_101 rfl ⟨by decide, by decide⟩ ?_
    exact a_iret dX11_factOf_102 rfl hy
  by_cases e10 : p0 = 107
  · have hy := hy10 e10
    refine a_tsw (i := 10) (tgt := 80) dX11_factOf_1 (e10.trans (by decide)) (by decide) rfl (by decide) ?_
    refine a_iconst (x := 0) dX11_factOf_80 rfl ⟨by decide, by decide⟩ ?_
    exact a_iret dX11_factOf_81 rfl hy
  by_cases e11 : p0 = 108
  · have hy := hy11 e11
    refine a_tsw (i := 11) (tgt := 88) dX11_factOf_1 (e11.trans (by decide)) (by decide) rfl (by decide) ?_
    refine a_iconst (x := 4) dX11_factOf_88 rfl ⟨by decide, by decide⟩ ?_
    exact a_iret dX11_factOf_89 rfl hy
  by_cases e12 : p0 = 109
  · have hy := hy12 e12
    refine a_tsw (i := 12) (tgt := 101) dX11_factOf_1 (e12.trans (by decide)) (by decide) rfl (by decide) ?_
    refine a_iconst (x := (-1)) dX11_factOf_101 rfl ⟨by decide, by decide⟩ ?_
    exact a_iret dX11_factOf_102 rfl hy
  by_cases e13 : p0 = 110
  · have hy := hy13 e13
    refine a_tsw (i := 13) (tgt := 101) dX11_factOf_1 (e13.trans (by decide)) (by decide) rfl (by decide) ?_
    refine a_iconst (x := (-1)) dX11_factOf_101 rfl ⟨by decide, by decide⟩ ?_
    exact a_iret dX11_factOf_102 rfl hy
  by_cases e14 : p0 = 111
  · have hy := hy14 e14
    refine a_tsw (i := 14) (tgt := 84) dX11_factOf_1 (e14.trans (by decide)) (by decide) rfl (by decide) ?_
    refine a_iconst (x := 2) dX11_factOf_84 rfl ⟨by decide, by decide⟩ ?_
    exact a_iret dX11_factOf_85 rfl hy
  by_cases e15 : p0 = 112
  · have hy := hy15 e15
    refine a_tsw (i := 15) (tgt := 86) dX11_factOf_1 (e15.trans (by decide)) (by decide) rfl (by decide) ?_
    refine a_iconst (x := 3) dX11_factOf_86 rfl ⟨by decide, by decide⟩ ?_
    exact a_iret dX11_factOf_87 rfl hy
  have ed : (p0 < 97 ∨ 112 < p0) := by omega
  have hy := hyd ed
  refine a_tswD (tgt := 101) dX11_factOf_1 ed (by decide) ?_
  refine a_iconst (x := (-1)) dX11_factOf_101 rfl ⟨by decide, by decide⟩ ?_
  exact a_iret dX11_factOf_102 rfl hy
def A_M_far_25 (d : Nat) (Q : Int → AH → Prop) (p1 : Int) (v2 : Int) (v3 : Int) (v4 : Int) (v5 : Int) (h : AH) : Prop := AW d M_M_far Q 25 [some (vR 12 (-1)), some (vI p1), some (vI v2), some (vI v3), some (vI v4), some (vI v5), none] [] h
def A_M_far_37 (d : Nat) (Q : Int → AH → Prop) (p1 : Int) (v2 : Int) (v3 : Int) (v4 : Int) (v5 : Int) (v6 : Int) (h : AH) : Prop := AW d M_M_far Q 37 [some (vR 12 (-1)), some (vI p1), some (vI v2), some (vI v3), some (vI v4), some (vI v5), some (vI v6)] [] h
theorem s_M_far_25 {d : Nat} {Q : Int → AH → Prop} {p1 : Int} {v2 : Int} {v3 : Int} {v4 : Int} {v5 : Int} {h : AH} (hy : (((h.1 12 0) ≤ v5 → ((v2 ≠ (-1) → ((p1 ≠ 0 → ((p1 ≠ 1 → Q v4 h) ∧ (p1 = 1 → Q v3 h))) ∧ (p1 = 0 → Q v2 h))) ∧ (v2 = (-1) → Q (-2) h))) ∧ (v5 < (h.1 12 0) → A_M_far_37 d Q p1 v2 v3 v4 v5 0 h))) : A_M_far_25 d Q p1 v2 v3 v4 v5 h := by
  show AW d M_M_far Q 25 [some (vR 12 (-1)), some (vI p1), some (vI v2), some (vI v3), some (vI v4), some (vI v5), none] [] h
  refine a_iload dX11_far_25 rfl ?_
  refine a_aload_n dX11_far_27 rfl ?_
  refine a_getI' (kz := 0) dX11_far_28 fl_M_130 sk_12 rfl rfl (rfl) ?_
  refine a_icmp_ge (tgt := 114) dX11_far_31 (by decide) (fun c => ?_) (fun c => ?_)
  · have hy := hy.1 c
    refine a_iload_n dX11_far_114 rfl ?_
    refine a_iconst (x := (-1)) dX11_far_115 rfl ⟨by decide, by decide⟩ ?_
    refine a_icmp_ne (tgt := 122) dX11_far_116 (by decide) (fun c => ?_) (fun c => ?_)
    · have hy := hy.1 c
      refine a_iload_n dX11_far_122 rfl ?_
      refine a_if_ne (tgt := 130) dX11_far_123 (by decide) (fun c => ?_) (fun c => ?_)
      · have hy := hy.1 c
        refine a_iload_n dX11_far_130 rfl ?_
        refine a_iconst (x := 1) dX11_far_131 rfl ⟨by decide, by decide⟩ ?_
        refine a_icmp_ne (tgt := 139) dX11_far_132 (by decide) (fun c => ?_) (fun c => ?_)
        · have hy := hy.1 c
          refine a_iload dX11_far_139 rfl ?_
          exact a_iret dX11_far_141 rfl hy
        · have hy := hy.2 (Decidable.not_not.mp c)
          refine a_iload_n dX11_far_135 rfl ?_
          refine a_goto (tgt := 141) dX11_far_136 (by decide) ?_
          exact a_iret dX11_far_141 rfl hy
      · have hy := hy.2 (Decidable.not_not.mp c)
        refine a_iload_n dX11_far_126 rfl ?_
        refine a_goto (tgt := 141) dX11_far_127 (by decide) ?_
        exact a_iret dX11_far_141 rfl hy
    · have hy := hy.2 (Decidable.not_not.mp c)
      refine a_bipush (x := (-2)) dX11_far_119 (by decide) ⟨by decide, by decide⟩ ?_
      exact a_iret dX11_far_121 rfl hy
  · have hy := hy.2 (Int.not_le.mp c)
    refine a_iconst (x := 0) dX11_far_34 rfl ⟨by decide, by decide⟩ ?_
    refine a_istore (ls2 := [some (vR 12 (-1)), some (vI p1), some (vI v2), some (vI v3), some (vI v4), some (vI v5), some (vI 0)]) dX11_far_35 (Nat.le_of_ble_eq_true rfl) rfl ?_
    exact hy
theorem s_M_far_37 {d : Nat} {Q : Int → AH → Prop} {p1 : Int} {v2 : Int} {v3 : Int} {v4 : Int} {v5 : Int} {v6 : Int} {h : AH} (hy : (((h.1 12 0) ≤ v6 → (inI (v5 + 1) ∧ A_M_far_25 d Q p1 v2 v3 v4 (v5 + 1) h)) ∧ (v6 < (h.1 12 0) → ((v5 = v6 → (inI (v6 + 1) ∧ A_M_far_37 d Q p1 v2 v3 v4 v5 (v6 + 1) h)) ∧ (v5 ≠ v6 → (inI (40 * v5) ∧ (inI ((40 * v5) + v6) ∧ (inb ((40 * v5) + v6) 1600 ∧ ((1000000000 ≤ (h.1 81 ((40 * v5) + v6)) → (inI (v6 + 1) ∧ A_M_far_37 d Q p1 v2 v3 v4 v5 (v6 + 1) h)) ∧ ((h.1 81 ((40 * v5) + v6)) < 1000000000 → (Call d M_M_leastOf [vR 12 (-1), vI v5, vI v6] h (fun r8 h7 => ((v2 < r8 → (Call d M_M_leastOf [vR 12 (-1), vI v5, vI v6] h7 (fun r10 h9 => inI (v6 + 1) ∧ A_M_far_37 d Q p1 r10 v5 v6 v5 (v6 + 1) h9))) ∧ (r8 ≤ v2 → (inI (v6 + 1) ∧ A_M_far_37 d Q p1 v2 v3 v4 v5 (v6 + 1) h7))))))))))))))) : A_M_far_37 d Q p1 v2 v3 v4 v5 v6 h := by
  show AW d M_M_far Q 37 [some (vR 12 (-1)), some (vI p1), some (vI v2), some (vI v3), some (vI v4), some (vI v5), some (vI v6)] [] h
  refine a_iload dX11_far_37 rfl ?_
  refine a_aload_n dX11_far_39 rfl ?_
  refine a_getI' (kz := 0) dX11_far_40 fl_M_130 sk_12 rfl rfl (rfl) ?_
  refine a_icmp_ge (tgt := 108) dX11_far_43 (by decide) (fun c => ?_) (fun c => ?_)
  · have hy := hy.1 c
    obtain ⟨c1, hy⟩ := hy
    refine a_iinc (y := v5 + 1) (ls2 := [some (vR 12 (-1)), some (vI p1), some (vI v2), some (vI v3), some (vI v4), some (vI (v5 + 1)), some (vI v6)]) dX11_far_108 rfl rfl c1 rfl ?_
    refine a_goto (tgt := 25) dX11_far_111 (by decide) ?_
    refine a_mask [true, true, true, true, true, true, false] (ls2 := [some (vR 12 (-1)), some (vI p1), some (vI v2), some (vI v3), some (vI v4), some (vI (v5 + 1)), none]) rfl rfl ?_
    exact hy
  · have hy := hy.2 (Int.not_le.mp c)
    refine a_iload dX11_far_46 rfl ?_
    refine a_iload dX11_far_48 rfl ?_
    refine a_icmp_eq (tgt := 102) dX11_far_50 (by decide) (fun c => ?_) (fun c => ?_)
    · have hy := hy.1 c
      obtain ⟨c2, hy⟩ := hy
      refine a_iinc (y := v6 + 1) (ls2 := [some (vR 12 (-1)), some (vI p1), some (vI v2), some (vI v3), some (vI v4), some (vI v5), some (vI (v6 + 1))]) dX11_far_102 rfl rfl c2 rfl ?_
      refine a_goto (tgt := 37) dX11_far_105 (by decide) ?_
      exact hy
    · have hy := hy.2 (c)
      refine a_aload_n dX11_far_53 rfl ?_
      refine a_getR dX11_far_54 fl_M_81 sk_12 rfl ?_
      refine a_bipush (x := 40) dX11_far_57 (by decide) ⟨by decide, by decide⟩ ?_
      refine a_iload dX11_far_59 rfl ?_
      obtain ⟨c3, hy⟩ := hy
      refine a_imul dX11_far_61 c3 ?_
      refine a_iload dX11_far_62 rfl ?_
      obtain ⟨c4, hy⟩ := hy
      refine a_iadd dX11_far_64 c4 ?_
      obtain ⟨c5, hy⟩ := hy
      refine a_iald' dX11_far_65 sk_81 c5 (rfl) ?_
      refine a_ldc (x := 1000000000) dX11_far_66 kc_M_129 ⟨by decide, by decide⟩ ?_
      refine a_icmp_ge (tgt := 102) dX11_far_68 (by decide) (fun c => ?_) (fun c => ?_)
      · have hy := hy.1 c
        obtain ⟨c6, hy⟩ := hy
        refine a_iinc (y := v6 + 1) (ls2 := [some (vR 12 (-1)), some (vI p1), some (vI v2), some (vI v3), some (vI v4), some (vI v5), some (vI (v6 + 1))]) dX11_far_102 rfl rfl c6 rfl ?_
        refine a_goto (tgt := 37) dX11_far_105 (by decide) ?_
        exact hy
      · have hy := hy.2 (Int.not_le.mp c)
        refine a_aload_n dX11_far_71 rfl ?_
        refine a_iload dX11_far_72 rfl ?_
        refine a_iload dX11_far_74 rfl ?_
        refine a_callVi (as := [vI v5, vI v6]) (st := []) dX11_far_76 lk_M_314 sk_12 rfl rfl (Nat.le_of_ble_eq_true rfl) (Or.inl rfl) (Call.mono hy (fun r8 h7 _ hy => ?_))
        refine a_iload_n dX11_far_79 rfl ?_
        refine a_icmp_gt (tgt := 86) dX11_far_80 (by decide) (fun c => ?_) (fun c => ?_)
        · have hy := hy.1 c
          refine a_aload_n dX11_far_86 rfl ?_
          refine a_iload dX11_far_87 rfl ?_
          refine a_iload dX11_far_89 rfl ?_
          refine a_callVi (as := [vI v5, vI v6]) (st := []) dX11_far_91 lk_M_314 sk_12 rfl rfl (Nat.le_of_ble_eq_true rfl) (Or.inl rfl) (Call.mono hy (fun r10 h9 _ hy => ?_))
          refine a_istore_n (i := 2) (ls2 := [some (vR 12 (-1)), some (vI p1), some (vI r10), some (vI v3), some (vI v4), some (vI v5), some (vI v6)]) dX11_far_94 rfl (Nat.le_of_ble_eq_true rfl) rfl ?_
          refine a_iload dX11_far_95 rfl ?_
          refine a_istore_n (i := 3) (ls2 := [some (vR 12 (-1)), some (vI p1), some (vI r10), some (vI v5), some (vI v4), some (vI v5), some (vI v6)]) dX11_far_97 rfl (Nat.le_of_ble_eq_true rfl) rfl ?_
          refine a_iload dX11_far_98 rfl ?_
          refine a_istore (ls2 := [some (vR 12 (-1)), some (vI p1), some (vI r10), some (vI v5), some (vI v6), some (vI v5), some (vI v6)]) dX11_far_100 (Nat.le_of_ble_eq_true rfl) rfl ?_
          obtain ⟨c11, hy⟩ := hy
          refine a_iinc (y := v6 + 1) (ls2 := [some (vR 12 (-1)), some (vI p1), some (vI r10), some (vI v5), some (vI v6), some (vI v5), some (vI (v6 + 1))]) dX11_far_102 rfl rfl c11 rfl ?_
          refine a_goto (tgt := 37) dX11_far_105 (by decide) ?_
          exact hy
        · have hy := hy.2 (Int.not_lt.mp c)
          refine a_goto (tgt := 102) dX11_far_83 (by decide) ?_
          obtain ⟨c12, hy⟩ := hy
          refine a_iinc (y := v6 + 1) (ls2 := [some (vR 12 (-1)), some (vI p1), some (vI v2), some (vI v3), some (vI v4), some (vI v5), some (vI (v6 + 1))]) dX11_far_102 rfl rfl c12 rfl ?_
          refine a_goto (tgt := 37) dX11_far_105 (by decide) ?_
          exact hy
theorem c_M_far {d : Nat} (d0 : Nat) (hd : d0 < d) {p1 : Int} {h : AH} {Q : Int → AH → Prop} (hy : Call d0 M_M_in [vI p1, vI 0, vI 2] h (fun r2 h1 => ((r2 ≠ 0 → (Call d0 M_M_laysWays [vR 12 (-1)] h1 (fun _ h3 => A_M_far_25 d0 Q p1 (-1) (-1) (-1) 0 h3))) ∧ (r2 = 0 → Q (-1) h1)))) : Call d M_M_far [vR 12 (-1), vI p1] h Q := by
  refine ⟨d0, hd, Big.of rfl (Nat.le_of_ble_eq_true rfl) ?_⟩
  show AW d0 M_M_far Q 0 [some (vR 12 (-1)), some (vI p1), none, none, none, none, none] [] h
  refine a_iload_n dX11_far_0 rfl ?_
  refine a_iconst (x := 0) dX11_far_1 rfl ⟨by decide, by decide⟩ ?_
  refine a_iconst (x := 2) dX11_far_2 rfl ⟨by decide, by decide⟩ ?_
  refine a_callSi (as := [vI p1, vI 0, vI 2]) (st := []) dX11_far_3 lk_M_139 rfl rfl (Nat.le_of_ble_eq_true rfl) (Or.inr rfl) (Call.mono hy (fun r2 h1 _ hy => ?_))
  refine a_if_ne (tgt := 11) dX11_far_6 (by decide) (fun c => ?_) (fun c => ?_)
  · have hy := hy.1 c
    refine a_aload_n dX11_far_11 rfl ?_
    refine a_callVv (as := []) (st := []) dX11_far_12 lk_M_306 sk_12 rfl rfl (Nat.le_of_ble_eq_true rfl) rfl (Call.mono hy (fun _ h3 _ hy => ?_))
    refine a_iconst (x := (-1)) dX11_far_15 rfl ⟨by decide, by decide⟩ ?_
    refine a_istore_n (i := 2) (ls2 := [some (vR 12 (-1)), some (vI p1), some (vI (-1)), none, none, none, none]) dX11_far_16 rfl (Nat.le_of_ble_eq_true rfl) rfl ?_
    refine a_iconst (x := (-1)) dX11_far_17 rfl ⟨by decide, by decide⟩ ?_
    refine a_istore_n (i := 3) (ls2 := [some (vR 12 (-1)), some (vI p1), some (vI (-1)), some (vI (-1)), none, none, none]) dX11_far_18 rfl (Nat.le_of_ble_eq_true rfl) rfl ?_
    refine a_iconst (x := (-1)) dX11_far_19 rfl ⟨by decide, by decide⟩ ?_
    refine a_istore (ls2 := [some (vR 12 (-1)), some (vI p1), some (vI (-1)), some (vI (-1)), some (vI (-1)), none, none]) dX11_far_20 (Nat.le_of_ble_eq_true rfl) rfl ?_
    refine a_iconst (x := 0) dX11_far_22 rfl ⟨by decide, by decide⟩ ?_
    refine a_istore (ls2 := [some (vR 12 (-1)), some (vI p1), some (vI (-1)), some (vI (-1)), some (vI (-1)), some (vI 0), none]) dX11_far_23 (Nat.le_of_ble_eq_true rfl) rfl ?_
    exact hy
  · have hy := hy.2 (Decidable.not_not.mp c)
    refine a_iconst (x := (-1)) dX11_far_9 rfl ⟨by decide, by decide⟩ ?_
    exact a_iret dX11_far_10 rfl hy
theorem c_M_farBetween {d : Nat} (d0 : Nat) (hd : d0 < d) {p1 : Int} {p2 : Int} {h : AH} {Q : Int → AH → Prop} (hy : Call d0 M_M_laysRow [vR 12 (-1), vI p1] h (fun _ h1 => Call d0 M_M_farFromRow [vR 12 (-1), vI p2] h1 (fun r3 h2 => Q r3 h2))) : Call d M_M_farBetween [vR 12 (-1), vI p1, vI p2] h Q := by
  refine ⟨d0, hd, Big.of rfl (Nat.le_of_ble_eq_true rfl) ?_⟩
  show AW d0 M_M_farBetween Q 0 [some (vR 12 (-1)), some (vI p1), some (vI p2)] [] h
  refine a_aload_n dX11_farBetween_0 rfl ?_
  refine a_iload_n dX11_farBetween_1 rfl ?_
  refine a_callVv (as := [vI p1]) (st := []) dX11_farBetween_2 lk_M_361 sk_12 rfl rfl (Nat.le_of_ble_eq_true rfl) rfl (Call.mono hy (fun _ h1 _ hy => ?_))
  refine a_aload_n dX11_farBetween_5 rfl ?_
  refine a_iload_n dX11_farBetween_6 rfl ?_
  refine a_callVi (as := [vI p2]) (st := []) dX11_farBetween_7 lk_M_389 sk_12 rfl rfl (Nat.le_of_ble_eq_true rfl) (Or.inl rfl) (Call.mono hy (fun r3 h2 _ hy => ?_))
  exact a_iret dX11_farBetween_10 rfl hy
theorem c_M_farBy {d : Nat} (d0 : Nat) (hd : d0 < d) {p1 : Int} {p2 : Int} {h : AH} {Q : Int → AH → Prop} (hy : Call d0 M_M_isWord [vR 12 (-1), vI p1] h (fun r2 h1 => ((r2 = 0 → Q (-1) h1) ∧ (r2 ≠ 0 → (Call d0 M_M_isWord [vR 12 (-1), vI p2] h1 (fun r4 h3 => ((r4 = 0 → Q (-1) h3) ∧ (r4 ≠ 0 → (Call d0 M_M_farBetween [vR 12 (-1), vI p1, vI p2] h3 (fun r6 h5 => Q r6 h5)))))))))) : Call d M_M_farBy [vR 12 (-1), vI p1, vI p2] h Q := by
  refine ⟨d0, hd, Big.of rfl (Nat.le_of_ble_eq_true rfl) ?_⟩
  show AW d0 M_M_farBy Q 0 [some (vR 12 (-1)), some (vI p1), some (vI p2)] [] h
  refine a_aload_n dX11_farBy_0 rfl ?_
  refine a_iload_n dX11_farBy_1 rfl ?_
  refine a_callVi (as := [vI p1]) (st := []) dX11_farBy_2 lk_M_154 sk_12 rfl rfl (Nat.le_of_ble_eq_true rfl) (Or.inr rfl) (Call.mono hy (fun r2 h1 _ hy => ?_))
  refine a_if_eq (tgt := 25) dX11_farBy_5 (by decide) (fun c => ?_) (fun c => ?_)
  · have hy := hy.1 c
    refine a_iconst (x := (-1)) dX11_farBy_25 rfl ⟨by decide, by decide⟩ ?_
    exact a_iret dX11_farBy_26 rfl hy
  · have hy := hy.2 (c)
    refine a_aload_n dX11_farBy_8 rfl ?_
    refine a_iload_n dX11_farBy_9 rfl ?_
    refine a_callVi (as := [vI p2]) (st := []) dX11_farBy_10 lk_M_154 sk_12 rfl rfl (Nat.le_of_ble_eq_true rfl) (Or.inr rfl) (Call.mono hy (fun r4 h3 _ hy => ?_))
    refine a_if_eq (tgt := 25) dX11_farBy_13 (by decide) (fun c => ?_) (fun c => ?_)
    · have hy := hy.1 c
      refine a_iconst (x := (-1)) dX11_farBy_25 rfl ⟨by decide, by decide⟩ ?_
      exact a_iret dX11_farBy_26 rfl hy
    · have hy := hy.2 (c)
      refine a_aload_n dX11_farBy_16 rfl ?_
      refine a_iload_n dX11_farBy_17 rfl ?_
      refine a_iload_n dX11_farBy_18 rfl ?_
      refine a_callVi (as := [vI p1, vI p2]) (st := []) dX11_farBy_19 lk_M_392 sk_12 rfl rfl (Nat.le_of_ble_eq_true rfl) (Or.inl rfl) (Call.mono hy (fun r6 h5 _ hy => ?_))
      refine a_goto (tgt := 26) dX11_farBy_22 (by decide) ?_
      exact a_iret dX11_farBy_26 rfl hy
def A_M_farFromRow_2 (d : Nat) (Q : Int → AH → Prop) (p1 : Int) (v2 : Int) (h : AH) : Prop := AW d M_M_farFromRow Q 2 [some (vR 12 (-1)), some (vI p1), some (vI v2), none, none] [] h
def A_M_farFromRow_12 (d : Nat) (Q : Int → AH → Prop) (p1 : Int) (v2 : Int) (v3 : Int) (h : AH) : Prop := AW d M_M_farFromRow Q 12 [some (vR 12 (-1)), some (vI p1), some (vI v2), some (vI v3), none] [] h
def A_M_farFromRow_78 (d : Nat) (Q : Int → AH → Prop) (p1 : Int) (v2 : Int) (v3 : Int) (s0 : Int) (h : AH) : Prop := AW d M_M_farFromRow Q 78 [some (vR 12 (-1)), some (vI p1), some (vI v2), some (vI v3), none] [vI s0] h
def A_M_farFromRow_126 (d : Nat) (Q : Int → AH → Prop) (p1 : Int) (v2 : Int) (v3 : Int) (v4 : Int) (h : AH) : Prop := AW d M_M_farFromRow Q 126 [some (vR 12 (-1)), some (vI p1), some (vI v2), some (vI v3), some (vI v4)] [] h
theorem s_M_farFromRow_2 {d : Nat} {Q : Int → AH → Prop} {p1 : Int} {v2 : Int} {h : AH} (hy : (((h.1 12 9) < v2 → (inI (9 * (h.1 12 9)) ∧ (inb p1 40 ∧ (inI ((9 * (h.1 12 9)) + (h.1 58 p1)) ∧ (inb ((9 * (h.1 12 9)) + (h.1 58 p1)) 117 ∧ Q (h.1 90 ((9 * (h.1 12 9)) + (h.1 58 p1))) h))))) ∧ (v2 ≤ (h.1 12 9) → A_M_farFromRow_12 d Q p1 v2 0 h))) : A_M_farFromRow_2 d Q p1 v2 h := by
  show AW d M_M_farFromRow Q 2 [some (vR 12 (-1)), some (vI p1), some (vI v2), none, none] [] h
  refine a_iload_n dX11_farFromRow_2 rfl ?_
  refine a_aload_n dX11_farFromRow_3 rfl ?_
  refine a_getI' (kz := 9) dX11_farFromRow_4 fl_M_136 sk_12 rfl rfl (rfl) ?_
  refine a_icmp_gt (tgt := 151) dX11_farFromRow_7 (by decide) (fun c => ?_) (fun c => ?_)
  · have hy := hy.1 c
    refine a_aload_n dX11_farFromRow_151 rfl ?_
    refine a_getR dX11_farFromRow_152 fl_M_110 sk_12 rfl ?_
    refine a_bipush (x := 9) dX11_farFromRow_155 (by decide) ⟨by decide, by decide⟩ ?_
    refine a_aload_n dX11_farFromRow_157 rfl ?_
    refine a_getI' (kz := 9) dX11_farFromRow_158 fl_M_136 sk_12 rfl rfl (rfl) ?_
    obtain ⟨c1, hy⟩ := hy
    refine a_imul dX11_farFromRow_161 c1 ?_
    refine a_aload_n dX11_farFromRow_162 rfl ?_
    refine a_getR dX11_farFromRow_163 fl_M_7 sk_12 rfl ?_
    refine a_iload_n dX11_farFromRow_166 rfl ?_
    obtain ⟨c2, hy⟩ := hy
    refine a_iald' dX11_farFromRow_167 sk_58 c2 (rfl) ?_
    obtain ⟨c3, hy⟩ := hy
    refine a_iadd dX11_farFromRow_168 c3 ?_
    obtain ⟨c4, hy⟩ := hy
    refine a_iald' dX11_farFromRow_169 sk_90 c4 (rfl) ?_
    exact a_iret dX11_farFromRow_170 rfl hy
  · have hy := hy.2 (Int.not_lt.mp c)
    refine a_iconst (x := 0) dX11_farFromRow_10 rfl ⟨by decide, by decide⟩ ?_
    refine a_istore_n (i := 3) (ls2 := [some (vR 12 (-1)), some (vI p1), some (vI v2), some (vI 0), none]) dX11_farFromRow_11 rfl (Nat.le_of_ble_eq_true rfl) rfl ?_
    exact hy
theorem s_M_farFromRow_12 {d : Nat} {Q : Int → AH → Prop} {p1 : Int} {v2 : Int} {v3 : Int} {h : AH} (hy : inb p1 40 ∧ (((h.1 58 p1) < v3 → (inI (v2 + 1) ∧ A_M_farFromRow_2 d Q p1 (v2 + 1) h)) ∧ (v3 ≤ (h.1 58 p1) → ((v2 ≠ 0 → ((v3 ≠ 0 → (inI (v2 - 1) ∧ (inI (9 * (v2 - 1)) ∧ (inI ((9 * (v2 - 1)) + v3) ∧ (inI (((9 * (v2 - 1)) + v3) - 1) ∧ (inb (((9 * (v2 - 1)) + v3) - 1) 117 ∧ (inb (v2 - 1) 12 ∧ (inI (v3 - 1) ∧ (Call d M_M_letter [vR 12 (-1), vI p1, vI (v3 - 1)] h (fun r11 h10 => inI ((h.1 90 (((9 * (v2 - 1)) + v3) - 1)) + (if (h.1 63 (v2 - 1)) = r11 then (0 : Int) else 1)) ∧ A_M_farFromRow_78 d Q p1 v2 v3 ((h.1 90 (((9 * (v2 - 1)) + v3) - 1)) + (if (h.1 63 (v2 - 1)) = r11 then (0 : Int) else 1)) h10)))))))))) ∧ (v3 = 0 → A_M_farFromRow_78 d Q p1 v2 v3 v2 h))) ∧ (v2 = 0 → A_M_farFromRow_78 d Q p1 v2 v3 v3 h))))) : A_M_farFromRow_12 d Q p1 v2 v3 h := by
  show AW d M_M_farFromRow Q 12 [some (vR 12 (-1)), some (vI p1), some (vI v2), some (vI v3), none] [] h
  refine a_iload_n dX11_farFromRow_12 rfl ?_
  refine a_aload_n dX11_farFromRow_13 rfl ?_
  refine a_getR dX11_farFromRow_14 fl_M_7 sk_12 rfl ?_
  refine a_iload_n dX11_farFromRow_17 rfl ?_
  obtain ⟨c1, hy⟩ := hy
  refine a_iald' dX11_farFromRow_18 sk_58 c1 (rfl) ?_
  refine a_icmp_gt (tgt := 145) dX11_farFromRow_19 (by decide) (fun c => ?_) (fun c => ?_)
  · have hy := hy.1 c
    obtain ⟨c2, hy⟩ := hy
    refine a_iinc (y := v2 + 1) (ls2 := [some (vR 12 (-1)), some (vI p1), some (vI (v2 + 1)), some (vI v3), none]) dX11_farFromRow_145 rfl rfl c2 rfl ?_
    refine a_goto (tgt := 2) dX11_farFromRow_148 (by decide) ?_
    refine a_mask [true, true, true, false, true] (ls2 := [some (vR 12 (-1)), some (vI p1), some (vI (v2 + 1)), none, none]) rfl rfl ?_
    exact hy
  · have hy := hy.2 (Int.not_lt.mp c)
    refine a_iload_n dX11_farFromRow_22 rfl ?_
    refine a_if_ne (tgt := 30) dX11_farFromRow_23 (by decide) (fun c => ?_) (fun c => ?_)
    · have hy := hy.1 c
      refine a_iload_n dX11_farFromRow_30 rfl ?_
      refine a_if_ne (tgt := 38) dX11_farFromRow_31 (by decide) (fun c => ?_) (fun c => ?_)
      · have hy := hy.1 c
        refine a_aload_n dX11_farFromRow_38 rfl ?_
        refine a_getR dX11_farFromRow_39 fl_M_110 sk_12 rfl ?_
        refine a_bipush (x := 9) dX11_farFromRow_42 (by decide) ⟨by decide, by decide⟩ ?_
        refine a_iload_n dX11_farFromRow_44 rfl ?_
        refine a_iconst (x := 1) dX11_farFromRow_45 rfl ⟨by decide, by decide⟩ ?_
        obtain ⟨c3, hy⟩ := hy
        refine a_isub dX11_farFromRow_46 c3 ?_
        obtain ⟨c4, hy⟩ := hy
        refine a_imul dX11_farFromRow_47 c4 ?_
        refine a_iload_n dX11_farFromRow_48 rfl ?_
        obtain ⟨c5, hy⟩ := hy
        refine a_iadd dX11_farFromRow_49 c5 ?_
        refine a_iconst (x := 1) dX11_farFromRow_50 rfl ⟨by decide, by decide⟩ ?_
        obtain ⟨c6, hy⟩ := hy
        refine a_isub dX11_farFromRow_51 c6 ?_
        obtain ⟨c7, hy⟩ := hy
        refine a_iald' dX11_farFromRow_52 sk_90 c7 (rfl) ?_
        refine a_aload_n dX11_farFromRow_53 rfl ?_
        refine a_getR dX11_farFromRow_54 fl_M_26 sk_12 rfl ?_
        refine a_iload_n dX11_farFromRow_57 rfl ?_
        refine a_iconst (x := 1) dX11_farFromRow_58 rfl ⟨by decide, by decide⟩ ?_
        refine a_isub dX11_farFromRow_59 c3 ?_
        obtain ⟨c8, hy⟩ := hy
        refine a_iald' dX11_farFromRow_60 sk_63 c8 (rfl) ?_
        refine a_aload_n dX11_farFromRow_61 rfl ?_
        refine a_iload_n dX11_farFromRow_62 rfl ?_
        refine a_iload_n dX11_farFromRow_63 rfl ?_
        refine a_iconst (x := 1) dX11_farFromRow_64 rfl ⟨by decide, by decide⟩ ?_
        obtain ⟨c9, hy⟩ := hy
        refine a_isub dX11_farFromRow_65 c9 ?_
        refine a_callVi (as := [vI p1, vI (v3 - 1)]) (st := [vI (h.1 63 (v2 - 1)), vI (h.1 90 (((9 * (v2 - 1)) + v3) - 1))]) dX11_farFromRow_66 lk_M_262 sk_12 rfl rfl (Nat.le_of_ble_eq_true rfl) (Or.inl rfl) (Call.mono hy (fun r11 h10 _ hy => ?_))
        have J : AW d M_M_farFromRow Q 77 [some (vR 12 (-1)), some (vI p1), some (vI v2), some (vI v3), none] [vI (if (h.1 63 (v2 - 1)) = r11 then (0 : Int) else 1), vI (h.1 90 (((9 * (v2 - 1)) + v3) - 1))] h10 := by
          obtain ⟨c12, hy⟩ := hy
          refine a_iadd dX11_farFromRow_77 c12 ?_
          exact hy
        refine a_icmp_ne (tgt := 76) dX11_farFromRow_69 (by decide) (fun e13 => ?_) (fun e13 => ?_)
        · refine a_iconst (x := 1) dX11_farFromRow_76 rfl ⟨by decide, by decide⟩ ?_
          exact a_cast (by first | rfl | simp only [if_neg e13]) (by first | rfl | simp only [if_neg e13]) J
        · refine a_iconst (x := 0) dX11_farFromRow_72 rfl ⟨by decide, by decide⟩ ?_
          refine a_goto (tgt := 77) dX11_farFromRow_73 (by decide) ?_
          exact a_cast (by first | rfl | simp only [if_pos (Decidable.not_not.mp e13)]) (by first | rfl | simp only [if_pos (Decidable.not_not.mp e13)]) J
      · have hy := hy.2 (Decidable.not_not.mp c)
        refine a_iload_n dX11_farFromRow_34 rfl ?_
        refine a_goto (tgt := 78) dX11_farFromRow_35 (by decide) ?_
        exact hy
    · have hy := hy.2 (Decidable.not_not.mp c)
      refine a_iload_n dX11_farFromRow_26 rfl ?_
      refine a_goto (tgt := 78) dX11_farFromRow_27 (by decide) ?_
      exact hy
theorem s_M_farFromRow_78 {d : Nat} {Q : Int → AH → Prop} {p1 : Int} {v2 : Int} {v3 : Int} {s0 : Int} {h : AH} (hy : ((v2 ≤ 0 → A_M_farFromRow_126 d Q p1 v2 v3 s0 h) ∧ (0 < v2 → ((v3 ≤ 0 → A_M_farFromRow_126 d Q p1 v2 v3 s0 h) ∧ (0 < v3 → (inI (v2 - 1) ∧ (inI (9 * (v2 - 1)) ∧ (inI ((9 * (v2 - 1)) + v3) ∧ (inb ((9 * (v2 - 1)) + v3) 117 ∧ (inI (9 * v2) ∧ (inI ((9 * v2) + v3) ∧ (inI (((9 * v2) + v3) - 1) ∧ (inb (((9 * v2) + v3) - 1) 117 ∧ (Call d M_M_min [vI (h.1 90 ((9 * (v2 - 1)) + v3)), vI (h.1 90 (((9 * v2) + v3) - 1))] h (fun r10 h9 => inI (1 + r10) ∧ (Call d M_M_min [vI s0, vI (1 + r10)] h9 (fun r13 h12 => A_M_farFromRow_126 d Q p1 v2 v3 r13 h12))))))))))))))))) : A_M_farFromRow_78 d Q p1 v2 v3 s0 h := by
  show AW d M_M_farFromRow Q 78 [some (vR 12 (-1)), some (vI p1), some (vI v2), some (vI v3), none] [vI s0] h
  refine a_istore (ls2 := [some (vR 12 (-1)), some (vI p1), some (vI v2), some (vI v3), some (vI s0)]) dX11_farFromRow_78 (Nat.le_of_ble_eq_true rfl) rfl ?_
  refine a_iload_n dX11_farFromRow_80 rfl ?_
  refine a_if_le (tgt := 126) dX11_farFromRow_81 (by decide) (fun c => ?_) (fun c => ?_)
  · have hy := hy.1 c
    exact hy
  · have hy := hy.2 (Int.not_le.mp c)
    refine a_iload_n dX11_farFromRow_84 rfl ?_
    refine a_if_le (tgt := 126) dX11_farFromRow_85 (by decide) (fun c => ?_) (fun c => ?_)
    · have hy := hy.1 c
      exact hy
    · have hy := hy.2 (Int.not_le.mp c)
      refine a_iload dX11_farFromRow_88 rfl ?_
      refine a_iconst (x := 1) dX11_farFromRow_90 rfl ⟨by decide, by decide⟩ ?_
      refine a_aload_n dX11_farFromRow_91 rfl ?_
      refine a_getR dX11_farFromRow_92 fl_M_110 sk_12 rfl ?_
      refine a_bipush (x := 9) dX11_farFromRow_95 (by decide) ⟨by decide, by decide⟩ ?_
      refine a_iload_n dX11_farFromRow_97 rfl ?_
      refine a_iconst (x := 1) dX11_farFromRow_98 rfl ⟨by decide, by decide⟩ ?_
      obtain ⟨c1, hy⟩ := hy
      refine a_isub dX11_farFromRow_99 c1 ?_
      obtain ⟨c2, hy⟩ := hy
      refine a_imul dX11_farFromRow_100 c2 ?_
      refine a_iload_n dX11_farFromRow_101 rfl ?_
      obtain ⟨c3, hy⟩ := hy
      refine a_iadd dX11_farFromRow_102 c3 ?_
      obtain ⟨c4, hy⟩ := hy
      refine a_iald' dX11_farFromRow_103 sk_90 c4 (rfl) ?_
      refine a_aload_n dX11_farFromRow_104 rfl ?_
      refine a_getR dX11_farFromRow_105 fl_M_110 sk_12 rfl ?_
      refine a_bipush (x := 9) dX11_farFromRow_108 (by decide) ⟨by decide, by decide⟩ ?_
      refine a_iload_n dX11_farFromRow_110 rfl ?_
      obtain ⟨c5, hy⟩ := hy
      refine a_imul dX11_farFromRow_111 c5 ?_
      refine a_iload_n dX11_farFromRow_112 rfl ?_
      obtain ⟨c6, hy⟩ := hy
      refine a_iadd dX11_farFromRow_113 c6 ?_
      refine a_iconst (x := 1) dX11_farFromRow_114 rfl ⟨by decide, by decide⟩ ?_
      obtain ⟨c7, hy⟩ := hy
      refine a_isub dX11_farFromRow_115 c7 ?_
      obtain ⟨c8, hy⟩ := hy
      refine a_iald' dX11_farFromRow_116 sk_90 c8 (rfl) ?_
      refine a_callSi (as := [vI (h.1 90 ((9 * (v2 - 1)) + v3)), vI (h.1 90 (((9 * v2) + v3) - 1))]) (st := [vI 1, vI s0]) dX11_farFromRow_117 lk_M_303 rfl rfl (Nat.le_of_ble_eq_true rfl) (Or.inl rfl) (Call.mono hy (fun r10 h9 _ hy => ?_))
      obtain ⟨c11, hy⟩ := hy
      refine a_iadd dX11_farFromRow_120 c11 ?_
      refine a_callSi (as := [vI s0, vI (1 + r10)]) (st := []) dX11_farFromRow_121 lk_M_303 rfl rfl (Nat.le_of_ble_eq_true rfl) (Or.inl rfl) (Call.mono hy (fun r13 h12 _ hy => ?_))
      refine a_istore (ls2 := [some (vR 12 (-1)), some (vI p1), some (vI v2), some (vI v3), some (vI r13)]) dX11_farFromRow_124 (Nat.le_of_ble_eq_true rfl) rfl ?_
      exact hy
theorem s_M_farFromRow_126 {d : Nat} {Q : Int → AH → Prop} {p1 : Int} {v2 : Int} {v3 : Int} {v4 : Int} {h : AH} (hy : inI (9 * v2) ∧ (inI ((9 * v2) + v3) ∧ (inb ((9 * v2) + v3) 117 ∧ (inI (v3 + 1) ∧ A_M_farFromRow_12 d Q p1 v2 (v3 + 1) (wI h 90 ((9 * v2) + v3) v4))))) : A_M_farFromRow_126 d Q p1 v2 v3 v4 h := by
  show AW d M_M_farFromRow Q 126 [some (vR 12 (-1)), some (vI p1), some (vI v2), some (vI v3), some (vI v4)] [] h
  refine a_aload_n dX11_farFromRow_126 rfl ?_
  refine a_getR dX11_farFromRow_127 fl_M_110 sk_12 rfl ?_
  refine a_bipush (x := 9) dX11_farFromRow_130 (by decide) ⟨by decide, by decide⟩ ?_
  refine a_iload_n dX11_farFromRow_132 rfl ?_
  obtain ⟨c1, hy⟩ := hy
  refine a_imul dX11_farFromRow_133 c1 ?_
  refine a_iload_n dX11_farFromRow_134 rfl ?_
  obtain ⟨c2, hy⟩ := hy
  refine a_iadd dX11_farFromRow_135 c2 ?_
  refine a_iload dX11_farFromRow_136 rfl ?_
  obtain ⟨c3, hy⟩ := hy
  refine a_iast dX11_farFromRow_138 sk_90 c3 ?_
  obtain ⟨c4, hy⟩ := hy
  refine a_iinc (y := v3 + 1) (ls2 := [some (vR 12 (-1)), some (vI p1), some (vI v2), some (vI (v3 + 1)), some (vI v4)]) dX11_farFromRow_139 rfl rfl c4 rfl ?_
  refine a_goto (tgt := 12) dX11_farFromRow_142 (by decide) ?_
  refine a_mask [true, true, true, true, false] (ls2 := [some (vR 12 (-1)), some (vI p1), some (vI v2), some (vI (v3 + 1)), none]) rfl rfl ?_
  exact hy
theorem c_M_farFromRow {d : Nat} (d0 : Nat) (hd : d0 < d) {p1 : Int} {h : AH} {Q : Int → AH → Prop} (hy : A_M_farFromRow_2 d0 Q p1 0 h) : Call d M_M_farFromRow [vR 12 (-1), vI p1] h Q := by
  refine ⟨d0, hd, Big.of rfl (Nat.le_of_ble_eq_true rfl) ?_⟩
  show AW d0 M_M_farFromRow Q 0 [some (vR 12 (-1)), some (vI p1), none, none, none] [] h
  refine a_iconst (x := 0) dX11_farFromRow_0 rfl ⟨by decide, by decide⟩ ?_
  refine a_istore_n (i := 2) (ls2 := [some (vR 12 (-1)), some (vI p1), some (vI 0), none, none]) dX11_farFromRow_1 rfl (Nat.le_of_ble_eq_true rfl) rfl ?_
  exact hy
theorem c_M_feed {d : Nat} (d0 : Nat) (hd : d0 < d) {p1 : Int} {p2 : Int} {p3 : Int} {p4 : Int} {p5 : Int} {h : AH} {Q : Int → AH → Prop} (hy : inI ((h.1 12 11) + 20) ∧ ((((h.1 12 11) + 20) ≤ 200 → (Call d0 M_M_types [vR 12 (-1), vI p1] h (fun _ h2 => Call d0 M_M_types [vR 12 (-1), vI p2] h2 (fun _ h3 => Call d0 M_M_types [vR 12 (-1), vI p3] h3 (fun _ h4 => Call d0 M_M_types [vR 12 (-1), vI p4] h4 (fun _ h5 => Call d0 M_M_types [vR 12 (-1), vI p5] h5 (fun _ h6 => Q (h6.1 12 11) h6))))))) ∧ (200 < ((h.1 12 11) + 20) → Q (-1) h))) : Call d M_M_feed [vR 12 (-1), vI p1, vI p2, vI p3, vI p4, vI p5] h Q := by
  refine ⟨d0, hd, Big.of rfl (Nat.le_of_ble_eq_true rfl) ?_⟩
  show AW d0 M_M_feed Q 0 [some (vR 12 (-1)), some (vI p1), some (vI p2), some (vI p3), some (vI p4), some (vI p5)] [] h
  refine a_aload_n dX11_feed_0 rfl ?_
  refine a_getI' (kz := 11) dX11_feed_1 fl_M_133 sk_12 rfl rfl (rfl) ?_
  refine a_bipush (x := 20) dX11_feed_4 (by decide) ⟨by decide, by decide⟩ ?_
  obtain ⟨c1, hy⟩ := hy
  refine a_iadd dX11_feed_6 c1 ?_
  refine a_sipush (x := 200) dX11_feed_7 (by decide) ⟨by decide, by decide⟩ ?_
  refine a_icmp_le (tgt := 15) dX11_feed_10 (by decide) (fun c => ?_) (fun c => ?_)
  · have hy := hy.1 c
    refine a_aload_n dX11_feed_15 rfl ?_
    refine a_iload_n dX11_feed_16 rfl ?_
    refine a_callVv (as := [vI p1]) (st := []) dX11_feed_17 lk_M_157 sk_12 rfl rfl (Nat.le_of_ble_eq_true rfl) rfl (Call.mono hy (fun _ h2 _ hy => ?_))
    refine a_aload_n dX11_feed_20 rfl ?_
    refine a_iload_n dX11_feed_21 rfl ?_
    refine a_callVv (as := [vI p2]) (st := []) dX11_feed_22 lk_M_157 sk_12 rfl rfl (Nat.le_of_ble_eq_true rfl) rfl (Call.mono hy (fun _ h3 _ hy => ?_))
    refine a_aload_n dX11_feed_25 rfl ?_
    refine a_iload_n dX11_feed_26 rfl ?_
    refine a_callVv (as := [vI p3]) (st := []) dX11_feed_27 lk_M_157 sk_12 rfl rfl (Nat.le_of_ble_eq_true rfl) rfl (Call.mono hy (fun _ h4 _ hy => ?_))
    refine a_aload_n dX11_feed_30 rfl ?_
    refine a_iload dX11_feed_31 rfl ?_
    refine a_callVv (as := [vI p4]) (st := []) dX11_feed_33 lk_M_157 sk_12 rfl rfl (Nat.le_of_ble_eq_true rfl) rfl (Call.mono hy (fun _ h5 _ hy => ?_))
    refine a_aload_n dX11_feed_36 rfl ?_
    refine a_iload dX11_feed_37 rfl ?_
    refine a_callVv (as := [vI p5]) (st := []) dX11_feed_39 lk_M_157 sk_12 rfl rfl (Nat.le_of_ble_eq_true rfl) rfl (Call.mono hy (fun _ h6 _ hy => ?_))
    refine a_aload_n dX11_feed_42 rfl ?_
    refine a_getI' (kz := 11) dX11_feed_43 fl_M_133 sk_12 rfl rfl (rfl) ?_
    exact a_iret dX11_feed_46 rfl hy
  · have hy := hy.2 (Int.not_le.mp c)
    refine a_iconst (x := (-1)) dX11_feed_13 rfl ⟨by decide, by decide⟩ ?_
    exact a_iret dX11_feed_14 rfl hy
def A_M_feels_37 (d : Nat) (Q : Int → AH → Prop) (p1 : Int) (p2 : Int) (p3 : Int) (p4 : Int) (s1 : Int) (s2 : Int) (h : AH) : Prop := AW d M_M_feels Q 37 [some (vR 12 (-1)), some (vI p1), some (vI p2), some (vI p3), some (vI p4)] [vI s2, vI s1, vR 77 (-1)] h
def A_M_feels_77 (d : Nat) (Q : Int → AH → Prop) (p1 : Int) (p2 : Int) (s1 : Int) (s2 : Int) (h : AH) : Prop := AW d M_M_feels Q 77 [some (vR 12 (-1)), some (vI p1), some (vI p2), none, none] [vI s2, vI s1, vR 77 (-1)] h
theorem s_M_feels_37 {d : Nat} {Q : Int → AH → Prop} {p1 : Int} {p2 : Int} {p3 : Int} {p4 : Int} {s1 : Int} {s2 : Int} {h : AH} (hy : inb s1 9 ∧ ((p3 ≠ 2 → ((p3 ≠ 3 → (Call d M_M_letter [vR 12 (-1), vI p2, vI p4] (wI h 77 s1 s2) (fun r3 h2 => A_M_feels_77 d Q p1 p2 3 r3 h2))) ∧ (p3 = 3 → (inI (p4 + 1) ∧ (Call d M_M_letter [vR 12 (-1), vI p1, vI (p4 + 1)] (wI h 77 s1 s2) (fun r6 h5 => A_M_feels_77 d Q p1 p2 3 r6 h5)))))) ∧ (p3 = 2 → A_M_feels_77 d Q p1 p2 3 26 (wI h 77 s1 s2)))) : A_M_feels_37 d Q p1 p2 p3 p4 s1 s2 h := by
  show AW d M_M_feels Q 37 [some (vR 12 (-1)), some (vI p1), some (vI p2), some (vI p3), some (vI p4)] [vI s2, vI s1, vR 77 (-1)] h
  obtain ⟨c1, hy⟩ := hy
  refine a_iast dX11_feels_37 sk_77 c1 ?_
  refine a_aload_n dX11_feels_38 rfl ?_
  refine a_getR dX11_feels_39 fl_M_69 sk_12 rfl ?_
  refine a_iconst (x := 3) dX11_feels_42 rfl ⟨by decide, by decide⟩ ?_
  refine a_iload_n dX11_feels_43 rfl ?_
  refine a_iconst (x := 2) dX11_feels_44 rfl ⟨by decide, by decide⟩ ?_
  refine a_icmp_ne (tgt := 53) dX11_feels_45 (by decide) (fun c => ?_) (fun c => ?_)
  · have hy := hy.1 c
    refine a_iload_n dX11_feels_53 rfl ?_
    refine a_iconst (x := 3) dX11_feels_54 rfl ⟨by decide, by decide⟩ ?_
    refine a_icmp_ne (tgt := 70) dX11_feels_55 (by decide) (fun c => ?_) (fun c => ?_)
    · have hy := hy.1 c
      refine a_aload_n dX11_feels_70 rfl ?_
      refine a_iload_n dX11_feels_71 rfl ?_
      refine a_iload dX11_feels_72 rfl ?_
      refine a_callVi (as := [vI p2, vI p4]) (st := [vI 3, vR 77 (-1)]) dX11_feels_74 lk_M_262 sk_12 rfl rfl (Nat.le_of_ble_eq_true rfl) (Or.inl rfl) (Call.mono hy (fun r3 h2 _ hy => ?_))
      refine a_mask [true, true, true, false, false] (ls2 := [some (vR 12 (-1)), some (vI p1), some (vI p2), none, none]) rfl rfl ?_
      exact hy
    · have hy := hy.2 (Decidable.not_not.mp c)
      refine a_aload_n dX11_feels_58 rfl ?_
      refine a_iload_n dX11_feels_59 rfl ?_
      refine a_iload dX11_feels_60 rfl ?_
      refine a_iconst (x := 1) dX11_feels_62 rfl ⟨by decide, by decide⟩ ?_
      obtain ⟨c4, hy⟩ := hy
      refine a_iadd dX11_feels_63 c4 ?_
      refine a_callVi (as := [vI p1, vI (p4 + 1)]) (st := [vI 3, vR 77 (-1)]) dX11_feels_64 lk_M_262 sk_12 rfl rfl (Nat.le_of_ble_eq_true rfl) (Or.inl rfl) (Call.mono hy (fun r6 h5 _ hy => ?_))
      refine a_goto (tgt := 77) dX11_feels_67 (by decide) ?_
      refine a_mask [true, true, true, false, false] (ls2 := [some (vR 12 (-1)), some (vI p1), some (vI p2), none, none]) rfl rfl ?_
      exact hy
  · have hy := hy.2 (Decidable.not_not.mp c)
    refine a_bipush (x := 26) dX11_feels_48 (by decide) ⟨by decide, by decide⟩ ?_
    refine a_goto (tgt := 77) dX11_feels_50 (by decide) ?_
    refine a_mask [true, true, true, false, false] (ls2 := [some (vR 12 (-1)), some (vI p1), some (vI p2), none, none]) rfl rfl ?_
    exact hy
theorem s_M_feels_77 {d : Nat} {Q : Int → AH → Prop} {p1 : Int} {p2 : Int} {s1 : Int} {s2 : Int} {h : AH} (hy : inb s1 9 ∧ (inb p1 40 ∧ (inb p2 40 ∧ Q 0 (wI (wI (wI (wI (wI (wI h 77 s1 s2) 77 4 (h.1 58 p1)) 77 5 (h.1 60 p1)) 77 6 (h.1 60 p2)) 77 7 p1) 77 8 p2)))) : A_M_feels_77 d Q p1 p2 s1 s2 h := by
  show AW d M_M_feels Q 77 [some (vR 12 (-1)), some (vI p1), some (vI p2), none, none] [vI s2, vI s1, vR 77 (-1)] h
  obtain ⟨c1, hy⟩ := hy
  refine a_iast dX11_feels_77 sk_77 c1 ?_
  refine a_aload_n dX11_feels_78 rfl ?_
  refine a_getR dX11_feels_79 fl_M_69 sk_12 rfl ?_
  refine a_iconst (x := 4) dX11_feels_82 rfl ⟨by decide, by decide⟩ ?_
  refine a_aload_n dX11_feels_83 rfl ?_
  refine a_getR dX11_feels_84 fl_M_7 sk_12 rfl ?_
  refine a_iload_n dX11_feels_87 rfl ?_
  obtain ⟨c2, hy⟩ := hy
  refine a_iald' dX11_feels_88 sk_58 c2 (rI_ne (by decide)) ?_
  refine a_iast dX11_feels_89 sk_77 ⟨by decide, by decide⟩ ?_
  refine a_aload_n dX11_feels_90 rfl ?_
  refine a_getR dX11_feels_91 fl_M_69 sk_12 rfl ?_
  refine a_iconst (x := 5) dX11_feels_94 rfl ⟨by decide, by decide⟩ ?_
  refine a_aload_n dX11_feels_95 rfl ?_
  refine a_getR dX11_feels_96 fl_M_16 sk_12 rfl ?_
  refine a_iload_n dX11_feels_99 rfl ?_
  refine a_iald' dX11_feels_100 sk_60 c2 ((rI_ne (by decide)).trans (rI_ne (by decide))) ?_
  refine a_iast dX11_feels_101 sk_77 ⟨by decide, by decide⟩ ?_
  refine a_aload_n dX11_feels_102 rfl ?_
  refine a_getR dX11_feels_103 fl_M_69 sk_12 rfl ?_
  refine a_bipush (x := 6) dX11_feels_106 (by decide) ⟨by decide, by decide⟩ ?_
  refine a_aload_n dX11_feels_108 rfl ?_
  refine a_getR dX11_feels_109 fl_M_16 sk_12 rfl ?_
  refine a_iload_n dX11_feels_112 rfl ?_
  obtain ⟨c3, hy⟩ := hy
  refine a_iald' dX11_feels_113 sk_60 c3 ((rI_ne (by decide)).trans ((rI_ne (by decide)).trans (rI_ne (by decide)))) ?_
  refine a_iast dX11_feels_114 sk_77 ⟨by decide, by decide⟩ ?_
  refine a_aload_n dX11_feels_115 rfl ?_
  refine a_getR dX11_feels_116 fl_M_69 sk_12 rfl ?_
  refine a_bipush (x := 7) dX11_feels_119 (by decide) ⟨by decide, by decide⟩ ?_
  refine a_iload_n dX11_feels_121 rfl ?_
  refine a_iast dX11_feels_122 sk_77 ⟨by decide, by decide⟩ ?_
  refine a_aload_n dX11_feels_123 rfl ?_
  refine a_getR dX11_feels_124 fl_M_69 sk_12 rfl ?_
  refine a_bipush (x := 8) dX11_feels_127 (by decide) ⟨by decide, by decide⟩ ?_
  refine a_iload_n dX11_feels_129 rfl ?_
  refine a_iast dX11_feels_130 sk_77 ⟨by decide, by decide⟩ ?_
  exact a_vret dX11_feels_131 rfl hy
theorem c_M_feels {d : Nat} (d0 : Nat) (hd : d0 < d) {p1 : Int} {p2 : Int} {p3 : Int} {p4 : Int} {h : AH} {Q : Int → AH → Prop} (hy : ((p3 ≠ 1 → (Call d0 M_M_letter [vR 12 (-1), vI p1, vI p4] (wI (wI h 77 0 p3) 77 1 p4) (fun r2 h1 => A_M_feels_37 d0 Q p1 p2 p3 p4 2 r2 h1))) ∧ (p3 = 1 → A_M_feels_37 d0 Q p1 p2 p3 p4 2 26 (wI (wI h 77 0 p3) 77 1 p4)))) : Call d M_M_feels [vR 12 (-1), vI p1, vI p2, vI p3, vI p4] h Q := by
  refine ⟨d0, hd, Big.of rfl (Nat.le_of_ble_eq_true rfl) ?_⟩
  show AW d0 M_M_feels Q 0 [some (vR 12 (-1)), some (vI p1), some (vI p2), some (vI p3), some (vI p4)] [] h
  refine a_aload_n dX11_feels_0 rfl ?_
  refine a_getR dX11_feels_1 fl_M_69 sk_12 rfl ?_
  refine a_iconst (x := 0) dX11_feels_4 rfl ⟨by decide, by decide⟩ ?_
  refine a_iload_n dX11_feels_5 rfl ?_
  refine a_iast dX11_feels_6 sk_77 ⟨by decide, by decide⟩ ?_
  refine a_aload_n dX11_feels_7 rfl ?_
  refine a_getR dX11_feels_8 fl_M_69 sk_12 rfl ?_
  refine a_iconst (x := 1) dX11_feels_11 rfl ⟨by decide, by decide⟩ ?_
  refine a_iload dX11_feels_12 rfl ?_
  refine a_iast dX11_feels_14 sk_77 ⟨by decide, by decide⟩ ?_
  refine a_aload_n dX11_feels_15 rfl ?_
  refine a_getR dX11_feels_16 fl_M_69 sk_12 rfl ?_
  refine a_iconst (x := 2) dX11_feels_19 rfl ⟨by decide, by decide⟩ ?_
  refine a_iload_n dX11_feels_20 rfl ?_
  refine a_iconst (x := 1) dX11_feels_21 rfl ⟨by decide, by decide⟩ ?_
  refine a_icmp_ne (tgt := 30) dX11_feels_22 (by decide) (fun c => ?_) (fun c => ?_)
  · have hy := hy.1 c
    refine a_aload_n dX11_feels_30 rfl ?_
    refine a_iload_n dX11_feels_31 rfl ?_
    refine a_iload dX11_feels_32 rfl ?_
    refine a_callVi (as := [vI p1, vI p4]) (st := [vI 2, vR 77 (-1)]) dX11_feels_34 lk_M_262 sk_12 rfl rfl (Nat.le_of_ble_eq_true rfl) (Or.inl rfl) (Call.mono hy (fun r2 h1 _ hy => ?_))
    exact hy
  · have hy := hy.2 (Decidable.not_not.mp c)
    refine a_bipush (x := 26) dX11_feels_25 (by decide) ⟨by decide, by decide⟩ ?_
    refine a_goto (tgt := 37) dX11_feels_27 (by decide) ?_
    exact hy
def A_M_game_58 (d : Nat) (Q : Int → AH → Prop) (p1 : Int) (p2 : Int) (v3 : Int) (h : AH) : Prop := AW d M_M_game Q 58 [some (vR 12 (-1)), some (vI p1), some (vI p2), some (vI v3), none] [] h
def A_M_game_139 (d : Nat) (Q : Int → AH → Prop) (p1 : Int) (v3 : Int) (v4 : Int) (h : AH) : Prop := AW d M_M_game Q 139 [some (vR 12 (-1)), some (vI p1), none, some (vI v3), some (vI v4)] [] h
def A_M_game_65 (d : Nat) (Q : Int → AH → Prop) (p1 : Int) (p2 : Int) (v3 : Int) (v4 : Int) (h : AH) : Prop := AW d M_M_game Q 65 [some (vR 12 (-1)), some (vI p1), some (vI p2), some (vI v3), some (vI v4)] [] h
def A_M_game_194 (d : Nat) (Q : Int → AH → Prop) (p1 : Int) (v4 : Int) (h : AH) : Prop := AW d M_M_game Q 194 [some (vR 12 (-1)), some (vI p1), none, none, some (vI v4)] [] h
theorem s_M_game_58 {d : Nat} {Q : Int → AH → Prop} {p1 : Int} {p2 : Int} {v3 : Int} {h : AH} (hy : ((v3 ≤ 0 → ((p2 ≠ 0 → A_M_game_139 d Q p1 (-2) 1 h) ∧ (p2 = 0 → Q (h.1 89 13) h))) ∧ (0 < v3 → A_M_game_65 d Q p1 p2 v3 0 h))) : A_M_game_58 d Q p1 p2 v3 h := by
  show AW d M_M_game Q 58 [some (vR 12 (-1)), some (vI p1), some (vI p2), some (vI v3), none] [] h
  refine a_iload_n dX11_game_58 rfl ?_
  refine a_if_le (tgt := 121) dX11_game_59 (by decide) (fun c => ?_) (fun c => ?_)
  · have hy := hy.1 c
    refine a_iload_n dX11_game_121 rfl ?_
    refine a_if_ne (tgt := 133) dX11_game_122 (by decide) (fun c => ?_) (fun c => ?_)
    · have hy := hy.1 c
      refine a_bipush (x := (-2)) dX11_game_133 (by decide) ⟨by decide, by decide⟩ ?_
      refine a_istore_n (i := 3) (ls2 := [some (vR 12 (-1)), some (vI p1), some (vI p2), some (vI (-2)), none]) dX11_game_135 rfl (Nat.le_of_ble_eq_true rfl) rfl ?_
      refine a_iconst (x := 1) dX11_game_136 rfl ⟨by decide, by decide⟩ ?_
      refine a_istore (ls2 := [some (vR 12 (-1)), some (vI p1), some (vI p2), some (vI (-2)), some (vI 1)]) dX11_game_137 (Nat.le_of_ble_eq_true rfl) rfl ?_
      refine a_mask [true, true, false, true, true] (ls2 := [some (vR 12 (-1)), some (vI p1), none, some (vI (-2)), some (vI 1)]) rfl rfl ?_
      exact hy
    · have hy := hy.2 (Decidable.not_not.mp c)
      refine a_aload_n dX11_game_125 rfl ?_
      refine a_getR dX11_game_126 fl_M_107 sk_12 rfl ?_
      refine a_bipush (x := 13) dX11_game_129 (by decide) ⟨by decide, by decide⟩ ?_
      refine a_iald' dX11_game_131 sk_89 ⟨by decide, by decide⟩ (rfl) ?_
      exact a_iret dX11_game_132 rfl hy
  · have hy := hy.2 (Int.not_le.mp c)
    refine a_iconst (x := 0) dX11_game_62 rfl ⟨by decide, by decide⟩ ?_
    refine a_istore (ls2 := [some (vR 12 (-1)), some (vI p1), some (vI p2), some (vI v3), some (vI 0)]) dX11_game_63 (Nat.le_of_ble_eq_true rfl) rfl ?_
    exact hy
theorem s_M_game_139 {d : Nat} {Q : Int → AH → Prop} {p1 : Int} {v3 : Int} {v4 : Int} {h : AH} (hy : ((p1 ≤ v4 → Q v3 h) ∧ (v4 < p1 → (Call d M_M_stepTold [vR 12 (-1), vI 0, vI v4] h (fun r2 h1 => ((1000000000 ≤ r2 → (inI (v4 + 1) ∧ A_M_game_139 d Q p1 v3 (v4 + 1) h1)) ∧ (r2 < 1000000000 → (inI (13 * (ior 1 (ishl 1 v4))) ∧ (inI ((13 * (ior 1 (ishl 1 v4))) + v4) ∧ (inb ((13 * (ior 1 (ishl 1 v4))) + v4) 53248 ∧ (((h1.1 89 ((13 * (ior 1 (ishl 1 v4))) + v4)) ≠ 0 → (inI (v4 + 1) ∧ A_M_game_139 d Q p1 v3 (v4 + 1) h1)) ∧ ((h1.1 89 ((13 * (ior 1 (ishl 1 v4))) + v4)) = 0 → ((v3 = (-2) → A_M_game_194 d Q p1 v4 h1) ∧ (v3 ≠ (-2) → (inb v4 14 ∧ ((v3 ≤ (h1.1 88 v4) → (inI (v4 + 1) ∧ A_M_game_139 d Q p1 v3 (v4 + 1) h1)) ∧ ((h1.1 88 v4) < v3 → A_M_game_194 d Q p1 v4 h1))))))))))))))))) : A_M_game_139 d Q p1 v3 v4 h := by
  show AW d M_M_game Q 139 [some (vR 12 (-1)), some (vI p1), none, some (vI v3), some (vI v4)] [] h
  refine a_iload dX11_game_139 rfl ?_
  refine a_iload_n dX11_game_141 rfl ?_
  refine a_icmp_ge (tgt := 208) dX11_game_142 (by decide) (fun c => ?_) (fun c => ?_)
  · have hy := hy.1 c
    refine a_iload_n dX11_game_208 rfl ?_
    exact a_iret dX11_game_209 rfl hy
  · have hy := hy.2 (Int.not_le.mp c)
    refine a_aload_n dX11_game_145 rfl ?_
    refine a_iconst (x := 0) dX11_game_146 rfl ⟨by decide, by decide⟩ ?_
    refine a_iload dX11_game_147 rfl ?_
    refine a_callVi (as := [vI 0, vI v4]) (st := []) dX11_game_149 lk_M_370 sk_12 rfl rfl (Nat.le_of_ble_eq_true rfl) (Or.inl rfl) (Call.mono hy (fun r2 h1 _ hy => ?_))
    refine a_ldc (x := 1000000000) dX11_game_152 kc_M_129 ⟨by decide, by decide⟩ ?_
    refine a_icmp_ge (tgt := 202) dX11_game_154 (by decide) (fun c => ?_) (fun c => ?_)
    · have hy := hy.1 c
      obtain ⟨c3, hy⟩ := hy
      refine a_iinc (y := v4 + 1) (ls2 := [some (vR 12 (-1)), some (vI p1), none, some (vI v3), some (vI (v4 + 1))]) dX11_game_202 rfl rfl c3 rfl ?_
      refine a_goto (tgt := 139) dX11_game_205 (by decide) ?_
      exact hy
    · have hy := hy.2 (Int.not_le.mp c)
      refine a_aload_n dX11_game_157 rfl ?_
      refine a_getR dX11_game_158 fl_M_107 sk_12 rfl ?_
      refine a_bipush (x := 13) dX11_game_161 (by decide) ⟨by decide, by decide⟩ ?_
      refine a_iconst (x := 1) dX11_game_163 rfl ⟨by decide, by decide⟩ ?_
      refine a_iconst (x := 1) dX11_game_164 rfl ⟨by decide, by decide⟩ ?_
      refine a_iload dX11_game_165 rfl ?_
      refine a_ishl dX11_game_167 ?_
      refine a_ior dX11_game_168 ?_
      obtain ⟨c4, hy⟩ := hy
      refine a_imul dX11_game_169 c4 ?_
      refine a_iload dX11_game_170 rfl ?_
      obtain ⟨c5, hy⟩ := hy
      refine a_iadd dX11_game_172 c5 ?_
      obtain ⟨c6, hy⟩ := hy
      refine a_iald' dX11_game_173 sk_89 c6 (rfl) ?_
      refine a_if_ne (tgt := 202) dX11_game_174 (by decide) (fun c => ?_) (fun c => ?_)
      · have hy := hy.1 c
        obtain ⟨c7, hy⟩ := hy
        refine a_iinc (y := v4 + 1) (ls2 := [some (vR 12 (-1)), some (vI p1), none, some (vI v3), some (vI (v4 + 1))]) dX11_game_202 rfl rfl c7 rfl ?_
        refine a_goto (tgt := 139) dX11_game_205 (by decide) ?_
        exact hy
      · have hy := hy.2 (Decidable.not_not.mp c)
        refine a_iload_n dX11_game_177 rfl ?_
        refine a_bipush (x := (-2)) dX11_game_178 (by decide) ⟨by decide, by decide⟩ ?_
        refine a_icmp_eq (tgt := 194) dX11_game_180 (by decide) (fun c => ?_) (fun c => ?_)
        · have hy := hy.1 c
          refine a_mask [true, true, true, false, true] (ls2 := [some (vR 12 (-1)), some (vI p1), none, none, some (vI v4)]) rfl rfl ?_
          exact hy
        · have hy := hy.2 (c)
          refine a_aload_n dX11_game_183 rfl ?_
          refine a_getR dX11_game_184 fl_M_103 sk_12 rfl ?_
          refine a_iload dX11_game_187 rfl ?_
          obtain ⟨c8, hy⟩ := hy
          refine a_iald' dX11_game_189 sk_88 c8 (rfl) ?_
          refine a_iload_n dX11_game_190 rfl ?_
          refine a_icmp_ge (tgt := 202) dX11_game_191 (by decide) (fun c => ?_) (fun c => ?_)
          · have hy := hy.1 c
            obtain ⟨c9, hy⟩ := hy
            refine a_iinc (y := v4 + 1) (ls2 := [some (vR 12 (-1)), some (vI p1), none, some (vI v3), some (vI (v4 + 1))]) dX11_game_202 rfl rfl c9 rfl ?_
            refine a_goto (tgt := 139) dX11_game_205 (by decide) ?_
            exact hy
          · have hy := hy.2 (Int.not_le.mp c)
            refine a_mask [true, true, true, false, true] (ls2 := [some (vR 12 (-1)), some (vI p1), none, none, some (vI v4)]) rfl rfl ?_
            exact hy
theorem s_M_game_65 {d : Nat} {Q : Int → AH → Prop} {p1 : Int} {p2 : Int} {v3 : Int} {v4 : Int} {h : AH} (hy : ((p1 ≤ v4 → (inI (v3 - 1) ∧ A_M_game_58 d Q p1 p2 (v3 - 1) h)) ∧ (v4 < p1 → (((iand (ishr v3 v4) 1) ≠ 1 → (inI (v4 + 1) ∧ A_M_game_65 d Q p1 p2 v3 (v4 + 1) h)) ∧ ((iand (ishr v3 v4) 1) = 1 → (inI (13 * v3) ∧ (inI ((13 * v3) + v4) ∧ (Call d M_M_wins [vR 12 (-1), vI p1, vI v3, vI v4] h (fun r6 h5 => inb ((13 * v3) + v4) 53248 ∧ (inI (v4 + 1) ∧ A_M_game_65 d Q p1 p2 v3 (v4 + 1) (wI h5 89 ((13 * v3) + v4) (if r6 = 0 then (0 : Int) else 1)))))))))))) : A_M_game_65 d Q p1 p2 v3 v4 h := by
  show AW d M_M_game Q 65 [some (vR 12 (-1)), some (vI p1), some (vI p2), some (vI v3), some (vI v4)] [] h
  refine a_iload dX11_game_65 rfl ?_
  refine a_iload_n dX11_game_67 rfl ?_
  refine a_icmp_ge (tgt := 115) dX11_game_68 (by decide) (fun c => ?_) (fun c => ?_)
  · have hy := hy.1 c
    obtain ⟨c1, hy⟩ := hy
    refine a_iinc (y := v3 - 1) (ls2 := [some (vR 12 (-1)), some (vI p1), some (vI p2), some (vI (v3 - 1)), some (vI v4)]) dX11_game_115 rfl (by omega) c1 rfl ?_
    refine a_goto (tgt := 58) dX11_game_118 (by decide) ?_
    refine a_mask [true, true, true, true, false] (ls2 := [some (vR 12 (-1)), some (vI p1), some (vI p2), some (vI (v3 - 1)), none]) rfl rfl ?_
    exact hy
  · have hy := hy.2 (Int.not_le.mp c)
    refine a_iload_n dX11_game_71 rfl ?_
    refine a_iload dX11_game_72 rfl ?_
    refine a_ishr dX11_game_74 ?_
    refine a_iconst (x := 1) dX11_game_75 rfl ⟨by decide, by decide⟩ ?_
    refine a_iand dX11_game_76 ?_
    refine a_iconst (x := 1) dX11_game_77 rfl ⟨by decide, by decide⟩ ?_
    refine a_icmp_ne (tgt := 109) dX11_game_78 (by decide) (fun c => ?_) (fun c => ?_)
    · have hy := hy.1 c
      obtain ⟨c2, hy⟩ := hy
      refine a_iinc (y := v4 + 1) (ls2 := [some (vR 12 (-1)), some (vI p1), some (vI p2), some (vI v3), some (vI (v4 + 1))]) dX11_game_109 rfl rfl c2 rfl ?_
      refine a_goto (tgt := 65) dX11_game_112 (by decide) ?_
      exact hy
    · have hy := hy.2 (Decidable.not_not.mp c)
      refine a_aload_n dX11_game_81 rfl ?_
      refine a_getR dX11_game_82 fl_M_107 sk_12 rfl ?_
      refine a_bipush (x := 13) dX11_game_85 (by decide) ⟨by decide, by decide⟩ ?_
      refine a_iload_n dX11_game_87 rfl ?_
      obtain ⟨c3, hy⟩ := hy
      refine a_imul dX11_game_88 c3 ?_
      refine a_iload dX11_game_89 rfl ?_
      obtain ⟨c4, hy⟩ := hy
      refine a_iadd dX11_game_91 c4 ?_
      refine a_aload_n dX11_game_92 rfl ?_
      refine a_iload_n dX11_game_93 rfl ?_
      refine a_iload_n dX11_game_94 rfl ?_
      refine a_iload dX11_game_95 rfl ?_
      refine a_callVi (as := [vI p1, vI v3, vI v4]) (st := [vI ((13 * v3) + v4), vR 89 (-1)]) dX11_game_97 lk_M_386 sk_12 rfl rfl (Nat.le_of_ble_eq_true rfl) (Or.inr rfl) (Call.mono hy (fun r6 h5 _ hy => ?_))
      have J : AW d M_M_game Q 108 [some (vR 12 (-1)), some (vI p1), some (vI p2), some (vI v3), some (vI v4)] [vI (if r6 = 0 then (0 : Int) else 1), vI ((13 * v3) + v4), vR 89 (-1)] h5 := by
        obtain ⟨c7, hy⟩ := hy
        refine a_iast dX11_game_108 sk_89 c7 ?_
        obtain ⟨c8, hy⟩ := hy
        refine a_iinc (y := v4 + 1) (ls2 := [some (vR 12 (-1)), some (vI p1), some (vI p2), some (vI v3), some (vI (v4 + 1))]) dX11_game_109 rfl rfl c8 rfl ?_
        refine a_goto (tgt := 65) dX11_game_112 (by decide) ?_
        exact hy
      refine a_if_eq (tgt := 107) dX11_game_100 (by decide) (fun e9 => ?_) (fun e9 => ?_)
      · refine a_iconst (x := 0) dX11_game_107 rfl ⟨by decide, by decide⟩ ?_
        exact a_cast (by first | rfl | simp only [if_pos e9]) (by first | rfl | simp only [if_pos e9]) J
      · refine a_iconst (x := 1) dX11_game_103 rfl ⟨by decide, by decide⟩ ?_
        refine a_goto (tgt := 108) dX11_game_104 (by decide) ?_
        exact a_cast (by first | rfl | simp only [if_neg e9]) (by first | rfl | simp only [if_neg e9]) J
theorem s_M_game_194 {d : Nat} {Q : Int → AH → Prop} {p1 : Int} {v4 : Int} {h : AH} (hy : inb v4 14 ∧ (inI (v4 + 1) ∧ A_M_game_139 d Q p1 (h.1 88 v4) (v4 + 1) h)) : A_M_game_194 d Q p1 v4 h := by
  show AW d M_M_game Q 194 [some (vR 12 (-1)), some (vI p1), none, none, some (vI v4)] [] h
  refine a_aload_n dX11_game_194 rfl ?_
  refine a_getR dX11_game_195 fl_M_103 sk_12 rfl ?_
  refine a_iload dX11_game_198 rfl ?_
  obtain ⟨c1, hy⟩ := hy
  refine a_iald' dX11_game_200 sk_88 c1 (rfl) ?_
  refine a_istore_n (i := 3) (ls2 := [some (vR 12 (-1)), some (vI p1), none, some (vI (h.1 88 v4)), some (vI v4)]) dX11_game_201 rfl (Nat.le_of_ble_eq_true rfl) rfl ?_
  obtain ⟨c2, hy⟩ := hy
  refine a_iinc (y := v4 + 1) (ls2 := [some (vR 12 (-1)), some (vI p1), none, some (vI (h.1 88 v4)), some (vI (v4 + 1))]) dX11_game_202 rfl rfl c2 rfl ?_
  refine a_goto (tgt := 139) dX11_game_205 (by decide) ?_
  exact hy
theorem c_M_game {d : Nat} (d0 : Nat) (hd : d0 < d) {p1 : Int} {p2 : Int} {h : AH} {Q : Int → AH → Prop} (hy : Call d0 M_M_in [vI p1, vI 2, vI 12] h (fun r2 h1 => ((r2 = 0 → Q (-1) h1) ∧ (r2 ≠ 0 → (Call d0 M_M_in [vI p2, vI 0, vI 1] h1 (fun r4 h3 => ((r4 = 0 → Q (-1) h3) ∧ (r4 ≠ 0 → ((p1 ≤ (h3.1 12 11) → (Call d0 M_M_takesWords [vR 12 (-1), vI p1] h3 (fun r6 h5 => ((r6 = 0 → Q (-3) h5) ∧ (r6 ≠ 0 → (Call d0 M_M_areUsed [vR 12 (-1), vI p1] h5 (fun r8 h7 => ((r8 ≠ 0 → (Call d0 M_M_laysSteps [vR 12 (-1)] h7 (fun _ h9 => inI ((ishl 1 p1) - 1) ∧ A_M_game_58 d0 Q p1 p2 ((ishl 1 p1) - 1) h9))) ∧ (r8 = 0 → Q (-3) h7))))))))) ∧ ((h3.1 12 11) < p1 → Q (-1) h3)))))))))) : Call d M_M_game [vR 12 (-1), vI p1, vI p2] h Q := by
  refine ⟨d0, hd, Big.of rfl (Nat.le_of_ble_eq_true rfl) ?_⟩
  show AW d0 M_M_game Q 0 [some (vR 12 (-1)), some (vI p1), some (vI p2), none, none] [] h
  refine a_iload_n dX11_game_0 rfl ?_
  refine a_iconst (x := 2) dX11_game_1 rfl ⟨by decide, by decide⟩ ?_
  refine a_bipush (x := 12) dX11_game_2 (by decide) ⟨by decide, by decide⟩ ?_
  refine a_callSi (as := [vI p1, vI 2, vI 12]) (st := []) dX11_game_4 lk_M_139 rfl rfl (Nat.le_of_ble_eq_true rfl) (Or.inr rfl) (Call.mono hy (fun r2 h1 _ hy => ?_))
  refine a_if_eq (tgt := 27) dX11_game_7 (by decide) (fun c => ?_) (fun c => ?_)
  · have hy := hy.1 c
    refine a_iconst (x := (-1)) dX11_game_27 rfl ⟨by decide, by decide⟩ ?_
    exact a_iret dX11_game_28 rfl hy
  · have hy := hy.2 (c)
    refine a_iload_n dX11_game_10 rfl ?_
    refine a_iconst (x := 0) dX11_game_11 rfl ⟨by decide, by decide⟩ ?_
    refine a_iconst (x := 1) dX11_game_12 rfl ⟨by decide, by decide⟩ ?_
    refine a_callSi (as := [vI p2, vI 0, vI 1]) (st := []) dX11_game_13 lk_M_139 rfl rfl (Nat.le_of_ble_eq_true rfl) (Or.inr rfl) (Call.mono hy (fun r4 h3 _ hy => ?_))
    refine a_if_eq (tgt := 27) dX11_game_16 (by decide) (fun c => ?_) (fun c => ?_)
    · have hy := hy.1 c
      refine a_iconst (x := (-1)) dX11_game_27 rfl ⟨by decide, by decide⟩ ?_
      exact a_iret dX11_game_28 rfl hy
    · have hy := hy.2 (c)
      refine a_iload_n dX11_game_19 rfl ?_
      refine a_aload_n dX11_game_20 rfl ?_
      refine a_getI' (kz := 11) dX11_game_21 fl_M_133 sk_12 rfl rfl (rfl) ?_
      refine a_icmp_le (tgt := 29) dX11_game_24 (by decide) (fun c => ?_) (fun c => ?_)
      · have hy := hy.1 c
        refine a_aload_n dX11_game_29 rfl ?_
        refine a_iload_n dX11_game_30 rfl ?_
        refine a_callVi (as := [vI p1]) (st := []) dX11_game_31 lk_M_377 sk_12 rfl rfl (Nat.le_of_ble_eq_true rfl) (Or.inr rfl) (Call.mono hy (fun r6 h5 _ hy => ?_))
        refine a_if_eq (tgt := 45) dX11_game_34 (by decide) (fun c => ?_) (fun c => ?_)
        · have hy := hy.1 c
          refine a_bipush (x := (-3)) dX11_game_45 (by decide) ⟨by decide, by decide⟩ ?_
          exact a_iret dX11_game_47 rfl hy
        · have hy := hy.2 (c)
          refine a_aload_n dX11_game_37 rfl ?_
          refine a_iload_n dX11_game_38 rfl ?_
          refine a_callVi (as := [vI p1]) (st := []) dX11_game_39 lk_M_380 sk_12 rfl rfl (Nat.le_of_ble_eq_true rfl) (Or.inr rfl) (Call.mono hy (fun r8 h7 _ hy => ?_))
          refine a_if_ne (tgt := 48) dX11_game_42 (by decide) (fun c => ?_) (fun c => ?_)
          · have hy := hy.1 c
            refine a_aload_n dX11_game_48 rfl ?_
            refine a_callVv (as := []) (st := []) dX11_game_49 lk_M_291 sk_12 rfl rfl (Nat.le_of_ble_eq_true rfl) rfl (Call.mono hy (fun _ h9 _ hy => ?_))
            refine a_iconst (x := 1) dX11_game_52 rfl ⟨by decide, by decide⟩ ?_
            refine a_iload_n dX11_game_53 rfl ?_
            refine a_ishl dX11_game_54 ?_
            refine a_iconst (x := 1) dX11_game_55 rfl ⟨by decide, by decide⟩ ?_
            obtain ⟨c10, hy⟩ := hy
            refine a_isub dX11_game_56 c10 ?_
            refine a_istore_n (i := 3) (ls2 := [some (vR 12 (-1)), some (vI p1), some (vI p2), some (vI ((ishl 1 p1) - 1)), none]) dX11_game_57 rfl (Nat.le_of_ble_eq_true rfl) rfl ?_
            exact hy
          · have hy := hy.2 (Decidable.not_not.mp c)
            refine a_bipush (x := (-3)) dX11_game_45 (by decide) ⟨by decide, by decide⟩ ?_
            exact a_iret dX11_game_47 rfl hy
      · have hy := hy.2 (Int.not_le.mp c)
        refine a_iconst (x := (-1)) dX11_game_27 rfl ⟨by decide, by decide⟩ ?_
        exact a_iret dX11_game_28 rfl hy
def A_M_hasOpenSum_2 (d : Nat) (Q : Int → AH → Prop) (v2 : Int) (h : AH) : Prop := AW d M_M_hasOpenSum Q 2 [some (vR 12 (-1)), none, some (vI v2)] [] h
theorem s_M_hasOpenSum_2 {d : Nat} {Q : Int → AH → Prop} {v2 : Int} {h : AH} (hy : (((h.1 12 17) ≤ v2 → Q 0 h) ∧ (v2 < (h.1 12 17) → (inb v2 180 ∧ (inI (Int.tdiv (h.1 66 v2) 1048576) ∧ (((Int.tdiv (h.1 66 v2) 1048576) ≠ 14 → (inI (v2 + 1) ∧ A_M_hasOpenSum_2 d Q (v2 + 1) h)) ∧ ((Int.tdiv (h.1 66 v2) 1048576) = 14 → Q 1 h))))))) : A_M_hasOpenSum_2 d Q v2 h := by
  show AW d M_M_hasOpenSum Q 2 [some (vR 12 (-1)), none, some (vI v2)] [] h
  refine a_iload_n dX11_hasOpenSum_2 rfl ?_
  refine a_aload_n dX11_hasOpenSum_3 rfl ?_
  refine a_getI' (kz := 17) dX11_hasOpenSum_4 fl_M_191 sk_12 rfl rfl (rfl) ?_
  refine a_icmp_ge (tgt := 32) dX11_hasOpenSum_7 (by decide) (fun c => ?_) (fun c => ?_)
  · have hy := hy.1 c
    refine a_iconst (x := 0) dX11_hasOpenSum_32 rfl ⟨by decide, by decide⟩ ?_
    exact a_zret dX11_hasOpenSum_33 rfl (Or.inl rfl) hy
  · have hy := hy.2 (Int.not_le.mp c)
    refine a_aload_n dX11_hasOpenSum_10 rfl ?_
    refine a_getR dX11_hasOpenSum_11 fl_M_36 sk_12 rfl ?_
    refine a_iload_n dX11_hasOpenSum_14 rfl ?_
    obtain ⟨c1, hy⟩ := hy
    refine a_iald' dX11_hasOpenSum_15 sk_66 c1 (rfl) ?_
    refine a_ldc (x := 1048576) dX11_hasOpenSum_16 kc_M_187 ⟨by decide, by decide⟩ ?_
    obtain ⟨c2, hy⟩ := hy
    refine a_idiv dX11_hasOpenSum_18 (by decide) c2 ?_
    refine a_bipush (x := 14) dX11_hasOpenSum_19 (by decide) ⟨by decide, by decide⟩ ?_
    refine a_icmp_ne (tgt := 26) dX11_hasOpenSum_21 (by decide) (fun c => ?_) (fun c => ?_)
    · have hy := hy.1 c
      obtain ⟨c3, hy⟩ := hy
      refine a_iinc (y := v2 + 1) (ls2 := [some (vR 12 (-1)), none, some (vI (v2 + 1))]) dX11_hasOpenSum_26 rfl rfl c3 rfl ?_
      refine a_goto (tgt := 2) dX11_hasOpenSum_29 (by decide) ?_
      exact hy
    · have hy := hy.2 (Decidable.not_not.mp c)
      refine a_iconst (x := 1) dX11_hasOpenSum_24 rfl ⟨by decide, by decide⟩ ?_
      exact a_zret dX11_hasOpenSum_25 rfl (Or.inr rfl) hy
theorem c_M_hasOpenSum {d : Nat} (d0 : Nat) (hd : d0 < d) {p1 : Int} {h : AH} {Q : Int → AH → Prop} (hy : A_M_hasOpenSum_2 d0 Q p1 h) : Call d M_M_hasOpenSum [vR 12 (-1), vI p1] h Q := by
  refine ⟨d0, hd, Big.of rfl (Nat.le_of_ble_eq_true rfl) ?_⟩
  show AW d0 M_M_hasOpenSum Q 0 [some (vR 12 (-1)), some (vI p1), none] [] h
  refine a_iload_n dX11_hasOpenSum_0 rfl ?_
  refine a_istore_n (i := 2) (ls2 := [some (vR 12 (-1)), some (vI p1), some (vI p1)]) dX11_hasOpenSum_1 rfl (Nat.le_of_ble_eq_true rfl) rfl ?_
  refine a_mask [true, false, true] (ls2 := [some (vR 12 (-1)), none, some (vI p1)]) rfl rfl ?_
  exact hy
theorem c_M_heap {d : Nat} (d0 : Nat) (hd : d0 < d) {p1 : Int} {h : AH} {Q : Int → AH → Prop} (hy : Call d0 M_M_isWord [vR 12 (-1), vI p1] h (fun r2 h1 => ((r2 ≠ 0 → (Call d0 M_M_isUsed [vR 12 (-1), vI p1] h1 (fun r4 h3 => ((r4 ≠ 0 → (Call d0 M_M_laysWays [vR 12 (-1)] h3 (fun _ h5 => Call d0 M_M_heapOf [vR 12 (-1), vI p1] h5 (fun r7 h6 => Q r7 h6)))) ∧ (r4 = 0 → Q (-2) h3))))) ∧ (r2 = 0 → Q (-1) h1)))) : Call d M_M_heap [vR 12 (-1), vI p1] h Q := by
  refine ⟨d0, hd, Big.of rfl (Nat.le_of_ble_eq_true rfl) ?_⟩
  show AW d0 M_M_heap Q 0 [some (vR 12 (-1)), some (vI p1)] [] h
  refine a_aload_n dX11_heap_0 rfl ?_
  refine a_iload_n dX11_heap_1 rfl ?_
  refine a_callVi (as := [vI p1]) (st := []) dX11_heap_2 lk_M_154 sk_12 rfl rfl (Nat.le_of_ble_eq_true rfl) (Or.inr rfl) (Call.mono hy (fun r2 h1 _ hy => ?_))
  refine a_if_ne (tgt := 10) dX11_heap_5 (by decide) (fun c => ?_) (fun c => ?_)
  · have hy := hy.1 c
    refine a_aload_n dX11_heap_10 rfl ?_
    refine a_iload_n dX11_heap_11 rfl ?_
    refine a_callVi (as := [vI p1]) (st := []) dX11_heap_12 lk_M_282 sk_12 rfl rfl (Nat.le_of_ble_eq_true rfl) (Or.inr rfl) (Call.mono hy (fun r4 h3 _ hy => ?_))
    refine a_if_ne (tgt := 21) dX11_heap_15 (by decide) (fun c => ?_) (fun c => ?_)
    · have hy := hy.1 c
      refine a_aload_n dX11_heap_21 rfl ?_
      refine a_callVv (as := []) (st := []) dX11_heap_22 lk_M_306 sk_12 rfl rfl (Nat.le_of_ble_eq_true rfl) rfl (Call.mono hy (fun _ h5 _ hy => ?_))
      refine a_aload_n dX11_heap_25 rfl ?_
      refine a_iload_n dX11_heap_26 rfl ?_
      refine a_callVi (as := [vI p1]) (st := []) dX11_heap_27 lk_M_326 sk_12 rfl rfl (Nat.le_of_ble_eq_true rfl) (Or.inl rfl) (Call.mono hy (fun r7 h6 _ hy => ?_))
      exact a_iret dX11_heap_30 rfl hy
    · have hy := hy.2 (Decidable.not_not.mp c)
      refine a_bipush (x := (-2)) dX11_heap_18 (by decide) ⟨by decide, by decide⟩ ?_
      exact a_iret dX11_heap_20 rfl hy
  · have hy := hy.2 (Decidable.not_not.mp c)
    refine a_iconst (x := (-1)) dX11_heap_8 rfl ⟨by decide, by decide⟩ ?_
    exact a_iret dX11_heap_9 rfl hy
def A_M_heapOf_2 (d : Nat) (Q : Int → AH → Prop) (p1 : Int) (v2 : Int) (h : AH) : Prop := AW d M_M_heapOf Q 2 [some (vR 12 (-1)), some (vI p1), some (vI v2)] [] h
theorem s_M_heapOf_2 {d : Nat} {Q : Int → AH → Prop} {p1 : Int} {v2 : Int} {h : AH} (hy : inI (40 * p1) ∧ (inI ((40 * p1) + v2) ∧ (inb ((40 * p1) + v2) 1600 ∧ ((1000000000 ≤ (h.1 81 ((40 * p1) + v2)) → (inI (v2 + 1) ∧ A_M_heapOf_2 d Q p1 (v2 + 1) h)) ∧ ((h.1 81 ((40 * p1) + v2)) < 1000000000 → (inI (40 * v2) ∧ (inI ((40 * v2) + p1) ∧ (inb ((40 * v2) + p1) 1600 ∧ (((h.1 81 ((40 * v2) + p1)) < 1000000000 → Q v2 h) ∧ (1000000000 ≤ (h.1 81 ((40 * v2) + p1)) → (inI (v2 + 1) ∧ A_M_heapOf_2 d Q p1 (v2 + 1) h))))))))))) : A_M_heapOf_2 d Q p1 v2 h := by
  show AW d M_M_heapOf Q 2 [some (vR 12 (-1)), some (vI p1), some (vI v2)] [] h
  refine a_aload_n dX11_heapOf_2 rfl ?_
  refine a_getR dX11_heapOf_3 fl_M_81 sk_12 rfl ?_
  refine a_bipush (x := 40) dX11_heapOf_6 (by decide) ⟨by decide, by decide⟩ ?_
  refine a_iload_n dX11_heapOf_8 rfl ?_
  obtain ⟨c1, hy⟩ := hy
  refine a_imul dX11_heapOf_9 c1 ?_
  refine a_iload_n dX11_heapOf_10 rfl ?_
  obtain ⟨c2, hy⟩ := hy
  refine a_iadd dX11_heapOf_11 c2 ?_
  obtain ⟨c3, hy⟩ := hy
  refine a_iald' dX11_heapOf_12 sk_81 c3 (rfl) ?_
  refine a_ldc (x := 1000000000) dX11_heapOf_13 kc_M_129 ⟨by decide, by decide⟩ ?_
  refine a_icmp_ge (tgt := 34) dX11_heapOf_15 (by decide) (fun c => ?_) (fun c => ?_)
  · have hy := hy.1 c
    refine a_iload_n dX11_heapOf_34 rfl ?_
    refine a_iconst (x := 1) dX11_heapOf_35 rfl ⟨by decide, by decide⟩ ?_
    obtain ⟨c4, hy⟩ := hy
    refine a_iadd dX11_heapOf_36 c4 ?_
    refine a_istore_n (i := 2) (ls2 := [some (vR 12 (-1)), some (vI p1), some (vI (v2 + 1))]) dX11_heapOf_37 rfl (Nat.le_of_ble_eq_true rfl) rfl ?_
    refine a_goto (tgt := 2) dX11_heapOf_38 (by decide) ?_
    exact hy
  · have hy := hy.2 (Int.not_le.mp c)
    refine a_aload_n dX11_heapOf_18 rfl ?_
    refine a_getR dX11_heapOf_19 fl_M_81 sk_12 rfl ?_
    refine a_bipush (x := 40) dX11_heapOf_22 (by decide) ⟨by decide, by decide⟩ ?_
    refine a_iload_n dX11_heapOf_24 rfl ?_
    obtain ⟨c5, hy⟩ := hy
    refine a_imul dX11_heapOf_25 c5 ?_
    refine a_iload_n dX11_heapOf_26 rfl ?_
    obtain ⟨c6, hy⟩ := hy
    refine a_iadd dX11_heapOf_27 c6 ?_
    obtain ⟨c7, hy⟩ := hy
    refine a_iald' dX11_heapOf_28 sk_81 c7 (rfl) ?_
    refine a_ldc (x := 1000000000) dX11_heapOf_29 kc_M_129 ⟨by decide, by decide⟩ ?_
    refine a_icmp_lt (tgt := 41) dX11_heapOf_31 (by decide) (fun c => ?_) (fun c => ?_)
    · have hy := hy.1 c
      refine a_iload_n dX11_heapOf_41 rfl ?_
      exact a_iret dX11_heapOf_42 rfl hy
    · have hy := hy.2 (Int.not_lt.mp c)
      refine a_iload_n dX11_heapOf_34 rfl ?_
      refine a_iconst (x := 1) dX11_heapOf_35 rfl ⟨by decide, by decide⟩ ?_
      obtain ⟨c8, hy⟩ := hy
      refine a_iadd dX11_heapOf_36 c8 ?_
      refine a_istore_n (i := 2) (ls2 := [some (vR 12 (-1)), some (vI p1), some (vI (v2 + 1))]) dX11_heapOf_37 rfl (Nat.le_of_ble_eq_true rfl) rfl ?_
      refine a_goto (tgt := 2) dX11_heapOf_38 (by decide) ?_
      exact hy
theorem c_M_heapOf {d : Nat} (d0 : Nat) (hd : d0 < d) {p1 : Int} {h : AH} {Q : Int → AH → Prop} (hy : A_M_heapOf_2 d0 Q p1 0 h) : Call d M_M_heapOf [vR 12 (-1), vI p1] h Q := by
  refine ⟨d0, hd, Big.of rfl (Nat.le_of_ble_eq_true rfl) ?_⟩
  show AW d0 M_M_heapOf Q 0 [some (vR 12 (-1)), some (vI p1), none] [] h
  refine a_iconst (x := 0) dX11_heapOf_0 rfl ⟨by decide, by decide⟩ ?_
  refine a_istore_n (i := 2) (ls2 := [some (vR 12 (-1)), some (vI p1), some (vI 0)]) dX11_heapOf_1 rfl (Nat.le_of_ble_eq_true rfl) rfl ?_
  exact hy
def A_M_heaps_8 (d : Nat) (Q : Int → AH → Prop) (v1 : Int) (v2 : Int) (h : AH) : Prop := AW d M_M_heaps Q 8 [some (vR 12 (-1)), some (vI v1), some (vI v2)] [] h
theorem s_M_heaps_8 {d : Nat} {Q : Int → AH → Prop} {v1 : Int} {v2 : Int} {h : AH} (hy : (((h.1 12 0) ≤ v2 → Q v1 h) ∧ (v2 < (h.1 12 0) → (Call d M_M_isUsed [vR 12 (-1), vI v2] h (fun r2 h1 => ((r2 = 0 → (inI (v1 + 0) ∧ (inI (v2 + 1) ∧ A_M_heaps_8 d Q (v1 + 0) (v2 + 1) h1))) ∧ (r2 ≠ 0 → (Call d M_M_heapOf [vR 12 (-1), vI v2] h1 (fun r6 h5 => ((r6 ≠ v2 → (inI (v1 + 0) ∧ (inI (v2 + 1) ∧ A_M_heaps_8 d Q (v1 + 0) (v2 + 1) h5))) ∧ (r6 = v2 → (inI (v1 + 1) ∧ (inI (v2 + 1) ∧ A_M_heaps_8 d Q (v1 + 1) (v2 + 1) h5))))))))))))) : A_M_heaps_8 d Q v1 v2 h := by
  show AW d M_M_heaps Q 8 [some (vR 12 (-1)), some (vI v1), some (vI v2)] [] h
  refine a_iload_n dX11_heaps_8 rfl ?_
  refine a_aload_n dX11_heaps_9 rfl ?_
  refine a_getI' (kz := 0) dX11_heaps_10 fl_M_130 sk_12 rfl rfl (rfl) ?_
  refine a_icmp_ge (tgt := 47) dX11_heaps_13 (by decide) (fun c => ?_) (fun c => ?_)
  · have hy := hy.1 c
    refine a_iload_n dX11_heaps_47 rfl ?_
    exact a_iret dX11_heaps_48 rfl hy
  · have hy := hy.2 (Int.not_le.mp c)
    refine a_iload_n dX11_heaps_16 rfl ?_
    refine a_aload_n dX11_heaps_17 rfl ?_
    refine a_iload_n dX11_heaps_18 rfl ?_
    refine a_callVi (as := [vI v2]) (st := [vI v1]) dX11_heaps_19 lk_M_282 sk_12 rfl rfl (Nat.le_of_ble_eq_true rfl) (Or.inr rfl) (Call.mono hy (fun r2 h1 _ hy => ?_))
    refine a_if_eq (tgt := 38) dX11_heaps_22 (by decide) (fun c => ?_) (fun c => ?_)
    · have hy := hy.1 c
      refine a_iconst (x := 0) dX11_heaps_38 rfl ⟨by decide, by decide⟩ ?_
      obtain ⟨c3, hy⟩ := hy
      refine a_iadd dX11_heaps_39 c3 ?_
      refine a_istore_n (i := 1) (ls2 := [some (vR 12 (-1)), some (vI (v1 + 0)), some (vI v2)]) dX11_heaps_40 rfl (Nat.le_of_ble_eq_true rfl) rfl ?_
      obtain ⟨c4, hy⟩ := hy
      refine a_iinc (y := v2 + 1) (ls2 := [some (vR 12 (-1)), some (vI (v1 + 0)), some (vI (v2 + 1))]) dX11_heaps_41 rfl rfl c4 rfl ?_
      refine a_goto (tgt := 8) dX11_heaps_44 (by decide) ?_
      exact hy
    · have hy := hy.2 (c)
      refine a_aload_n dX11_heaps_25 rfl ?_
      refine a_iload_n dX11_heaps_26 rfl ?_
      refine a_callVi (as := [vI v2]) (st := [vI v1]) dX11_heaps_27 lk_M_326 sk_12 rfl rfl (Nat.le_of_ble_eq_true rfl) (Or.inl rfl) (Call.mono hy (fun r6 h5 _ hy => ?_))
      refine a_iload_n dX11_heaps_30 rfl ?_
      refine a_icmp_ne (tgt := 38) dX11_heaps_31 (by decide) (fun c => ?_) (fun c => ?_)
      · have hy := hy.1 c
        refine a_iconst (x := 0) dX11_heaps_38 rfl ⟨by decide, by decide⟩ ?_
        obtain ⟨c7, hy⟩ := hy
        refine a_iadd dX11_heaps_39 c7 ?_
        refine a_istore_n (i := 1) (ls2 := [some (vR 12 (-1)), some (vI (v1 + 0)), some (vI v2)]) dX11_heaps_40 rfl (Nat.le_of_ble_eq_true rfl) rfl ?_
        obtain ⟨c8, hy⟩ := hy
        refine a_iinc (y := v2 + 1) (ls2 := [some (vR 12 (-1)), some (vI (v1 + 0)), some (vI (v2 + 1))]) dX11_heaps_41 rfl rfl c8 rfl ?_
        refine a_goto (tgt := 8) dX11_heaps_44 (by decide) ?_
        exact hy
      · have hy := hy.2 (Decidable.not_not.mp c)
        refine a_iconst (x := 1) dX11_heaps_34 rfl ⟨by decide, by decide⟩ ?_
        refine a_goto (tgt := 39) dX11_heaps_35 (by decide) ?_
        obtain ⟨c9, hy⟩ := hy
        refine a_iadd dX11_heaps_39 c9 ?_
        refine a_istore_n (i := 1) (ls2 := [some (vR 12 (-1)), some (vI (v1 + 1)), some (vI v2)]) dX11_heaps_40 rfl (Nat.le_of_ble_eq_true rfl) rfl ?_
        obtain ⟨c10, hy⟩ := hy
        refine a_iinc (y := v2 + 1) (ls2 := [some (vR 12 (-1)), some (vI (v1 + 1)), some (vI (v2 + 1))]) dX11_heaps_41 rfl rfl c10 rfl ?_
        refine a_goto (tgt := 8) dX11_heaps_44 (by decide) ?_
        exact hy
theorem c_M_heaps {d : Nat} (d0 : Nat) (hd : d0 < d)  {h : AH} {Q : Int → AH → Prop} (hy : Call d0 M_M_laysWays [vR 12 (-1)] h (fun _ h1 => A_M_heaps_8 d0 Q 0 0 h1)) : Call d M_M_heaps [vR 12 (-1)] h Q := by
  refine ⟨d0, hd, Big.of rfl (Nat.le_of_ble_eq_true rfl) ?_⟩
  show AW d0 M_M_heaps Q 0 [some (vR 12 (-1)), none, none] [] h
  refine a_aload_n dX11_heaps_0 rfl ?_
  refine a_callVv (as := []) (st := []) dX11_heaps_1 lk_M_306 sk_12 rfl rfl (Nat.le_of_ble_eq_true rfl) rfl (Call.mono hy (fun _ h1 _ hy => ?_))
  refine a_iconst (x := 0) dX11_heaps_4 rfl ⟨by decide, by decide⟩ ?_
  refine a_istore_n (i := 1) (ls2 := [some (vR 12 (-1)), some (vI 0), none]) dX11_heaps_5 rfl (Nat.le_of_ble_eq_true rfl) rfl ?_
  refine a_iconst (x := 0) dX11_heaps_6 rfl ⟨by decide, by decide⟩ ?_
  refine a_istore_n (i := 2) (ls2 := [some (vR 12 (-1)), some (vI 0), some (vI 0)]) dX11_heaps_7 rfl (Nat.le_of_ble_eq_true rfl) rfl ?_
  exact hy
theorem c_M_here {d : Nat} (d0 : Nat) (hd : d0 < d)  {h : AH} {Q : Int → AH → Prop} (hy : (((h.1 12 13) ≤ (h.1 12 12) → Q (-1) h) ∧ ((h.1 12 12) < (h.1 12 13) → (inb (h.1 12 12) 200 ∧ Q (iand (h.1 64 (h.1 12 12)) 255) h)))) : Call d M_M_here [vR 12 (-1)] h Q := by
  refine ⟨d0, hd, Big.of rfl (Nat.le_of_ble_eq_true rfl) ?_⟩
  show AW d0 M_M_here Q 0 [some (vR 12 (-1))] [] h
  refine a_aload_n dX11_here_0 rfl ?_
  refine a_getI' (kz := 12) dX11_here_1 fl_M_161 sk_12 rfl rfl (rfl) ?_
  refine a_aload_n dX11_here_4 rfl ?_
  refine a_getI' (kz := 13) dX11_here_5 fl_M_164 sk_12 rfl rfl (rfl) ?_
  refine a_icmp_ge (tgt := 27) dX11_here_8 (by decide) (fun c => ?_) (fun c => ?_)
  · have hy := hy.1 c
    refine a_iconst (x := (-1)) dX11_here_27 rfl ⟨by decide, by decide⟩ ?_
    exact a_iret dX11_here_28 rfl hy
  · have hy := hy.2 (Int.not_le.mp c)
    refine a_aload_n dX11_here_11 rfl ?_
    refine a_getR dX11_here_12 fl_M_29 sk_12 rfl ?_
    refine a_aload_n dX11_here_15 rfl ?_
    refine a_getI' (kz := 12) dX11_here_16 fl_M_161 sk_12 rfl rfl (rfl) ?_
    obtain ⟨c1, hy⟩ := hy
    refine a_bald' dX11_here_19 sk_64 c1 (rfl) ?_
    refine a_sipush (x := 255) dX11_here_20 (by decide) ⟨by decide, by decide⟩ ?_
    refine a_iand dX11_here_23 ?_
    refine a_goto (tgt := 28) dX11_here_24 (by decide) ?_
    exact a_iret dX11_here_28 rfl hy
def A_M_howMany_44 (d : Nat) (Q : Int → AH → Prop) (p1 : Int) (p2 : Int) (v3 : Int) (h : AH) : Prop := AW d M_M_howMany Q 44 [some (vR 12 (-1)), some (vI p1), some (vI p2), some (vI v3), none, none] [] h
def A_M_howMany_84 (d : Nat) (Q : Int → AH → Prop) (p1 : Int) (p2 : Int) (v3 : Int) (v4 : Int) (h : AH) : Prop := AW d M_M_howMany Q 84 [some (vR 12 (-1)), some (vI p1), some (vI p2), some (vI v3), some (vI v4), none] [] h
def A_M_howMany_93 (d : Nat) (Q : Int → AH → Prop) (p1 : Int) (p2 : Int) (v3 : Int) (v4 : Int) (v5 : Int) (h : AH) : Prop := AW d M_M_howMany Q 93 [some (vR 12 (-1)), some (vI p1), some (vI p2), some (vI v3), some (vI v4), some (vI v5)] [] h
theorem s_M_howMany_44 {d : Nat} {Q : Int → AH → Prop} {p1 : Int} {p2 : Int} {v3 : Int} {h : AH} (hy : (((h.1 12 0) ≤ v3 → (Call d M_M_leastOf [vR 12 (-1), vI p1, vI p2] h (fun r2 h1 => A_M_howMany_84 d Q p1 p2 r2 1 h1))) ∧ (v3 < (h.1 12 0) → (inb v3 40 ∧ (inI (v3 + 1) ∧ A_M_howMany_44 d Q p1 p2 (v3 + 1) (wL h 82 v3 (if v3 = p2 then (1 : Int) else 0))))))) : A_M_howMany_44 d Q p1 p2 v3 h := by
  show AW d M_M_howMany Q 44 [some (vR 12 (-1)), some (vI p1), some (vI p2), some (vI v3), none, none] [] h
  refine a_iload_n dX11_howMany_44 rfl ?_
  refine a_aload_n dX11_howMany_45 rfl ?_
  refine a_getI' (kz := 0) dX11_howMany_46 fl_M_130 sk_12 rfl rfl (rfl) ?_
  refine a_icmp_ge (tgt := 74) dX11_howMany_49 (by decide) (fun c => ?_) (fun c => ?_)
  · have hy := hy.1 c
    refine a_aload_n dX11_howMany_74 rfl ?_
    refine a_iload_n dX11_howMany_75 rfl ?_
    refine a_iload_n dX11_howMany_76 rfl ?_
    refine a_callVi (as := [vI p1, vI p2]) (st := []) dX11_howMany_77 lk_M_314 sk_12 rfl rfl (Nat.le_of_ble_eq_true rfl) (Or.inl rfl) (Call.mono hy (fun r2 h1 _ hy => ?_))
    refine a_istore_n (i := 3) (ls2 := [some (vR 12 (-1)), some (vI p1), some (vI p2), some (vI r2), none, none]) dX11_howMany_80 rfl (Nat.le_of_ble_eq_true rfl) rfl ?_
    refine a_iconst (x := 1) dX11_howMany_81 rfl ⟨by decide, by decide⟩ ?_
    refine a_istore (ls2 := [some (vR 12 (-1)), some (vI p1), some (vI p2), some (vI r2), some (vI 1), none]) dX11_howMany_82 (Nat.le_of_ble_eq_true rfl) rfl ?_
    exact hy
  · have hy := hy.2 (Int.not_le.mp c)
    refine a_aload_n dX11_howMany_52 rfl ?_
    refine a_getR dX11_howMany_53 fl_M_84 sk_12 rfl ?_
    refine a_iload_n dX11_howMany_56 rfl ?_
    refine a_iload_n dX11_howMany_57 rfl ?_
    refine a_iload_n dX11_howMany_58 rfl ?_
    have J : AW d M_M_howMany Q 67 [some (vR 12 (-1)), some (vI p1), some (vI p2), some (vI v3), none, none] [vL (if v3 = p2 then (1 : Int) else 0), vI v3, vR 82 (-1)] h := by
      obtain ⟨c3, hy⟩ := hy
      refine a_last dX11_howMany_67 sk_82 c3 ?_
      obtain ⟨c4, hy⟩ := hy
      refine a_iinc (y := v3 + 1) (ls2 := [some (vR 12 (-1)), some (vI p1), some (vI p2), some (vI (v3 + 1)), none, none]) dX11_howMany_68 rfl rfl c4 rfl ?_
      refine a_goto (tgt := 44) dX11_howMany_71 (by decide) ?_
      exact hy
    refine a_icmp_ne (tgt := 66) dX11_howMany_59 (by decide) (fun e5 => ?_) (fun e5 => ?_)
    · refine a_lconst (x := 0) dX11_howMany_66 rfl ⟨by decide, by decide⟩ ?_
      exact a_cast (by first | rfl | simp only [if_neg e5]) (by first | rfl | simp only [if_neg e5]) J
    · refine a_lconst (x := 1) dX11_howMany_62 rfl ⟨by decide, by decide⟩ ?_
      refine a_goto (tgt := 67) dX11_howMany_63 (by decide) ?_
      exact a_cast (by first | rfl | simp only [if_pos (Decidable.not_not.mp e5)]) (by first | rfl | simp only [if_pos (Decidable.not_not.mp e5)]) J
theorem s_M_howMany_84 {d : Nat} {Q : Int → AH → Prop} {p1 : Int} {p2 : Int} {v3 : Int} {v4 : Int} {h : AH} (hy : ((v3 < v4 → (inb p1 40 ∧ Q (h.2.1 82 p1) h)) ∧ (v4 ≤ v3 → A_M_howMany_93 d Q p1 p2 v3 v4 0 h))) : A_M_howMany_84 d Q p1 p2 v3 v4 h := by
  show AW d M_M_howMany Q 84 [some (vR 12 (-1)), some (vI p1), some (vI p2), some (vI v3), some (vI v4), none] [] h
  refine a_iload dX11_howMany_84 rfl ?_
  refine a_iload_n dX11_howMany_86 rfl ?_
  refine a_icmp_gt (tgt := 142) dX11_howMany_87 (by decide) (fun c => ?_) (fun c => ?_)
  · have hy := hy.1 c
    refine a_aload_n dX11_howMany_142 rfl ?_
    refine a_getR dX11_howMany_143 fl_M_84 sk_12 rfl ?_
    refine a_iload_n dX11_howMany_146 rfl ?_
    obtain ⟨c1, hy⟩ := hy
    refine a_lald' dX11_howMany_147 sk_82 c1 (rfl) ?_
    exact a_lret dX11_howMany_148 rfl hy
  · have hy := hy.2 (Int.not_lt.mp c)
    refine a_iconst (x := 0) dX11_howMany_90 rfl ⟨by decide, by decide⟩ ?_
    refine a_istore (ls2 := [some (vR 12 (-1)), some (vI p1), some (vI p2), some (vI v3), some (vI v4), some (vI 0)]) dX11_howMany_91 (Nat.le_of_ble_eq_true rfl) rfl ?_
    exact hy
theorem s_M_howMany_93 {d : Nat} {Q : Int → AH → Prop} {p1 : Int} {p2 : Int} {v3 : Int} {v4 : Int} {v5 : Int} {h : AH} (hy : (((h.1 12 0) ≤ v5 → (inI (v4 + 1) ∧ A_M_howMany_84 d Q p1 p2 v3 (v4 + 1) h)) ∧ (v5 < (h.1 12 0) → (Call d M_M_leastOf [vR 12 (-1), vI v5, vI p2] h (fun r3 h2 => ((r3 ≠ v4 → (inI (v5 + 1) ∧ A_M_howMany_93 d Q p1 p2 v3 v4 (v5 + 1) h2)) ∧ (r3 = v4 → (Call d M_M_sumOf [vR 12 (-1), vI v5, vI p2, vI v4] h2 (fun r6 h5 => inb v5 40 ∧ (inI (v5 + 1) ∧ A_M_howMany_93 d Q p1 p2 v3 v4 (v5 + 1) (wL h5 82 v5 r6))))))))))) : A_M_howMany_93 d Q p1 p2 v3 v4 v5 h := by
  show AW d M_M_howMany Q 93 [some (vR 12 (-1)), some (vI p1), some (vI p2), some (vI v3), some (vI v4), some (vI v5)] [] h
  refine a_iload dX11_howMany_93 rfl ?_
  refine a_aload_n dX11_howMany_95 rfl ?_
  refine a_getI' (kz := 0) dX11_howMany_96 fl_M_130 sk_12 rfl rfl (rfl) ?_
  refine a_icmp_ge (tgt := 136) dX11_howMany_99 (by decide) (fun c => ?_) (fun c => ?_)
  · have hy := hy.1 c
    obtain ⟨c1, hy⟩ := hy
    refine a_iinc (y := v4 + 1) (ls2 := [some (vR 12 (-1)), some (vI p1), some (vI p2), some (vI v3), some (vI (v4 + 1)), some (vI v5)]) dX11_howMany_136 rfl rfl c1 rfl ?_
    refine a_goto (tgt := 84) dX11_howMany_139 (by decide) ?_
    refine a_mask [true, true, true, true, true, false] (ls2 := [some (vR 12 (-1)), some (vI p1), some (vI p2), some (vI v3), some (vI (v4 + 1)), none]) rfl rfl ?_
    exact hy
  · have hy := hy.2 (Int.not_le.mp c)
    refine a_aload_n dX11_howMany_102 rfl ?_
    refine a_iload dX11_howMany_103 rfl ?_
    refine a_iload_n dX11_howMany_105 rfl ?_
    refine a_callVi (as := [vI v5, vI p2]) (st := []) dX11_howMany_106 lk_M_314 sk_12 rfl rfl (Nat.le_of_ble_eq_true rfl) (Or.inl rfl) (Call.mono hy (fun r3 h2 _ hy => ?_))
    refine a_iload dX11_howMany_109 rfl ?_
    refine a_icmp_ne (tgt := 130) dX11_howMany_111 (by decide) (fun c => ?_) (fun c => ?_)
    · have hy := hy.1 c
      obtain ⟨c4, hy⟩ := hy
      refine a_iinc (y := v5 + 1) (ls2 := [some (vR 12 (-1)), some (vI p1), some (vI p2), some (vI v3), some (vI v4), some (vI (v5 + 1))]) dX11_howMany_130 rfl rfl c4 rfl ?_
      refine a_goto (tgt := 93) dX11_howMany_133 (by decide) ?_
      exact hy
    · have hy := hy.2 (Decidable.not_not.mp c)
      refine a_aload_n dX11_howMany_114 rfl ?_
      refine a_getR dX11_howMany_115 fl_M_84 sk_12 rfl ?_
      refine a_iload dX11_howMany_118 rfl ?_
      refine a_aload_n dX11_howMany_120 rfl ?_
      refine a_iload dX11_howMany_121 rfl ?_
      refine a_iload_n dX11_howMany_123 rfl ?_
      refine a_iload dX11_howMany_124 rfl ?_
      refine a_callVl (as := [vI v5, vI p2, vI v4]) (st := [vI v5, vR 82 (-1)]) dX11_howMany_126 lk_M_317 sk_12 rfl rfl (Nat.le_of_ble_eq_true rfl) rfl (Call.mono hy (fun r6 h5 _ hy => ?_))
      obtain ⟨c7, hy⟩ := hy
      refine a_last dX11_howMany_129 sk_82 c7 ?_
      obtain ⟨c8, hy⟩ := hy
      refine a_iinc (y := v5 + 1) (ls2 := [some (vR 12 (-1)), some (vI p1), some (vI p2), some (vI v3), some (vI v4), some (vI (v5 + 1))]) dX11_howMany_130 rfl rfl c8 rfl ?_
      refine a_goto (tgt := 93) dX11_howMany_133 (by decide) ?_
      exact hy
theorem c_M_howMany {d : Nat} (d0 : Nat) (hd : d0 < d) {p1 : Int} {p2 : Int} {h : AH} {Q : Int → AH → Prop} (hy : Call d0 M_M_isWord [vR 12 (-1), vI p1] h (fun r2 h1 => ((r2 = 0 → Q (-1) h1) ∧ (r2 ≠ 0 → (Call d0 M_M_isWord [vR 12 (-1), vI p2] h1 (fun r4 h3 => ((r4 ≠ 0 → (Call d0 M_M_laysWays [vR 12 (-1)] h3 (fun _ h5 => inI (40 * p1) ∧ (inI ((40 * p1) + p2) ∧ (inb ((40 * p1) + p2) 1600 ∧ (((h5.1 81 ((40 * p1) + p2)) < 1000000000 → A_M_howMany_44 d0 Q p1 p2 0 h5) ∧ (1000000000 ≤ (h5.1 81 ((40 * p1) + p2)) → Q 0 h5))))))) ∧ (r4 = 0 → Q (-1) h3)))))))) : Call d M_M_howMany [vR 12 (-1), vI p1, vI p2] h Q := by
  refine ⟨d0, hd, Big.of rfl (Nat.le_of_ble_eq_true rfl) ?_⟩
  show AW d0 M_M_howMany Q 0 [some (vR 12 (-1)), some (vI p1), some (vI p2), none, none, none] [] h
  refine a_aload_n dX11_howMany_0 rfl ?_
  refine a_iload_n dX11_howMany_1 rfl ?_
  refine a_callVi (as := [vI p1]) (st := []) dX11_howMany_2 lk_M_154 sk_12 rfl rfl (Nat.le_of_ble_eq_true rfl) (Or.inr rfl) (Call.mono hy (fun r2 h1 _ hy => ?_))
  refine a_if_eq (tgt := 16) dX11_howMany_5 (by decide) (fun c => ?_) (fun c => ?_)
  · have hy := hy.1 c
    refine a_ldc2 (x := (-1)) dX11_howMany_16 kc_M_312 ⟨by decide, by decide⟩ ?_
    exact a_lret dX11_howMany_19 rfl hy
  · have hy := hy.2 (c)
    refine a_aload_n dX11_howMany_8 rfl ?_
    refine a_iload_n dX11_howMany_9 rfl ?_
    refine a_callVi (as := [vI p2]) (st := []) dX11_howMany_10 lk_M_154 sk_12 rfl rfl (Nat.le_of_ble_eq_true rfl) (Or.inr rfl) (Call.mono hy (fun r4 h3 _ hy => ?_))
    refine a_if_ne (tgt := 20) dX11_howMany_13 (by decide) (fun c => ?_) (fun c => ?_)
    · have hy := hy.1 c
      refine a_aload_n dX11_howMany_20 rfl ?_
      refine a_callVv (as := []) (st := []) dX11_howMany_21 lk_M_306 sk_12 rfl rfl (Nat.le_of_ble_eq_true rfl) rfl (Call.mono hy (fun _ h5 _ hy => ?_))
      refine a_aload_n dX11_howMany_24 rfl ?_
      refine a_getR dX11_howMany_25 fl_M_81 sk_12 rfl ?_
      refine a_bipush (x := 40) dX11_howMany_28 (by decide) ⟨by decide, by decide⟩ ?_
      refine a_iload_n dX11_howMany_30 rfl ?_
      obtain ⟨c6, hy⟩ := hy
      refine a_imul dX11_howMany_31 c6 ?_
      refine a_iload_n dX11_howMany_32 rfl ?_
      obtain ⟨c7, hy⟩ := hy
      refine a_iadd dX11_howMany_33 c7 ?_
      obtain ⟨c8, hy⟩ := hy
      refine a_iald' dX11_howMany_34 sk_81 c8 (rfl) ?_
      refine a_ldc (x := 1000000000) dX11_howMany_35 kc_M_129 ⟨by decide, by decide⟩ ?_
      refine a_icmp_lt (tgt := 42) dX11_howMany_37 (by decide) (fun c => ?_) (fun c => ?_)
      · have hy := hy.1 c
        refine a_iconst (x := 0) dX11_howMany_42 rfl ⟨by decide, by decide⟩ ?_
        refine a_istore_n (i := 3) (ls2 := [some (vR 12 (-1)), some (vI p1), some (vI p2), some (vI 0), none, none]) dX11_howMany_43 rfl (Nat.le_of_ble_eq_true rfl) rfl ?_
        exact hy
      · have hy := hy.2 (Int.not_lt.mp c)
        refine a_lconst (x := 0) dX11_howMany_40 rfl ⟨by decide, by decide⟩ ?_
        exact a_lret dX11_howMany_41 rfl hy
    · have hy := hy.2 (Decidable.not_not.mp c)
      refine a_ldc2 (x := (-1)) dX11_howMany_16 kc_M_312 ⟨by decide, by decide⟩ ?_
      exact a_lret dX11_howMany_19 rfl hy
theorem c_M_in {d : Nat} (d0 : Nat) (hd : d0 < d) {p0 : Int} {p1 : Int} {p2 : Int} {h : AH} {Q : Int → AH → Prop} (hy : ((p0 < p1 → Q 0 h) ∧ (p1 ≤ p0 → ((p2 < p0 → Q 0 h) ∧ (p0 ≤ p2 → Q 1 h))))) : Call d M_M_in [vI p0, vI p1, vI p2] h Q := by
  refine ⟨d0, hd, Big.of rfl (Nat.le_of_ble_eq_true rfl) ?_⟩
  show AW d0 M_M_in Q 0 [some (vI p0), some (vI p1), some (vI p2)] [] h
  refine a_iload_n dX11_in_0 rfl ?_
  refine a_iload_n dX11_in_1 rfl ?_
  refine a_icmp_lt (tgt := 14) dX11_in_2 (by decide) (fun c => ?_) (fun c => ?_)
  · have hy := hy.1 c
    refine a_iconst (x := 0) dX11_in_14 rfl ⟨by decide, by decide⟩ ?_
    exact a_zret dX11_in_15 rfl (Or.inl rfl) hy
  · have hy := hy.2 (Int.not_lt.mp c)
    refine a_iload_n dX11_in_5 rfl ?_
    refine a_iload_n dX11_in_6 rfl ?_
    refine a_icmp_gt (tgt := 14) dX11_in_7 (by decide) (fun c => ?_) (fun c => ?_)
    · have hy := hy.1 c
      refine a_iconst (x := 0) dX11_in_14 rfl ⟨by decide, by decide⟩ ?_
      exact a_zret dX11_in_15 rfl (Or.inl rfl) hy
    · have hy := hy.2 (Int.not_lt.mp c)
      refine a_iconst (x := 1) dX11_in_10 rfl ⟨by decide, by decide⟩ ?_
      refine a_goto (tgt := 15) dX11_in_11 (by decide) ?_
      exact a_zret dX11_in_15 rfl (Or.inr rfl) hy
def A_M_isAheadOfNew_30 (d : Nat) (Q : Int → AH → Prop) (v1 : Int) (h : AH) : Prop := AW d M_M_isAheadOfNew Q 30 [some (vR 12 (-1)), some (vI v1)] [] h
theorem s_M_isAheadOfNew_30 {d : Nat} {Q : Int → AH → Prop} {v1 : Int} {h : AH} (hy : (((h.1 12 9) ≤ v1 → Q 0 h) ∧ (v1 < (h.1 12 9) → (inb v1 12 ∧ (inb v1 8 ∧ (((h.1 63 v1) = (h.1 84 v1) → (inI (v1 + 1) ∧ A_M_isAheadOfNew_30 d Q (v1 + 1) h)) ∧ ((h.1 63 v1) ≠ (h.1 84 v1) → (((h.1 84 v1) ≤ (h.1 63 v1) → Q 0 h) ∧ ((h.1 63 v1) < (h.1 84 v1) → Q 1 h))))))))) : A_M_isAheadOfNew_30 d Q v1 h := by
  show AW d M_M_isAheadOfNew Q 30 [some (vR 12 (-1)), some (vI v1)] [] h
  refine a_iload_n dX11_isAheadOfNew_30 rfl ?_
  refine a_aload_n dX11_isAheadOfNew_31 rfl ?_
  refine a_getI' (kz := 9) dX11_isAheadOfNew_32 fl_M_136 sk_12 rfl rfl (rfl) ?_
  refine a_icmp_ge (tgt := 80) dX11_isAheadOfNew_35 (by decide) (fun c => ?_) (fun c => ?_)
  · have hy := hy.1 c
    refine a_iconst (x := 0) dX11_isAheadOfNew_80 rfl ⟨by decide, by decide⟩ ?_
    exact a_zret dX11_isAheadOfNew_81 rfl (Or.inl rfl) hy
  · have hy := hy.2 (Int.not_le.mp c)
    refine a_aload_n dX11_isAheadOfNew_38 rfl ?_
    refine a_getR dX11_isAheadOfNew_39 fl_M_26 sk_12 rfl ?_
    refine a_iload_n dX11_isAheadOfNew_42 rfl ?_
    obtain ⟨c1, hy⟩ := hy
    refine a_iald' dX11_isAheadOfNew_43 sk_63 c1 (rfl) ?_
    refine a_aload_n dX11_isAheadOfNew_44 rfl ?_
    refine a_getR dX11_isAheadOfNew_45 fl_M_91 sk_12 rfl ?_
    refine a_iload_n dX11_isAheadOfNew_48 rfl ?_
    obtain ⟨c2, hy⟩ := hy
    refine a_iald' dX11_isAheadOfNew_49 sk_84 c2 (rfl) ?_
    refine a_icmp_eq (tgt := 74) dX11_isAheadOfNew_50 (by decide) (fun c => ?_) (fun c => ?_)
    · have hy := hy.1 c
      obtain ⟨c3, hy⟩ := hy
      refine a_iinc (y := v1 + 1) (ls2 := [some (vR 12 (-1)), some (vI (v1 + 1))]) dX11_isAheadOfNew_74 rfl rfl c3 rfl ?_
      refine a_goto (tgt := 30) dX11_isAheadOfNew_77 (by decide) ?_
      exact hy
    · have hy := hy.2 (c)
      refine a_aload_n dX11_isAheadOfNew_53 rfl ?_
      refine a_getR dX11_isAheadOfNew_54 fl_M_26 sk_12 rfl ?_
      refine a_iload_n dX11_isAheadOfNew_57 rfl ?_
      refine a_iald' dX11_isAheadOfNew_58 sk_63 c1 (rfl) ?_
      refine a_aload_n dX11_isAheadOfNew_59 rfl ?_
      refine a_getR dX11_isAheadOfNew_60 fl_M_91 sk_12 rfl ?_
      refine a_iload_n dX11_isAheadOfNew_63 rfl ?_
      refine a_iald' dX11_isAheadOfNew_64 sk_84 c2 (rfl) ?_
      refine a_icmp_ge (tgt := 72) dX11_isAheadOfNew_65 (by decide) (fun c => ?_) (fun c => ?_)
      · have hy := hy.1 c
        refine a_iconst (x := 0) dX11_isAheadOfNew_72 rfl ⟨by decide, by decide⟩ ?_
        exact a_zret dX11_isAheadOfNew_73 rfl (Or.inl rfl) hy
      · have hy := hy.2 (Int.not_le.mp c)
        refine a_iconst (x := 1) dX11_isAheadOfNew_68 rfl ⟨by decide, by decide⟩ ?_
        refine a_goto (tgt := 73) dX11_isAheadOfNew_69 (by decide) ?_
        exact a_zret dX11_isAheadOfNew_73 rfl (Or.inr rfl) hy
theorem c_M_isAheadOfNew {d : Nat} (d0 : Nat) (hd : d0 < d)  {h : AH} {Q : Int → AH → Prop} (hy : (((h.1 12 9) = (h.1 12 43) → A_M_isAheadOfNew_30 d0 Q 0 h) ∧ ((h.1 12 9) ≠ (h.1 12 43) → (((h.1 12 43) ≤ (h.1 12 9) → Q 0 h) ∧ ((h.1 12 9) < (h.1 12 43) → Q 1 h))))) : Call d M_M_isAheadOfNew [vR 12 (-1)] h Q := by
  refine ⟨d0, hd, Big.of rfl (Nat.le_of_ble_eq_true rfl) ?_⟩
  show AW d0 M_M_isAheadOfNew Q 0 [some (vR 12 (-1)), none] [] h
  refine a_aload_n dX11_isAheadOfNew_0 rfl ?_
  refine a_getI' (kz := 9) dX11_isAheadOfNew_1 fl_M_136 sk_12 rfl rfl (rfl) ?_
  refine a_aload_n dX11_isAheadOfNew_4 rfl ?_
  refine a_getI' (kz := 43) dX11_isAheadOfNew_5 fl_M_339 sk_12 rfl rfl (rfl) ?_
  refine a_icmp_eq (tgt := 28) dX11_isAheadOfNew_8 (by decide) (fun c => ?_) (fun c => ?_)
  · have hy := hy.1 c
    refine a_iconst (x := 0) dX11_isAheadOfNew_28 rfl ⟨by decide, by decide⟩ ?_
    refine a_istore_n (i := 1) (ls2 := [some (vR 12 (-1)), some (vI 0)]) dX11_isAheadOfNew_29 rfl (Nat.le_of_ble_eq_true rfl) rfl ?_
    exact hy
  · have hy := hy.2 (c)
    refine a_aload_n dX11_isAheadOfNew_11 rfl ?_
    refine a_getI' (kz := 9) dX11_isAheadOfNew_12 fl_M_136 sk_12 rfl rfl (rfl) ?_
    refine a_aload_n dX11_isAheadOfNew_15 rfl ?_
    refine a_getI' (kz := 43) dX11_isAheadOfNew_16 fl_M_339 sk_12 rfl rfl (rfl) ?_
    refine a_icmp_ge (tgt := 26) dX11_isAheadOfNew_19 (by decide) (fun c => ?_) (fun c => ?_)
    · have hy := hy.1 c
      refine a_iconst (x := 0) dX11_isAheadOfNew_26 rfl ⟨by decide, by decide⟩ ?_
      exact a_zret dX11_isAheadOfNew_27 rfl (Or.inl rfl) hy
    · have hy := hy.2 (Int.not_le.mp c)
      refine a_iconst (x := 1) dX11_isAheadOfNew_22 rfl ⟨by decide, by decide⟩ ?_
      refine a_goto (tgt := 27) dX11_isAheadOfNew_23 (by decide) ?_
      exact a_zret dX11_isAheadOfNew_27 rfl (Or.inr rfl) hy
